theorem dX9_getsAnswer_108 : decode cX9_getsAnswer 108 = .ok (.iaload, 1) := by decide +kernel
theorem dX9_getsAnswer_109 : decode cX9_getsAnswer 109 = .ok (.invokevirtual 139, 3) := by decide +kernel
theorem dX9_getsAnswer_112 : decode cX9_getsAnswer 112 = .ok (.aload_n 0, 1) := by decide +kernel
theorem dX9_getsAnswer_113 : decode cX9_getsAnswer 113 = .ok (.iload_n 1, 1) := by decide +kernel
theorem dX9_getsAnswer_114 : decode cX9_getsAnswer 114 = .ok (.bipush 50, 2) := by decide +kernel
theorem dX9_getsAnswer_116 : decode cX9_getsAnswer 116 = .ok (.iload_n 2, 1) := by decide +kernel
theorem dX9_getsAnswer_117 : decode cX9_getsAnswer 117 = .ok (.iadd, 1) := by decide +kernel
theorem dX9_getsAnswer_118 : decode cX9_getsAnswer 118 = .ok (.aload_n 0, 1) := by decide +kernel
theorem dX9_getsAnswer_119 : decode cX9_getsAnswer 119 = .ok (.iload_n 1, 1) := by decide +kernel
theorem dX9_getsAnswer_120 : decode cX9_getsAnswer 120 = .ok (.bipush 57, 2) := by decide +kernel
theorem dX9_getsAnswer_122 : decode cX9_getsAnswer 122 = .ok (.iload_n 2, 1) := by decide +kernel
theorem dX9_getsAnswer_123 : decode cX9_getsAnswer 123 = .ok (.iadd, 1) := by decide +kernel
theorem dX9_getsAnswer_124 : decode cX9_getsAnswer 124 = .ok (.invokevirtual 146, 3) := by decide +kernel
theorem dX9_getsAnswer_127 : decode cX9_getsAnswer 127 = .ok (.iconst 1, 1) := by decide +kernel
theorem dX9_getsAnswer_128 : decode cX9_getsAnswer 128 = .ok (.iadd, 1) := by decide +kernel
theorem dX9_getsAnswer_129 : decode cX9_getsAnswer 129 = .ok (.invokevirtual 139, 3) := by decide +kernel
theorem dX9_getsAnswer_132 : decode cX9_getsAnswer 132 = .ok (.goto 59, 3) := by decide +kernel
theorem dX9_getsAnswer_135 : decode cX9_getsAnswer 135 = .ok (.aload_n 0, 1) := by decide +kernel
theorem dX9_getsAnswer_136 : decode cX9_getsAnswer 136 = .ok (.iload_n 1, 1) := by decide +kernel
theorem dX9_getsAnswer_137 : decode cX9_getsAnswer 137 = .ok (.bipush 50, 2) := by decide +kernel
theorem dX9_getsAnswer_139 : decode cX9_getsAnswer 139 = .ok (.iload_n 2, 1) := by decide +kernel
theorem dX9_getsAnswer_140 : decode cX9_getsAnswer 140 = .ok (.iadd, 1) := by decide +kernel
theorem dX9_getsAnswer_141 : decode cX9_getsAnswer 141 = .ok (.invokevirtual 146, 3) := by decide +kernel
theorem dX9_getsAnswer_144 : decode cX9_getsAnswer 144 = .ok (.iconst 1, 1) := by decide +kernel
theorem dX9_getsAnswer_145 : decode cX9_getsAnswer 145 = .ok (.isub, 1) := by decide +kernel
theorem dX9_getsAnswer_146 : decode cX9_getsAnswer 146 = .ok (.istore_n 3, 1) := by decide +kernel
theorem dX9_getsAnswer_147 : decode cX9_getsAnswer 147 = .ok (.aload_n 0, 1) := by decide +kernel
theorem dX9_getsAnswer_148 : decode cX9_getsAnswer 148 = .ok (.getfield 41, 3) := by decide +kernel
theorem dX9_getsAnswer_151 : decode cX9_getsAnswer 151 = .ok (.iconst 5, 1) := by decide +kernel
theorem dX9_getsAnswer_152 : decode cX9_getsAnswer 152 = .ok (.iaload, 1) := by decide +kernel
theorem dX9_getsAnswer_153 : decode cX9_getsAnswer 153 = .ok (.iconst 1, 1) := by decide +kernel
theorem dX9_getsAnswer_154 : decode cX9_getsAnswer 154 = .ok (.iadd, 1) := by decide +kernel
theorem dX9_getsAnswer_155 : decode cX9_getsAnswer 155 = .ok (.iload_n 3, 1) := by decide +kernel
theorem dX9_getsAnswer_156 : decode cX9_getsAnswer 156 = .ok (.if_icmp .ge 14, 3) := by decide +kernel
theorem dX9_getsAnswer_159 : decode cX9_getsAnswer 159 = .ok (.aload_n 0, 1) := by decide +kernel
theorem dX9_getsAnswer_160 : decode cX9_getsAnswer 160 = .ok (.getfield 41, 3) := by decide +kernel
theorem dX9_getsAnswer_163 : decode cX9_getsAnswer 163 = .ok (.iconst 5, 1) := by decide +kernel
theorem dX9_getsAnswer_164 : decode cX9_getsAnswer 164 = .ok (.iaload, 1) := by decide +kernel
theorem dX9_getsAnswer_165 : decode cX9_getsAnswer 165 = .ok (.iconst 1, 1) := by decide +kernel
theorem dX9_getsAnswer_166 : decode cX9_getsAnswer 166 = .ok (.iadd, 1) := by decide +kernel
theorem dX9_getsAnswer_167 : decode cX9_getsAnswer 167 = .ok (.goto 4, 3) := by decide +kernel
theorem dX9_getsAnswer_170 : decode cX9_getsAnswer 170 = .ok (.iload_n 3, 1) := by decide +kernel
theorem dX9_getsAnswer_171 : decode cX9_getsAnswer 171 = .ok (.istore_n 3, 1) := by decide +kernel
theorem dX9_getsAnswer_172 : decode cX9_getsAnswer 172 = .ok (.aload_n 0, 1) := by decide +kernel
theorem dX9_getsAnswer_173 : decode cX9_getsAnswer 173 = .ok (.iload_n 1, 1) := by decide +kernel
theorem dX9_getsAnswer_174 : decode cX9_getsAnswer 174 = .ok (.bipush 50, 2) := by decide +kernel
theorem dX9_getsAnswer_176 : decode cX9_getsAnswer 176 = .ok (.iload_n 2, 1) := by decide +kernel
theorem dX9_getsAnswer_177 : decode cX9_getsAnswer 177 = .ok (.iadd, 1) := by decide +kernel
theorem dX9_getsAnswer_178 : decode cX9_getsAnswer 178 = .ok (.iload_n 3, 1) := by decide +kernel
theorem dX9_getsAnswer_179 : decode cX9_getsAnswer 179 = .ok (.iconst 1, 1) := by decide +kernel
theorem dX9_getsAnswer_180 : decode cX9_getsAnswer 180 = .ok (.if_icmp .ge 7, 3) := by decide +kernel
theorem dX9_getsAnswer_183 : decode cX9_getsAnswer 183 = .ok (.iconst 1, 1) := by decide +kernel
theorem dX9_getsAnswer_184 : decode cX9_getsAnswer 184 = .ok (.goto 4, 3) := by decide +kernel
theorem dX9_getsAnswer_187 : decode cX9_getsAnswer 187 = .ok (.iload_n 3, 1) := by decide +kernel
theorem dX9_getsAnswer_188 : decode cX9_getsAnswer 188 = .ok (.invokevirtual 139, 3) := by decide +kernel
theorem dX9_getsAnswer_191 : decode cX9_getsAnswer 191 = .ok (.aload_n 0, 1) := by decide +kernel
theorem dX9_getsAnswer_192 : decode cX9_getsAnswer 192 = .ok (.iload_n 1, 1) := by decide +kernel
theorem dX9_getsAnswer_193 : decode cX9_getsAnswer 193 = .ok (.invokevirtual 182, 3) := by decide +kernel
theorem dX9_getsAnswer_196 : decode cX9_getsAnswer 196 = .ok (.iconst 0, 1) := by decide +kernel
theorem dX9_getsAnswer_197 : decode cX9_getsAnswer 197 = .ok (.ireturn, 1) := by decide +kernel
theorem dX9_drop_0 : decode cX9_drop 0 = .ok (.aload_n 0, 1) := by decide +kernel
theorem dX9_drop_1 : decode cX9_drop 1 = .ok (.iload_n 1, 1) := by decide +kernel
theorem dX9_drop_2 : decode cX9_drop 2 = .ok (.invokevirtual 211, 3) := by decide +kernel
theorem dX9_drop_5 : decode cX9_drop 5 = .ok (.ifCond .ne 5, 3) := by decide +kernel
theorem dX9_drop_8 : decode cX9_drop 8 = .ok (.iconst (-1), 1) := by decide +kernel
theorem dX9_drop_9 : decode cX9_drop 9 = .ok (.ireturn, 1) := by decide +kernel
theorem dX9_drop_10 : decode cX9_drop 10 = .ok (.aload_n 0, 1) := by decide +kernel
theorem dX9_drop_11 : decode cX9_drop 11 = .ok (.iload_n 1, 1) := by decide +kernel
theorem dX9_drop_12 : decode cX9_drop 12 = .ok (.iconst 0, 1) := by decide +kernel
theorem dX9_drop_13 : decode cX9_drop 13 = .ok (.invokevirtual 186, 3) := by decide +kernel
theorem dX9_drop_16 : decode cX9_drop 16 = .ok (.istore_n 2, 1) := by decide +kernel
theorem dX9_drop_17 : decode cX9_drop 17 = .ok (.aload_n 0, 1) := by decide +kernel
theorem dX9_drop_18 : decode cX9_drop 18 = .ok (.iload_n 1, 1) := by decide +kernel
theorem dX9_drop_19 : decode cX9_drop 19 = .ok (.iconst 0, 1) := by decide +kernel
theorem dX9_drop_20 : decode cX9_drop 20 = .ok (.iconst (-1), 1) := by decide +kernel
theorem dX9_drop_21 : decode cX9_drop 21 = .ok (.invokevirtual 192, 3) := by decide +kernel
theorem dX9_drop_24 : decode cX9_drop 24 = .ok (.iload_n 2, 1) := by decide +kernel
theorem dX9_drop_25 : decode cX9_drop 25 = .ok (.ireturn, 1) := by decide +kernel
theorem dX9_twice_0 : decode cX9_twice 0 = .ok (.aload_n 0, 1) := by decide +kernel
theorem dX9_twice_1 : decode cX9_twice 1 = .ok (.iload_n 1, 1) := by decide +kernel
theorem dX9_twice_2 : decode cX9_twice 2 = .ok (.invokevirtual 211, 3) := by decide +kernel
theorem dX9_twice_5 : decode cX9_twice 5 = .ok (.ifCond .eq 10, 3) := by decide +kernel
theorem dX9_twice_8 : decode cX9_twice 8 = .ok (.aload_n 0, 1) := by decide +kernel
theorem dX9_twice_9 : decode cX9_twice 9 = .ok (.invokevirtual 189, 3) := by decide +kernel
theorem dX9_twice_12 : decode cX9_twice 12 = .ok (.ifCond .ge 5, 3) := by decide +kernel
theorem dX9_twice_15 : decode cX9_twice 15 = .ok (.iconst (-1), 1) := by decide +kernel
theorem dX9_twice_16 : decode cX9_twice 16 = .ok (.ireturn, 1) := by decide +kernel
theorem dX9_twice_17 : decode cX9_twice 17 = .ok (.aload_n 0, 1) := by decide +kernel
theorem dX9_twice_18 : decode cX9_twice 18 = .ok (.invokevirtual 189, 3) := by decide +kernel
theorem dX9_twice_21 : decode cX9_twice 21 = .ok (.istore_n 2, 1) := by decide +kernel
theorem dX9_twice_22 : decode cX9_twice 22 = .ok (.aload_n 0, 1) := by decide +kernel
theorem dX9_twice_23 : decode cX9_twice 23 = .ok (.sipush 2240, 3) := by decide +kernel
theorem dX9_twice_26 : decode cX9_twice 26 = .ok (.bipush 64, 2) := by decide +kernel
theorem dX9_twice_28 : decode cX9_twice 28 = .ok (.iload_n 1, 1) := by decide +kernel
theorem dX9_twice_29 : decode cX9_twice 29 = .ok (.imul, 1) := by decide +kernel
theorem dX9_twice_30 : decode cX9_twice 30 = .ok (.iadd, 1) := by decide +kernel
theorem dX9_twice_31 : decode cX9_twice 31 = .ok (.sipush 2240, 3) := by decide +kernel
theorem dX9_twice_34 : decode cX9_twice 34 = .ok (.bipush 64, 2) := by decide +kernel
theorem dX9_twice_36 : decode cX9_twice 36 = .ok (.iload_n 2, 1) := by decide +kernel
theorem dX9_twice_37 : decode cX9_twice 37 = .ok (.imul, 1) := by decide +kernel
theorem dX9_twice_38 : decode cX9_twice 38 = .ok (.iadd, 1) := by decide +kernel
theorem dX9_twice_39 : decode cX9_twice 39 = .ok (.bipush 64, 2) := by decide +kernel
theorem dX9_twice_41 : decode cX9_twice 41 = .ok (.invokevirtual 208, 3) := by decide +kernel
theorem dX9_twice_44 : decode cX9_twice 44 = .ok (.iload_n 2, 1) := by decide +kernel
theorem dX9_twice_45 : decode cX9_twice 45 = .ok (.ireturn, 1) := by decide +kernel
theorem dX9_fall_0 : decode cX9_fall 0 = .ok (.aload_n 0, 1) := by decide +kernel
theorem dX9_fall_1 : decode cX9_fall 1 = .ok (.iload_n 1, 1) := by decide +kernel
theorem dX9_fall_2 : decode cX9_fall 2 = .ok (.invokevirtual 150, 3) := by decide +kernel
theorem dX9_fall_5 : decode cX9_fall 5 = .ok (.ifCond .ne 5, 3) := by decide +kernel
theorem dX9_fall_8 : decode cX9_fall 8 = .ok (.iconst 0, 1) := by decide +kernel
theorem dX9_fall_9 : decode cX9_fall 9 = .ok (.ireturn, 1) := by decide +kernel
theorem dX9_fall_10 : decode cX9_fall 10 = .ok (.aload_n 0, 1) := by decide +kernel
theorem dX9_fall_11 : decode cX9_fall 11 = .ok (.iload_n 1, 1) := by decide +kernel
theorem dX9_fall_12 : decode cX9_fall 12 = .ok (.bipush 9, 2) := by decide +kernel
theorem dX9_fall_14 : decode cX9_fall 14 = .ok (.iconst 1, 1) := by decide +kernel
theorem dX9_fall_15 : decode cX9_fall 15 = .ok (.invokevirtual 139, 3) := by decide +kernel
theorem dX9_fall_18 : decode cX9_fall 18 = .ok (.aload_n 0, 1) := by decide +kernel
theorem dX9_fall_19 : decode cX9_fall 19 = .ok (.iload_n 1, 1) := by decide +kernel
theorem dX9_fall_20 : decode cX9_fall 20 = .ok (.iconst 5, 1) := by decide +kernel
theorem dX9_fall_21 : decode cX9_fall 21 = .ok (.iconst 0, 1) := by decide +kernel
theorem dX9_fall_22 : decode cX9_fall 22 = .ok (.invokevirtual 139, 3) := by decide +kernel
theorem dX9_fall_25 : decode cX9_fall 25 = .ok (.aload_n 0, 1) := by decide +kernel
theorem dX9_fall_26 : decode cX9_fall 26 = .ok (.iload_n 1, 1) := by decide +kernel
theorem dX9_fall_27 : decode cX9_fall 27 = .ok (.bipush 6, 2) := by decide +kernel
theorem dX9_fall_29 : decode cX9_fall 29 = .ok (.aload_n 0, 1) := by decide +kernel
theorem dX9_fall_30 : decode cX9_fall 30 = .ok (.iload_n 1, 1) := by decide +kernel
theorem dX9_fall_31 : decode cX9_fall 31 = .ok (.iconst 2, 1) := by decide +kernel
theorem dX9_fall_32 : decode cX9_fall 32 = .ok (.invokevirtual 146, 3) := by decide +kernel
theorem dX9_fall_35 : decode cX9_fall 35 = .ok (.invokevirtual 139, 3) := by decide +kernel
theorem dX9_fall_38 : decode cX9_fall 38 = .ok (.aload_n 0, 1) := by decide +kernel
theorem dX9_fall_39 : decode cX9_fall 39 = .ok (.sipush 320, 3) := by decide +kernel
theorem dX9_fall_42 : decode cX9_fall 42 = .ok (.iload_n 1, 1) := by decide +kernel
theorem dX9_fall_43 : decode cX9_fall 43 = .ok (.imul, 1) := by decide +kernel
theorem dX9_fall_44 : decode cX9_fall 44 = .ok (.bipush 10, 2) := by decide +kernel
theorem dX9_fall_46 : decode cX9_fall 46 = .ok (.iadd, 1) := by decide +kernel
theorem dX9_fall_47 : decode cX9_fall 47 = .ok (.sipush 320, 3) := by decide +kernel
theorem dX9_fall_50 : decode cX9_fall 50 = .ok (.iload_n 1, 1) := by decide +kernel
theorem dX9_fall_51 : decode cX9_fall 51 = .ok (.imul, 1) := by decide +kernel
theorem dX9_fall_52 : decode cX9_fall 52 = .ok (.bipush 30, 2) := by decide +kernel
theorem dX9_fall_54 : decode cX9_fall 54 = .ok (.iadd, 1) := by decide +kernel
theorem dX9_fall_55 : decode cX9_fall 55 = .ok (.bipush 20, 2) := by decide +kernel
theorem dX9_fall_57 : decode cX9_fall 57 = .ok (.invokevirtual 208, 3) := by decide +kernel
theorem dX9_fall_60 : decode cX9_fall 60 = .ok (.iconst 1, 1) := by decide +kernel
theorem dX9_fall_61 : decode cX9_fall 61 = .ok (.ireturn, 1) := by decide +kernel
theorem dX9_rise_0 : decode cX9_rise 0 = .ok (.aload_n 0, 1) := by decide +kernel
theorem dX9_rise_1 : decode cX9_rise 1 = .ok (.iload_n 1, 1) := by decide +kernel
theorem dX9_rise_2 : decode cX9_rise 2 = .ok (.invokevirtual 143, 3) := by decide +kernel
theorem dX9_rise_5 : decode cX9_rise 5 = .ok (.ifCond .eq 11, 3) := by decide +kernel
theorem dX9_rise_8 : decode cX9_rise 8 = .ok (.aload_n 0, 1) := by decide +kernel
theorem dX9_rise_9 : decode cX9_rise 9 = .ok (.iload_n 1, 1) := by decide +kernel
theorem dX9_rise_10 : decode cX9_rise 10 = .ok (.invokevirtual 150, 3) := by decide +kernel
theorem dX9_rise_13 : decode cX9_rise 13 = .ok (.ifCond .eq 5, 3) := by decide +kernel
theorem dX9_rise_16 : decode cX9_rise 16 = .ok (.iconst 0, 1) := by decide +kernel
theorem dX9_rise_17 : decode cX9_rise 17 = .ok (.ireturn, 1) := by decide +kernel
theorem dX9_rise_18 : decode cX9_rise 18 = .ok (.aload_n 0, 1) := by decide +kernel
theorem dX9_rise_19 : decode cX9_rise 19 = .ok (.iload_n 1, 1) := by decide +kernel
theorem dX9_rise_20 : decode cX9_rise 20 = .ok (.bipush 9, 2) := by decide +kernel
theorem dX9_rise_22 : decode cX9_rise 22 = .ok (.iconst 0, 1) := by decide +kernel
theorem dX9_rise_23 : decode cX9_rise 23 = .ok (.invokevirtual 139, 3) := by decide +kernel
theorem dX9_rise_26 : decode cX9_rise 26 = .ok (.iconst 1, 1) := by decide +kernel
theorem dX9_rise_27 : decode cX9_rise 27 = .ok (.ireturn, 1) := by decide +kernel
theorem dX9_fold_0 : decode cX9_fold 0 = .ok (.aload_n 0, 1) := by decide +kernel
theorem dX9_fold_1 : decode cX9_fold 1 = .ok (.iload_n 1, 1) := by decide +kernel
theorem dX9_fold_2 : decode cX9_fold 2 = .ok (.invokevirtual 150, 3) := by decide +kernel
theorem dX9_fold_5 : decode cX9_fold 5 = .ok (.ifCond .eq 24, 3) := by decide +kernel
theorem dX9_fold_8 : decode cX9_fold 8 = .ok (.iload_n 2, 1) := by decide +kernel
theorem dX9_fold_9 : decode cX9_fold 9 = .ok (.aload_n 0, 1) := by decide +kernel
theorem dX9_fold_10 : decode cX9_fold 10 = .ok (.iload_n 1, 1) := by decide +kernel
theorem dX9_fold_11 : decode cX9_fold 11 = .ok (.iconst 2, 1) := by decide +kernel
theorem dX9_fold_12 : decode cX9_fold 12 = .ok (.invokevirtual 146, 3) := by decide +kernel
theorem dX9_fold_15 : decode cX9_fold 15 = .ok (.if_icmp .le 14, 3) := by decide +kernel
theorem dX9_fold_18 : decode cX9_fold 18 = .ok (.iload_n 2, 1) := by decide +kernel
theorem dX9_fold_19 : decode cX9_fold 19 = .ok (.aload_n 0, 1) := by decide +kernel
theorem dX9_fold_20 : decode cX9_fold 20 = .ok (.iload_n 1, 1) := by decide +kernel
theorem dX9_fold_21 : decode cX9_fold 21 = .ok (.bipush 6, 2) := by decide +kernel
theorem dX9_fold_23 : decode cX9_fold 23 = .ok (.invokevirtual 146, 3) := by decide +kernel
theorem dX9_fold_26 : decode cX9_fold 26 = .ok (.if_icmp .le 5, 3) := by decide +kernel
theorem dX9_fold_29 : decode cX9_fold 29 = .ok (.iconst (-1), 1) := by decide +kernel
theorem dX9_fold_30 : decode cX9_fold 30 = .ok (.ireturn, 1) := by decide +kernel
theorem dX9_fold_31 : decode cX9_fold 31 = .ok (.aload_n 0, 1) := by decide +kernel
theorem dX9_fold_32 : decode cX9_fold 32 = .ok (.iload_n 1, 1) := by decide +kernel
theorem dX9_fold_33 : decode cX9_fold 33 = .ok (.iload_n 2, 1) := by decide +kernel
theorem dX9_fold_34 : decode cX9_fold 34 = .ok (.invokevirtual 172, 3) := by decide +kernel
theorem dX9_fold_37 : decode cX9_fold 37 = .ok (.istore_n 3, 1) := by decide +kernel
theorem dX9_fold_38 : decode cX9_fold 38 = .ok (.aload_n 0, 1) := by decide +kernel
theorem dX9_fold_39 : decode cX9_fold 39 = .ok (.iload_n 1, 1) := by decide +kernel
theorem dX9_fold_40 : decode cX9_fold 40 = .ok (.iconst 2, 1) := by decide +kernel
theorem dX9_fold_41 : decode cX9_fold 41 = .ok (.invokevirtual 146, 3) := by decide +kernel
theorem dX9_fold_44 : decode cX9_fold 44 = .ok (.iconst 1, 1) := by decide +kernel
theorem dX9_fold_45 : decode cX9_fold 45 = .ok (.iadd, 1) := by decide +kernel
theorem dX9_fold_46 : decode cX9_fold 46 = .ok (.istore 4, 2) := by decide +kernel
theorem dX9_fold_48 : decode cX9_fold 48 = .ok (.iload 4, 2) := by decide +kernel
theorem dX9_fold_50 : decode cX9_fold 50 = .ok (.iload_n 2, 1) := by decide +kernel
theorem dX9_fold_51 : decode cX9_fold 51 = .ok (.if_icmp .gt 28, 3) := by decide +kernel
theorem dX9_fold_54 : decode cX9_fold 54 = .ok (.aload_n 0, 1) := by decide +kernel
theorem dX9_fold_55 : decode cX9_fold 55 = .ok (.sipush 320, 3) := by decide +kernel
theorem dX9_fold_58 : decode cX9_fold 58 = .ok (.iload_n 1, 1) := by decide +kernel
theorem dX9_fold_59 : decode cX9_fold 59 = .ok (.imul, 1) := by decide +kernel
theorem dX9_fold_60 : decode cX9_fold 60 = .ok (.bipush 10, 2) := by decide +kernel
theorem dX9_fold_62 : decode cX9_fold 62 = .ok (.iadd, 1) := by decide +kernel
theorem dX9_fold_63 : decode cX9_fold 63 = .ok (.aload_n 0, 1) := by decide +kernel
theorem dX9_fold_64 : decode cX9_fold 64 = .ok (.iload_n 1, 1) := by decide +kernel
theorem dX9_fold_65 : decode cX9_fold 65 = .ok (.iload 4, 2) := by decide +kernel
theorem dX9_fold_67 : decode cX9_fold 67 = .ok (.invokevirtual 153, 3) := by decide +kernel
theorem dX9_fold_70 : decode cX9_fold 70 = .ok (.invokevirtual 163, 3) := by decide +kernel
theorem dX9_fold_73 : decode cX9_fold 73 = .ok (.iinc 4 1, 3) := by decide +kernel
theorem dX9_fold_76 : decode cX9_fold 76 = .ok (.goto (-28), 3) := by decide +kernel
theorem dX9_fold_79 : decode cX9_fold 79 = .ok (.aload_n 0, 1) := by decide +kernel
theorem dX9_fold_80 : decode cX9_fold 80 = .ok (.iload_n 1, 1) := by decide +kernel
theorem dX9_fold_81 : decode cX9_fold 81 = .ok (.iconst 4, 1) := by decide +kernel
theorem dX9_fold_82 : decode cX9_fold 82 = .ok (.invokevirtual 146, 3) := by decide +kernel
theorem dX9_fold_85 : decode cX9_fold 85 = .ok (.iload_n 2, 1) := by decide +kernel
theorem dX9_fold_86 : decode cX9_fold 86 = .ok (.isub, 1) := by decide +kernel
theorem dX9_fold_87 : decode cX9_fold 87 = .ok (.istore 4, 2) := by decide +kernel
theorem dX9_fold_89 : decode cX9_fold 89 = .ok (.aload_n 0, 1) := by decide +kernel
theorem dX9_fold_90 : decode cX9_fold 90 = .ok (.aload_n 0, 1) := by decide +kernel
theorem dX9_fold_91 : decode cX9_fold 91 = .ok (.iload_n 1, 1) := by decide +kernel
theorem dX9_fold_92 : decode cX9_fold 92 = .ok (.iload_n 2, 1) := by decide +kernel
theorem dX9_fold_93 : decode cX9_fold 93 = .ok (.invokevirtual 153, 3) := by decide +kernel
theorem dX9_fold_96 : decode cX9_fold 96 = .ok (.bipush 6, 2) := by decide +kernel
theorem dX9_fold_98 : decode cX9_fold 98 = .ok (.iadd, 1) := by decide +kernel
theorem dX9_fold_99 : decode cX9_fold 99 = .ok (.sipush 320, 3) := by decide +kernel
theorem dX9_fold_102 : decode cX9_fold 102 = .ok (.iload_n 1, 1) := by decide +kernel
theorem dX9_fold_103 : decode cX9_fold 103 = .ok (.imul, 1) := by decide +kernel
theorem dX9_fold_104 : decode cX9_fold 104 = .ok (.bipush 80, 2) := by decide +kernel
theorem dX9_fold_106 : decode cX9_fold 106 = .ok (.iadd, 1) := by decide +kernel
theorem dX9_fold_107 : decode cX9_fold 107 = .ok (.bipush 6, 2) := by decide +kernel
theorem dX9_fold_109 : decode cX9_fold 109 = .ok (.iload 4, 2) := by decide +kernel
theorem dX9_fold_111 : decode cX9_fold 111 = .ok (.imul, 1) := by decide +kernel
theorem dX9_fold_112 : decode cX9_fold 112 = .ok (.invokevirtual 208, 3) := by decide +kernel
theorem dX9_fold_115 : decode cX9_fold 115 = .ok (.aload_n 0, 1) := by decide +kernel
theorem dX9_fold_116 : decode cX9_fold 116 = .ok (.iload_n 1, 1) := by decide +kernel
theorem dX9_fold_117 : decode cX9_fold 117 = .ok (.iconst 2, 1) := by decide +kernel
theorem dX9_fold_118 : decode cX9_fold 118 = .ok (.iload_n 2, 1) := by decide +kernel
theorem dX9_fold_119 : decode cX9_fold 119 = .ok (.invokevirtual 139, 3) := by decide +kernel
theorem dX9_fold_122 : decode cX9_fold 122 = .ok (.aload_n 0, 1) := by decide +kernel
theorem dX9_fold_123 : decode cX9_fold 123 = .ok (.iload_n 1, 1) := by decide +kernel
theorem dX9_fold_124 : decode cX9_fold 124 = .ok (.iconst 3, 1) := by decide +kernel
theorem dX9_fold_125 : decode cX9_fold 125 = .ok (.iload_n 3, 1) := by decide +kernel
theorem dX9_fold_126 : decode cX9_fold 126 = .ok (.invokevirtual 139, 3) := by decide +kernel
theorem dX9_fold_129 : decode cX9_fold 129 = .ok (.aload_n 0, 1) := by decide +kernel
theorem dX9_fold_130 : decode cX9_fold 130 = .ok (.iload_n 1, 1) := by decide +kernel
theorem dX9_fold_131 : decode cX9_fold 131 = .ok (.invokevirtual 182, 3) := by decide +kernel
theorem dX9_fold_134 : decode cX9_fold 134 = .ok (.iload 4, 2) := by decide +kernel
theorem dX9_fold_136 : decode cX9_fold 136 = .ok (.ireturn, 1) := by decide +kernel
theorem dX9_read_0 : decode cX9_read 0 = .ok (.aload_n 0, 1) := by decide +kernel
theorem dX9_read_1 : decode cX9_read 1 = .ok (.getfield 16, 3) := by decide +kernel
theorem dX9_read_4 : decode cX9_read 4 = .ok (.sipush 4960, 3) := by decide +kernel
theorem dX9_read_7 : decode cX9_read 7 = .ok (.iaload, 1) := by decide +kernel
theorem dX9_read_8 : decode cX9_read 8 = .ok (.istore_n 3, 1) := by decide +kernel
theorem dX9_read_9 : decode cX9_read 9 = .ok (.aload_n 0, 1) := by decide +kernel
theorem dX9_read_10 : decode cX9_read 10 = .ok (.iload_n 1, 1) := by decide +kernel
theorem dX9_read_11 : decode cX9_read 11 = .ok (.invokevirtual 205, 3) := by decide +kernel
theorem dX9_read_14 : decode cX9_read 14 = .ok (.ifCond .eq 40, 3) := by decide +kernel
theorem dX9_read_17 : decode cX9_read 17 = .ok (.iload_n 2, 1) := by decide +kernel
theorem dX9_read_18 : decode cX9_read 18 = .ok (.iconst 0, 1) := by decide +kernel
theorem dX9_read_19 : decode cX9_read 19 = .ok (.bipush 7, 2) := by decide +kernel
theorem dX9_read_21 : decode cX9_read 21 = .ok (.invokestatic 132, 3) := by decide +kernel
theorem dX9_read_24 : decode cX9_read 24 = .ok (.ifCond .eq 30, 3) := by decide +kernel
theorem dX9_read_27 : decode cX9_read 27 = .ok (.iload_n 3, 1) := by decide +kernel
theorem dX9_read_28 : decode cX9_read 28 = .ok (.bipush 40, 2) := by decide +kernel
theorem dX9_read_30 : decode cX9_read 30 = .ok (.if_icmp .eq 24, 3) := by decide +kernel
theorem dX9_read_33 : decode cX9_read 33 = .ok (.aload_n 0, 1) := by decide +kernel
theorem dX9_read_34 : decode cX9_read 34 = .ok (.iload_n 1, 1) := by decide +kernel
theorem dX9_read_35 : decode cX9_read 35 = .ok (.aload_n 0, 1) := by decide +kernel
theorem dX9_read_36 : decode cX9_read 36 = .ok (.iload_n 1, 1) := by decide +kernel
theorem dX9_read_37 : decode cX9_read 37 = .ok (.bipush 6, 2) := by decide +kernel
theorem dX9_read_39 : decode cX9_read 39 = .ok (.invokevirtual 146, 3) := by decide +kernel
theorem dX9_read_42 : decode cX9_read 42 = .ok (.invokevirtual 172, 3) := by decide +kernel
theorem dX9_read_45 : decode cX9_read 45 = .ok (.aload_n 0, 1) := by decide +kernel
theorem dX9_read_46 : decode cX9_read 46 = .ok (.iload_n 1, 1) := by decide +kernel
theorem dX9_read_47 : decode cX9_read 47 = .ok (.iconst 0, 1) := by decide +kernel
theorem dX9_read_48 : decode cX9_read 48 = .ok (.invokevirtual 146, 3) := by decide +kernel
theorem dX9_read_51 : decode cX9_read 51 = .ok (.if_icmp .eq 5, 3) := by decide +kernel
theorem dX9_read_54 : decode cX9_read 54 = .ok (.iconst (-1), 1) := by decide +kernel
theorem dX9_read_55 : decode cX9_read 55 = .ok (.ireturn, 1) := by decide +kernel
theorem dX9_read_56 : decode cX9_read 56 = .ok (.aload_n 0, 1) := by decide +kernel
theorem dX9_read_57 : decode cX9_read 57 = .ok (.getfield 16, 3) := by decide +kernel
theorem dX9_read_60 : decode cX9_read 60 = .ok (.sipush 4800, 3) := by decide +kernel
theorem dX9_read_63 : decode cX9_read 63 = .ok (.iconst 4, 1) := by decide +kernel
theorem dX9_read_64 : decode cX9_read 64 = .ok (.iload_n 3, 1) := by decide +kernel
theorem dX9_read_65 : decode cX9_read 65 = .ok (.imul, 1) := by decide +kernel
theorem dX9_read_66 : decode cX9_read 66 = .ok (.iadd, 1) := by decide +kernel
theorem dX9_read_67 : decode cX9_read 67 = .ok (.iload_n 1, 1) := by decide +kernel
theorem dX9_read_68 : decode cX9_read 68 = .ok (.iastore, 1) := by decide +kernel
theorem dX9_read_69 : decode cX9_read 69 = .ok (.aload_n 0, 1) := by decide +kernel
theorem dX9_read_70 : decode cX9_read 70 = .ok (.getfield 16, 3) := by decide +kernel
theorem dX9_read_73 : decode cX9_read 73 = .ok (.sipush 4800, 3) := by decide +kernel
theorem dX9_read_76 : decode cX9_read 76 = .ok (.iconst 4, 1) := by decide +kernel
theorem dX9_read_77 : decode cX9_read 77 = .ok (.iload_n 3, 1) := by decide +kernel
theorem dX9_read_78 : decode cX9_read 78 = .ok (.imul, 1) := by decide +kernel
theorem dX9_read_79 : decode cX9_read 79 = .ok (.iadd, 1) := by decide +kernel
theorem dX9_read_80 : decode cX9_read 80 = .ok (.iconst 1, 1) := by decide +kernel
theorem dX9_read_81 : decode cX9_read 81 = .ok (.iadd, 1) := by decide +kernel
theorem dX9_read_82 : decode cX9_read 82 = .ok (.iload_n 2, 1) := by decide +kernel
theorem dX9_read_83 : decode cX9_read 83 = .ok (.iastore, 1) := by decide +kernel
theorem dX9_read_84 : decode cX9_read 84 = .ok (.aload_n 0, 1) := by decide +kernel
theorem dX9_read_85 : decode cX9_read 85 = .ok (.getfield 16, 3) := by decide +kernel
theorem dX9_read_88 : decode cX9_read 88 = .ok (.sipush 4800, 3) := by decide +kernel
theorem dX9_read_91 : decode cX9_read 91 = .ok (.iconst 4, 1) := by decide +kernel
theorem dX9_read_92 : decode cX9_read 92 = .ok (.iload_n 3, 1) := by decide +kernel
theorem dX9_read_93 : decode cX9_read 93 = .ok (.imul, 1) := by decide +kernel
theorem dX9_read_94 : decode cX9_read 94 = .ok (.iadd, 1) := by decide +kernel
theorem dX9_read_95 : decode cX9_read 95 = .ok (.iconst 2, 1) := by decide +kernel
theorem dX9_read_96 : decode cX9_read 96 = .ok (.iadd, 1) := by decide +kernel
theorem dX9_read_97 : decode cX9_read 97 = .ok (.aload_n 0, 1) := by decide +kernel
theorem dX9_read_98 : decode cX9_read 98 = .ok (.iload_n 1, 1) := by decide +kernel
theorem dX9_read_99 : decode cX9_read 99 = .ok (.iconst 0, 1) := by decide +kernel
theorem dX9_read_100 : decode cX9_read 100 = .ok (.invokevirtual 146, 3) := by decide +kernel
theorem dX9_read_103 : decode cX9_read 103 = .ok (.iastore, 1) := by decide +kernel
theorem dX9_read_104 : decode cX9_read 104 = .ok (.aload_n 0, 1) := by decide +kernel
theorem dX9_read_105 : decode cX9_read 105 = .ok (.getfield 16, 3) := by decide +kernel
theorem dX9_read_108 : decode cX9_read 108 = .ok (.sipush 4800, 3) := by decide +kernel
theorem dX9_read_111 : decode cX9_read 111 = .ok (.iconst 4, 1) := by decide +kernel
theorem dX9_read_112 : decode cX9_read 112 = .ok (.iload_n 3, 1) := by decide +kernel
theorem dX9_read_113 : decode cX9_read 113 = .ok (.imul, 1) := by decide +kernel
theorem dX9_read_114 : decode cX9_read 114 = .ok (.iadd, 1) := by decide +kernel
theorem dX9_read_115 : decode cX9_read 115 = .ok (.iconst 3, 1) := by decide +kernel
theorem dX9_read_116 : decode cX9_read 116 = .ok (.iadd, 1) := by decide +kernel
theorem dX9_read_117 : decode cX9_read 117 = .ok (.aload_n 0, 1) := by decide +kernel
theorem dX9_read_118 : decode cX9_read 118 = .ok (.iload_n 1, 1) := by decide +kernel
theorem dX9_read_119 : decode cX9_read 119 = .ok (.bipush 8, 2) := by decide +kernel
theorem dX9_read_121 : decode cX9_read 121 = .ok (.invokevirtual 146, 3) := by decide +kernel
theorem dX9_read_124 : decode cX9_read 124 = .ok (.iastore, 1) := by decide +kernel
theorem dX9_read_125 : decode cX9_read 125 = .ok (.aload_n 0, 1) := by decide +kernel
theorem dX9_read_126 : decode cX9_read 126 = .ok (.getfield 16, 3) := by decide +kernel
theorem dX9_read_129 : decode cX9_read 129 = .ok (.sipush 4960, 3) := by decide +kernel
theorem dX9_read_132 : decode cX9_read 132 = .ok (.dup2, 1) := by decide +kernel
theorem dX9_read_133 : decode cX9_read 133 = .ok (.iaload, 1) := by decide +kernel
theorem dX9_read_134 : decode cX9_read 134 = .ok (.iconst 1, 1) := by decide +kernel
theorem dX9_read_135 : decode cX9_read 135 = .ok (.iadd, 1) := by decide +kernel
theorem dX9_read_136 : decode cX9_read 136 = .ok (.iastore, 1) := by decide +kernel
theorem dX9_read_137 : decode cX9_read 137 = .ok (.iload_n 3, 1) := by decide +kernel
theorem dX9_read_138 : decode cX9_read 138 = .ok (.ireturn, 1) := by decide +kernel
theorem dX9_good_0 : decode cX9_good 0 = .ok (.iload_n 1, 1) := by decide +kernel
theorem dX9_good_1 : decode cX9_good 1 = .ok (.iconst 0, 1) := by decide +kernel
theorem dX9_good_2 : decode cX9_good 2 = .ok (.aload_n 0, 1) := by decide +kernel
theorem dX9_good_3 : decode cX9_good 3 = .ok (.getfield 16, 3) := by decide +kernel
theorem dX9_good_6 : decode cX9_good 6 = .ok (.sipush 4960, 3) := by decide +kernel
theorem dX9_good_9 : decode cX9_good 9 = .ok (.iaload, 1) := by decide +kernel
theorem dX9_good_10 : decode cX9_good 10 = .ok (.iconst 1, 1) := by decide +kernel
theorem dX9_good_11 : decode cX9_good 11 = .ok (.isub, 1) := by decide +kernel
theorem dX9_good_12 : decode cX9_good 12 = .ok (.invokestatic 132, 3) := by decide +kernel
theorem dX9_good_15 : decode cX9_good 15 = .ok (.ifCond .ne 6, 3) := by decide +kernel
theorem dX9_good_18 : decode cX9_good 18 = .ok (.ldc 236, 2) := by decide +kernel
theorem dX9_good_20 : decode cX9_good 20 = .ok (.ireturn, 1) := by decide +kernel
theorem dX9_good_21 : decode cX9_good 21 = .ok (.aload_n 0, 1) := by decide +kernel
theorem dX9_good_22 : decode cX9_good 22 = .ok (.getfield 16, 3) := by decide +kernel
theorem dX9_good_25 : decode cX9_good 25 = .ok (.sipush 4800, 3) := by decide +kernel
theorem dX9_good_28 : decode cX9_good 28 = .ok (.iconst 4, 1) := by decide +kernel
theorem dX9_good_29 : decode cX9_good 29 = .ok (.iload_n 1, 1) := by decide +kernel
theorem dX9_good_30 : decode cX9_good 30 = .ok (.imul, 1) := by decide +kernel
theorem dX9_good_31 : decode cX9_good 31 = .ok (.iadd, 1) := by decide +kernel
theorem dX9_good_32 : decode cX9_good 32 = .ok (.iaload, 1) := by decide +kernel
theorem dX9_good_33 : decode cX9_good 33 = .ok (.istore_n 2, 1) := by decide +kernel
theorem dX9_good_34 : decode cX9_good 34 = .ok (.aload_n 0, 1) := by decide +kernel
theorem dX9_good_35 : decode cX9_good 35 = .ok (.iload_n 2, 1) := by decide +kernel
theorem dX9_good_36 : decode cX9_good 36 = .ok (.invokevirtual 205, 3) := by decide +kernel
theorem dX9_good_39 : decode cX9_good 39 = .ok (.ifCond .eq 26, 3) := by decide +kernel
theorem dX9_good_42 : decode cX9_good 42 = .ok (.aload_n 0, 1) := by decide +kernel
theorem dX9_good_43 : decode cX9_good 43 = .ok (.iload_n 2, 1) := by decide +kernel
theorem dX9_good_44 : decode cX9_good 44 = .ok (.iconst 0, 1) := by decide +kernel
theorem dX9_good_45 : decode cX9_good 45 = .ok (.invokevirtual 146, 3) := by decide +kernel
theorem dX9_good_48 : decode cX9_good 48 = .ok (.aload_n 0, 1) := by decide +kernel
theorem dX9_good_49 : decode cX9_good 49 = .ok (.getfield 16, 3) := by decide +kernel
theorem dX9_good_52 : decode cX9_good 52 = .ok (.sipush 4800, 3) := by decide +kernel
theorem dX9_good_55 : decode cX9_good 55 = .ok (.iconst 4, 1) := by decide +kernel
theorem dX9_good_56 : decode cX9_good 56 = .ok (.iload_n 1, 1) := by decide +kernel
theorem dX9_good_57 : decode cX9_good 57 = .ok (.imul, 1) := by decide +kernel
theorem dX9_good_58 : decode cX9_good 58 = .ok (.iadd, 1) := by decide +kernel
theorem dX9_good_59 : decode cX9_good 59 = .ok (.iconst 2, 1) := by decide +kernel
theorem dX9_good_60 : decode cX9_good 60 = .ok (.iadd, 1) := by decide +kernel
theorem dX9_good_61 : decode cX9_good 61 = .ok (.iaload, 1) := by decide +kernel
theorem dX9_good_62 : decode cX9_good 62 = .ok (.if_icmp .eq 6, 3) := by decide +kernel
theorem dX9_good_65 : decode cX9_good 65 = .ok (.ldc 236, 2) := by decide +kernel
theorem dX9_good_67 : decode cX9_good 67 = .ok (.ireturn, 1) := by decide +kernel
theorem dX9_good_68 : decode cX9_good 68 = .ok (.iconst 0, 1) := by decide +kernel
theorem dX9_good_69 : decode cX9_good 69 = .ok (.istore_n 3, 1) := by decide +kernel
theorem dX9_good_70 : decode cX9_good 70 = .ok (.iconst 0, 1) := by decide +kernel
theorem dX9_good_71 : decode cX9_good 71 = .ok (.istore 4, 2) := by decide +kernel
theorem dX9_good_73 : decode cX9_good 73 = .ok (.iload 4, 2) := by decide +kernel
theorem dX9_good_75 : decode cX9_good 75 = .ok (.aload_n 0, 1) := by decide +kernel
theorem dX9_good_76 : decode cX9_good 76 = .ok (.invokevirtual 128, 3) := by decide +kernel
theorem dX9_good_79 : decode cX9_good 79 = .ok (.if_icmp .ge 59, 3) := by decide +kernel
theorem dX9_good_82 : decode cX9_good 82 = .ok (.iload_n 3, 1) := by decide +kernel
theorem dX9_good_83 : decode cX9_good 83 = .ok (.aload_n 0, 1) := by decide +kernel
theorem dX9_good_84 : decode cX9_good 84 = .ok (.iload 4, 2) := by decide +kernel
theorem dX9_good_86 : decode cX9_good 86 = .ok (.invokevirtual 166, 3) := by decide +kernel
theorem dX9_good_89 : decode cX9_good 89 = .ok (.ifCond .eq 40, 3) := by decide +kernel
theorem dX9_good_92 : decode cX9_good 92 = .ok (.iload 4, 2) := by decide +kernel
theorem dX9_good_94 : decode cX9_good 94 = .ok (.iload_n 2, 1) := by decide +kernel
theorem dX9_good_95 : decode cX9_good 95 = .ok (.if_icmp .eq 30, 3) := by decide +kernel
theorem dX9_good_98 : decode cX9_good 98 = .ok (.aload_n 0, 1) := by decide +kernel
theorem dX9_good_99 : decode cX9_good 99 = .ok (.iload_n 2, 1) := by decide +kernel
theorem dX9_good_100 : decode cX9_good 100 = .ok (.bipush 64, 2) := by decide +kernel
theorem dX9_good_102 : decode cX9_good 102 = .ok (.iload 4, 2) := by decide +kernel
theorem dX9_good_104 : decode cX9_good 104 = .ok (.iadd, 1) := by decide +kernel
theorem dX9_good_105 : decode cX9_good 105 = .ok (.invokevirtual 146, 3) := by decide +kernel
theorem dX9_good_108 : decode cX9_good 108 = .ok (.aload_n 0, 1) := by decide +kernel
theorem dX9_good_109 : decode cX9_good 109 = .ok (.getfield 16, 3) := by decide +kernel
theorem dX9_good_112 : decode cX9_good 112 = .ok (.sipush 4800, 3) := by decide +kernel
theorem dX9_good_115 : decode cX9_good 115 = .ok (.iconst 4, 1) := by decide +kernel
theorem dX9_good_116 : decode cX9_good 116 = .ok (.iload_n 1, 1) := by decide +kernel
theorem dX9_good_117 : decode cX9_good 117 = .ok (.imul, 1) := by decide +kernel
theorem dX9_good_118 : decode cX9_good 118 = .ok (.iadd, 1) := by decide +kernel
theorem dX9_good_119 : decode cX9_good 119 = .ok (.iconst 3, 1) := by decide +kernel
theorem dX9_good_120 : decode cX9_good 120 = .ok (.iadd, 1) := by decide +kernel
theorem dX9_good_121 : decode cX9_good 121 = .ok (.iaload, 1) := by decide +kernel
theorem dX9_good_122 : decode cX9_good 122 = .ok (.if_icmp .le 7, 3) := by decide +kernel
theorem dX9_good_125 : decode cX9_good 125 = .ok (.iconst 1, 1) := by decide +kernel
theorem dX9_good_126 : decode cX9_good 126 = .ok (.goto 4, 3) := by decide +kernel
theorem dX9_good_129 : decode cX9_good 129 = .ok (.iconst 0, 1) := by decide +kernel
theorem dX9_good_130 : decode cX9_good 130 = .ok (.iadd, 1) := by decide +kernel
theorem dX9_good_131 : decode cX9_good 131 = .ok (.istore_n 3, 1) := by decide +kernel
theorem dX9_good_132 : decode cX9_good 132 = .ok (.iinc 4 1, 3) := by decide +kernel
theorem dX9_good_135 : decode cX9_good 135 = .ok (.goto (-62), 3) := by decide +kernel
theorem dX9_good_138 : decode cX9_good 138 = .ok (.iload_n 3, 1) := by decide +kernel
theorem dX9_good_139 : decode cX9_good 139 = .ok (.aload_n 0, 1) := by decide +kernel
theorem dX9_good_140 : decode cX9_good 140 = .ok (.invokevirtual 169, 3) := by decide +kernel
theorem dX9_good_143 : decode cX9_good 143 = .ok (.if_icmp .lt 28, 3) := by decide +kernel
theorem dX9_good_146 : decode cX9_good 146 = .ok (.aload_n 0, 1) := by decide +kernel
theorem dX9_good_147 : decode cX9_good 147 = .ok (.iload_n 2, 1) := by decide +kernel
theorem dX9_good_148 : decode cX9_good 148 = .ok (.bipush 30, 2) := by decide +kernel
theorem dX9_good_150 : decode cX9_good 150 = .ok (.aload_n 0, 1) := by decide +kernel
theorem dX9_good_151 : decode cX9_good 151 = .ok (.getfield 16, 3) := by decide +kernel
theorem dX9_good_154 : decode cX9_good 154 = .ok (.sipush 4800, 3) := by decide +kernel
theorem dX9_good_157 : decode cX9_good 157 = .ok (.iconst 4, 1) := by decide +kernel
theorem dX9_good_158 : decode cX9_good 158 = .ok (.iload_n 1, 1) := by decide +kernel
theorem dX9_good_159 : decode cX9_good 159 = .ok (.imul, 1) := by decide +kernel
theorem dX9_good_160 : decode cX9_good 160 = .ok (.iadd, 1) := by decide +kernel
theorem dX9_good_161 : decode cX9_good 161 = .ok (.iconst 1, 1) := by decide +kernel
theorem dX9_good_162 : decode cX9_good 162 = .ok (.iadd, 1) := by decide +kernel
theorem dX9_good_163 : decode cX9_good 163 = .ok (.iaload, 1) := by decide +kernel
theorem dX9_good_164 : decode cX9_good 164 = .ok (.iadd, 1) := by decide +kernel
theorem dX9_good_165 : decode cX9_good 165 = .ok (.invokevirtual 146, 3) := by decide +kernel
theorem dX9_good_168 : decode cX9_good 168 = .ok (.goto 5, 3) := by decide +kernel
theorem dX9_good_171 : decode cX9_good 171 = .ok (.ldc 236, 2) := by decide +kernel
theorem dX9_good_173 : decode cX9_good 173 = .ok (.ireturn, 1) := by decide +kernel
theorem dX9_keeper_0 : decode cX9_keeper 0 = .ok (.aload_n 0, 1) := by decide +kernel
theorem dX9_keeper_1 : decode cX9_keeper 1 = .ok (.iload_n 1, 1) := by decide +kernel
theorem dX9_keeper_2 : decode cX9_keeper 2 = .ok (.invokevirtual 143, 3) := by decide +kernel
theorem dX9_keeper_5 : decode cX9_keeper 5 = .ok (.ifCond .ne 6, 3) := by decide +kernel
theorem dX9_keeper_8 : decode cX9_keeper 8 = .ok (.bipush (-2), 2) := by decide +kernel
theorem dX9_keeper_10 : decode cX9_keeper 10 = .ok (.ireturn, 1) := by decide +kernel
theorem dX9_keeper_11 : decode cX9_keeper 11 = .ok (.iload_n 2, 1) := by decide +kernel
theorem dX9_keeper_12 : decode cX9_keeper 12 = .ok (.tableswitch 164 0 9 #[56, 63, 70, 77, 84, 91, 99, 107, 128, 150], 56) := by decide +kernel
theorem dX9_keeper_68 : decode cX9_keeper 68 = .ok (.aload_n 0, 1) := by decide +kernel
theorem dX9_keeper_69 : decode cX9_keeper 69 = .ok (.iload_n 1, 1) := by decide +kernel
theorem dX9_keeper_70 : decode cX9_keeper 70 = .ok (.iconst 0, 1) := by decide +kernel
theorem dX9_keeper_71 : decode cX9_keeper 71 = .ok (.invokevirtual 146, 3) := by decide +kernel
theorem dX9_keeper_74 : decode cX9_keeper 74 = .ok (.ireturn, 1) := by decide +kernel
theorem dX9_keeper_75 : decode cX9_keeper 75 = .ok (.aload_n 0, 1) := by decide +kernel
theorem dX9_keeper_76 : decode cX9_keeper 76 = .ok (.iload_n 1, 1) := by decide +kernel
theorem dX9_keeper_77 : decode cX9_keeper 77 = .ok (.iconst 1, 1) := by decide +kernel
theorem dX9_keeper_78 : decode cX9_keeper 78 = .ok (.invokevirtual 146, 3) := by decide +kernel
theorem dX9_keeper_81 : decode cX9_keeper 81 = .ok (.ireturn, 1) := by decide +kernel
theorem dX9_keeper_82 : decode cX9_keeper 82 = .ok (.aload_n 0, 1) := by decide +kernel
theorem dX9_keeper_83 : decode cX9_keeper 83 = .ok (.iload_n 1, 1) := by decide +kernel
theorem dX9_keeper_84 : decode cX9_keeper 84 = .ok (.iconst 5, 1) := by decide +kernel
theorem dX9_keeper_85 : decode cX9_keeper 85 = .ok (.invokevirtual 146, 3) := by decide +kernel
theorem dX9_keeper_88 : decode cX9_keeper 88 = .ok (.ireturn, 1) := by decide +kernel
theorem dX9_keeper_89 : decode cX9_keeper 89 = .ok (.aload_n 0, 1) := by decide +kernel
theorem dX9_keeper_90 : decode cX9_keeper 90 = .ok (.iload_n 1, 1) := by decide +kernel
theorem dX9_keeper_91 : decode cX9_keeper 91 = .ok (.iconst 2, 1) := by decide +kernel
theorem dX9_keeper_92 : decode cX9_keeper 92 = .ok (.invokevirtual 146, 3) := by decide +kernel
theorem dX9_keeper_95 : decode cX9_keeper 95 = .ok (.ireturn, 1) := by decide +kernel
theorem dX9_keeper_96 : decode cX9_keeper 96 = .ok (.aload_n 0, 1) := by decide +kernel
theorem dX9_keeper_97 : decode cX9_keeper 97 = .ok (.iload_n 1, 1) := by decide +kernel
theorem dX9_keeper_98 : decode cX9_keeper 98 = .ok (.iconst 4, 1) := by decide +kernel
theorem dX9_keeper_99 : decode cX9_keeper 99 = .ok (.invokevirtual 146, 3) := by decide +kernel
theorem dX9_keeper_102 : decode cX9_keeper 102 = .ok (.ireturn, 1) := by decide +kernel
theorem dX9_keeper_103 : decode cX9_keeper 103 = .ok (.aload_n 0, 1) := by decide +kernel
theorem dX9_keeper_104 : decode cX9_keeper 104 = .ok (.iload_n 1, 1) := by decide +kernel
theorem dX9_keeper_105 : decode cX9_keeper 105 = .ok (.bipush 6, 2) := by decide +kernel
theorem dX9_keeper_107 : decode cX9_keeper 107 = .ok (.invokevirtual 146, 3) := by decide +kernel
theorem dX9_keeper_110 : decode cX9_keeper 110 = .ok (.ireturn, 1) := by decide +kernel
theorem dX9_keeper_111 : decode cX9_keeper 111 = .ok (.aload_n 0, 1) := by decide +kernel
theorem dX9_keeper_112 : decode cX9_keeper 112 = .ok (.iload_n 1, 1) := by decide +kernel
theorem dX9_keeper_113 : decode cX9_keeper 113 = .ok (.bipush 9, 2) := by decide +kernel
theorem dX9_keeper_115 : decode cX9_keeper 115 = .ok (.invokevirtual 146, 3) := by decide +kernel
theorem dX9_keeper_118 : decode cX9_keeper 118 = .ok (.ireturn, 1) := by decide +kernel
theorem dX9_keeper_119 : decode cX9_keeper 119 = .ok (.aload_n 0, 1) := by decide +kernel
theorem dX9_keeper_120 : decode cX9_keeper 120 = .ok (.iload_n 1, 1) := by decide +kernel
theorem dX9_keeper_121 : decode cX9_keeper 121 = .ok (.iconst 5, 1) := by decide +kernel
theorem dX9_keeper_122 : decode cX9_keeper 122 = .ok (.invokevirtual 146, 3) := by decide +kernel
theorem dX9_keeper_125 : decode cX9_keeper 125 = .ok (.ifCond .ne 7, 3) := by decide +kernel
theorem dX9_keeper_128 : decode cX9_keeper 128 = .ok (.iconst 0, 1) := by decide +kernel
theorem dX9_keeper_129 : decode cX9_keeper 129 = .ok (.goto 10, 3) := by decide +kernel
theorem dX9_keeper_132 : decode cX9_keeper 132 = .ok (.aload_n 0, 1) := by decide +kernel
theorem dX9_keeper_133 : decode cX9_keeper 133 = .ok (.iload_n 1, 1) := by decide +kernel
theorem dX9_keeper_134 : decode cX9_keeper 134 = .ok (.bipush 7, 2) := by decide +kernel
theorem dX9_keeper_136 : decode cX9_keeper 136 = .ok (.invokevirtual 146, 3) := by decide +kernel
theorem dX9_keeper_139 : decode cX9_keeper 139 = .ok (.ireturn, 1) := by decide +kernel
theorem dX9_keeper_140 : decode cX9_keeper 140 = .ok (.aload_n 0, 1) := by decide +kernel
theorem dX9_keeper_141 : decode cX9_keeper 141 = .ok (.iload_n 1, 1) := by decide +kernel
theorem dX9_keeper_142 : decode cX9_keeper 142 = .ok (.iconst 5, 1) := by decide +kernel
theorem dX9_keeper_143 : decode cX9_keeper 143 = .ok (.invokevirtual 146, 3) := by decide +kernel
theorem dX9_keeper_146 : decode cX9_keeper 146 = .ok (.iconst 2, 1) := by decide +kernel
theorem dX9_keeper_147 : decode cX9_keeper 147 = .ok (.if_icmp .ne 13, 3) := by decide +kernel
theorem dX9_keeper_150 : decode cX9_keeper 150 = .ok (.aload_n 0, 1) := by decide +kernel
theorem dX9_keeper_151 : decode cX9_keeper 151 = .ok (.iload_n 1, 1) := by decide +kernel
theorem dX9_keeper_152 : decode cX9_keeper 152 = .ok (.bipush 8, 2) := by decide +kernel
theorem dX9_keeper_154 : decode cX9_keeper 154 = .ok (.invokevirtual 146, 3) := by decide +kernel
theorem dX9_keeper_157 : decode cX9_keeper 157 = .ok (.goto 4, 3) := by decide +kernel
theorem dX9_keeper_160 : decode cX9_keeper 160 = .ok (.iconst 0, 1) := by decide +kernel
theorem dX9_keeper_161 : decode cX9_keeper 161 = .ok (.ireturn, 1) := by decide +kernel
theorem dX9_keeper_162 : decode cX9_keeper 162 = .ok (.aload_n 0, 1) := by decide +kernel
theorem dX9_keeper_163 : decode cX9_keeper 163 = .ok (.iload_n 1, 1) := by decide +kernel
theorem dX9_keeper_164 : decode cX9_keeper 164 = .ok (.invokevirtual 166, 3) := by decide +kernel
theorem dX9_keeper_167 : decode cX9_keeper 167 = .ok (.ifCond .eq 7, 3) := by decide +kernel
theorem dX9_keeper_170 : decode cX9_keeper 170 = .ok (.iconst 1, 1) := by decide +kernel
theorem dX9_keeper_171 : decode cX9_keeper 171 = .ok (.goto 4, 3) := by decide +kernel
theorem dX9_keeper_174 : decode cX9_keeper 174 = .ok (.iconst 0, 1) := by decide +kernel
theorem dX9_keeper_175 : decode cX9_keeper 175 = .ok (.ireturn, 1) := by decide +kernel
theorem dX9_keeper_176 : decode cX9_keeper 176 = .ok (.bipush (-2), 2) := by decide +kernel
theorem dX9_keeper_178 : decode cX9_keeper 178 = .ok (.ireturn, 1) := by decide +kernel
theorem dX9_entry_0 : decode cX9_entry 0 = .ok (.aload_n 0, 1) := by decide +kernel
theorem dX9_entry_1 : decode cX9_entry 1 = .ok (.iload_n 1, 1) := by decide +kernel
theorem dX9_entry_2 : decode cX9_entry 2 = .ok (.invokevirtual 143, 3) := by decide +kernel
theorem dX9_entry_5 : decode cX9_entry 5 = .ok (.ifCond .eq 48, 3) := by decide +kernel
theorem dX9_entry_8 : decode cX9_entry 8 = .ok (.iload_n 2, 1) := by decide +kernel
theorem dX9_entry_9 : decode cX9_entry 9 = .ok (.aload_n 0, 1) := by decide +kernel
theorem dX9_entry_10 : decode cX9_entry 10 = .ok (.iload_n 1, 1) := by decide +kernel
theorem dX9_entry_11 : decode cX9_entry 11 = .ok (.iconst 2, 1) := by decide +kernel
theorem dX9_entry_12 : decode cX9_entry 12 = .ok (.invokevirtual 146, 3) := by decide +kernel
theorem dX9_entry_15 : decode cX9_entry 15 = .ok (.if_icmp .le 38, 3) := by decide +kernel
theorem dX9_entry_18 : decode cX9_entry 18 = .ok (.iload_n 2, 1) := by decide +kernel
theorem dX9_entry_19 : decode cX9_entry 19 = .ok (.aload_n 0, 1) := by decide +kernel
theorem dX9_entry_20 : decode cX9_entry 20 = .ok (.iload_n 1, 1) := by decide +kernel
theorem dX9_entry_21 : decode cX9_entry 21 = .ok (.iconst 4, 1) := by decide +kernel
theorem dX9_entry_22 : decode cX9_entry 22 = .ok (.invokevirtual 146, 3) := by decide +kernel
theorem dX9_entry_25 : decode cX9_entry 25 = .ok (.if_icmp .gt 28, 3) := by decide +kernel
theorem dX9_entry_28 : decode cX9_entry 28 = .ok (.iload_n 3, 1) := by decide +kernel
theorem dX9_entry_29 : decode cX9_entry 29 = .ok (.iconst 0, 1) := by decide +kernel
theorem dX9_entry_30 : decode cX9_entry 30 = .ok (.iconst 5, 1) := by decide +kernel
theorem dX9_entry_31 : decode cX9_entry 31 = .ok (.invokestatic 132, 3) := by decide +kernel
theorem dX9_entry_34 : decode cX9_entry 34 = .ok (.ifCond .eq 19, 3) := by decide +kernel
theorem dX9_entry_37 : decode cX9_entry 37 = .ok (.aload_n 0, 1) := by decide +kernel
theorem dX9_entry_38 : decode cX9_entry 38 = .ok (.getfield 16, 3) := by decide +kernel
theorem dX9_entry_41 : decode cX9_entry 41 = .ok (.aload_n 0, 1) := by decide +kernel
theorem dX9_entry_42 : decode cX9_entry 42 = .ok (.iload_n 1, 1) := by decide +kernel
theorem dX9_entry_43 : decode cX9_entry 43 = .ok (.iload_n 2, 1) := by decide +kernel
theorem dX9_entry_44 : decode cX9_entry 44 = .ok (.invokevirtual 153, 3) := by decide +kernel
theorem dX9_entry_47 : decode cX9_entry 47 = .ok (.iload_n 3, 1) := by decide +kernel
theorem dX9_entry_48 : decode cX9_entry 48 = .ok (.iadd, 1) := by decide +kernel
theorem dX9_entry_49 : decode cX9_entry 49 = .ok (.iaload, 1) := by decide +kernel
theorem dX9_entry_50 : decode cX9_entry 50 = .ok (.goto 5, 3) := by decide +kernel
theorem dX9_entry_53 : decode cX9_entry 53 = .ok (.ldc 236, 2) := by decide +kernel
theorem dX9_entry_55 : decode cX9_entry 55 = .ok (.ireturn, 1) := by decide +kernel
theorem dX9_state_0 : decode cX9_state 0 = .ok (.aload_n 0, 1) := by decide +kernel
theorem dX9_state_1 : decode cX9_state 1 = .ok (.iload_n 1, 1) := by decide +kernel
theorem dX9_state_2 : decode cX9_state 2 = .ok (.invokevirtual 143, 3) := by decide +kernel
theorem dX9_state_5 : decode cX9_state 5 = .ok (.ifCond .eq 25, 3) := by decide +kernel
theorem dX9_state_8 : decode cX9_state 8 = .ok (.iload_n 2, 1) := by decide +kernel
theorem dX9_state_9 : decode cX9_state 9 = .ok (.iconst 0, 1) := by decide +kernel
theorem dX9_state_10 : decode cX9_state 10 = .ok (.bipush 7, 2) := by decide +kernel
theorem dX9_state_12 : decode cX9_state 12 = .ok (.invokestatic 132, 3) := by decide +kernel
theorem dX9_state_15 : decode cX9_state 15 = .ok (.ifCond .eq 15, 3) := by decide +kernel
theorem dX9_state_18 : decode cX9_state 18 = .ok (.aload_n 0, 1) := by decide +kernel
theorem dX9_state_19 : decode cX9_state 19 = .ok (.iload_n 1, 1) := by decide +kernel
theorem dX9_state_20 : decode cX9_state 20 = .ok (.bipush 30, 2) := by decide +kernel
theorem dX9_state_22 : decode cX9_state 22 = .ok (.iload_n 2, 1) := by decide +kernel
theorem dX9_state_23 : decode cX9_state 23 = .ok (.iadd, 1) := by decide +kernel
theorem dX9_state_24 : decode cX9_state 24 = .ok (.invokevirtual 146, 3) := by decide +kernel
theorem dX9_state_27 : decode cX9_state 27 = .ok (.goto 5, 3) := by decide +kernel
theorem dX9_state_30 : decode cX9_state 30 = .ok (.ldc 236, 2) := by decide +kernel
theorem dX9_state_32 : decode cX9_state 32 = .ok (.ireturn, 1) := by decide +kernel
theorem dX9_client_0 : decode cX9_client 0 = .ok (.aload_n 0, 1) := by decide +kernel
theorem dX9_client_1 : decode cX9_client 1 = .ok (.iload_n 1, 1) := by decide +kernel
theorem dX9_client_2 : decode cX9_client 2 = .ok (.invokevirtual 143, 3) := by decide +kernel
theorem dX9_client_5 : decode cX9_client 5 = .ok (.ifCond .eq 37, 3) := by decide +kernel
theorem dX9_client_8 : decode cX9_client 8 = .ok (.iload_n 2, 1) := by decide +kernel
theorem dX9_client_9 : decode cX9_client 9 = .ok (.iconst 0, 1) := by decide +kernel
theorem dX9_client_10 : decode cX9_client 10 = .ok (.iconst 5, 1) := by decide +kernel
theorem dX9_client_11 : decode cX9_client 11 = .ok (.invokestatic 132, 3) := by decide +kernel
theorem dX9_client_14 : decode cX9_client 14 = .ok (.ifCond .eq 28, 3) := by decide +kernel
theorem dX9_client_17 : decode cX9_client 17 = .ok (.iload_n 3, 1) := by decide +kernel
theorem dX9_client_18 : decode cX9_client 18 = .ok (.iconst 0, 1) := by decide +kernel
theorem dX9_client_19 : decode cX9_client 19 = .ok (.iconst 1, 1) := by decide +kernel
theorem dX9_client_20 : decode cX9_client 20 = .ok (.invokestatic 132, 3) := by decide +kernel
theorem dX9_client_23 : decode cX9_client 23 = .ok (.ifCond .eq 19, 3) := by decide +kernel
theorem dX9_client_26 : decode cX9_client 26 = .ok (.aload_n 0, 1) := by decide +kernel
theorem dX9_client_27 : decode cX9_client 27 = .ok (.iload_n 1, 1) := by decide +kernel
theorem dX9_client_28 : decode cX9_client 28 = .ok (.bipush 38, 2) := by decide +kernel
theorem dX9_client_30 : decode cX9_client 30 = .ok (.iconst 2, 1) := by decide +kernel
theorem dX9_client_31 : decode cX9_client 31 = .ok (.iload_n 2, 1) := by decide +kernel
theorem dX9_client_32 : decode cX9_client 32 = .ok (.imul, 1) := by decide +kernel
theorem dX9_client_33 : decode cX9_client 33 = .ok (.iadd, 1) := by decide +kernel
theorem dX9_client_34 : decode cX9_client 34 = .ok (.iload_n 3, 1) := by decide +kernel
theorem dX9_client_35 : decode cX9_client 35 = .ok (.iadd, 1) := by decide +kernel
theorem dX9_client_36 : decode cX9_client 36 = .ok (.invokevirtual 146, 3) := by decide +kernel
theorem dX9_client_39 : decode cX9_client 39 = .ok (.goto 5, 3) := by decide +kernel
theorem dX9_client_42 : decode cX9_client 42 = .ok (.ldc 236, 2) := by decide +kernel
theorem dX9_client_44 : decode cX9_client 44 = .ok (.ireturn, 1) := by decide +kernel
theorem dX9_peer_0 : decode cX9_peer 0 = .ok (.aload_n 0, 1) := by decide +kernel
theorem dX9_peer_1 : decode cX9_peer 1 = .ok (.iload_n 1, 1) := by decide +kernel
theorem dX9_peer_2 : decode cX9_peer 2 = .ok (.invokevirtual 143, 3) := by decide +kernel
theorem dX9_peer_5 : decode cX9_peer 5 = .ok (.ifCond .eq 26, 3) := by decide +kernel
theorem dX9_peer_8 : decode cX9_peer 8 = .ok (.aload_n 0, 1) := by decide +kernel
theorem dX9_peer_9 : decode cX9_peer 9 = .ok (.iload_n 2, 1) := by decide +kernel
theorem dX9_peer_10 : decode cX9_peer 10 = .ok (.invokevirtual 143, 3) := by decide +kernel
theorem dX9_peer_13 : decode cX9_peer 13 = .ok (.ifCond .eq 18, 3) := by decide +kernel
theorem dX9_peer_16 : decode cX9_peer 16 = .ok (.iload_n 1, 1) := by decide +kernel
theorem dX9_peer_17 : decode cX9_peer 17 = .ok (.iload_n 2, 1) := by decide +kernel
theorem dX9_peer_18 : decode cX9_peer 18 = .ok (.if_icmp .eq 13, 3) := by decide +kernel
theorem dX9_peer_21 : decode cX9_peer 21 = .ok (.aload_n 0, 1) := by decide +kernel
theorem dX9_peer_22 : decode cX9_peer 22 = .ok (.iload_n 1, 1) := by decide +kernel
theorem dX9_peer_23 : decode cX9_peer 23 = .ok (.iconst 5, 1) := by decide +kernel
theorem dX9_peer_24 : decode cX9_peer 24 = .ok (.invokevirtual 146, 3) := by decide +kernel
theorem dX9_peer_27 : decode cX9_peer 27 = .ok (.iconst 2, 1) := by decide +kernel
theorem dX9_peer_28 : decode cX9_peer 28 = .ok (.if_icmp .eq 5, 3) := by decide +kernel
theorem dX9_peer_31 : decode cX9_peer 31 = .ok (.iconst (-1), 1) := by decide +kernel
theorem dX9_peer_32 : decode cX9_peer 32 = .ok (.ireturn, 1) := by decide +kernel
theorem dX9_peer_33 : decode cX9_peer 33 = .ok (.iload_n 3, 1) := by decide +kernel
theorem dX9_peer_34 : decode cX9_peer 34 = .ok (.ifCond .ne 15, 3) := by decide +kernel
theorem dX9_peer_37 : decode cX9_peer 37 = .ok (.aload_n 0, 1) := by decide +kernel
theorem dX9_peer_38 : decode cX9_peer 38 = .ok (.iload_n 1, 1) := by decide +kernel
theorem dX9_peer_39 : decode cX9_peer 39 = .ok (.bipush 50, 2) := by decide +kernel
theorem dX9_peer_41 : decode cX9_peer 41 = .ok (.iload_n 2, 1) := by decide +kernel
theorem dX9_peer_42 : decode cX9_peer 42 = .ok (.iadd, 1) := by decide +kernel
theorem dX9_peer_43 : decode cX9_peer 43 = .ok (.invokevirtual 146, 3) := by decide +kernel
theorem dX9_peer_46 : decode cX9_peer 46 = .ok (.goto 38, 3) := by decide +kernel
theorem dX9_peer_49 : decode cX9_peer 49 = .ok (.iload_n 3, 1) := by decide +kernel
theorem dX9_peer_50 : decode cX9_peer 50 = .ok (.iconst 1, 1) := by decide +kernel
theorem dX9_peer_51 : decode cX9_peer 51 = .ok (.if_icmp .ne 15, 3) := by decide +kernel
theorem dX9_peer_54 : decode cX9_peer 54 = .ok (.aload_n 0, 1) := by decide +kernel
theorem dX9_peer_55 : decode cX9_peer 55 = .ok (.iload_n 1, 1) := by decide +kernel
theorem dX9_peer_56 : decode cX9_peer 56 = .ok (.bipush 57, 2) := by decide +kernel
theorem dX9_peer_58 : decode cX9_peer 58 = .ok (.iload_n 2, 1) := by decide +kernel
theorem dX9_peer_59 : decode cX9_peer 59 = .ok (.iadd, 1) := by decide +kernel
theorem dX9_peer_60 : decode cX9_peer 60 = .ok (.invokevirtual 146, 3) := by decide +kernel
theorem dX9_peer_63 : decode cX9_peer 63 = .ok (.goto 21, 3) := by decide +kernel
theorem dX9_peer_66 : decode cX9_peer 66 = .ok (.iload_n 3, 1) := by decide +kernel
theorem dX9_peer_67 : decode cX9_peer 67 = .ok (.iconst 2, 1) := by decide +kernel
theorem dX9_peer_68 : decode cX9_peer 68 = .ok (.if_icmp .ne 15, 3) := by decide +kernel
theorem dX9_peer_71 : decode cX9_peer 71 = .ok (.aload_n 0, 1) := by decide +kernel
theorem dX9_peer_72 : decode cX9_peer 72 = .ok (.iload_n 1, 1) := by decide +kernel
theorem dX9_peer_73 : decode cX9_peer 73 = .ok (.bipush 64, 2) := by decide +kernel
theorem dX9_peer_75 : decode cX9_peer 75 = .ok (.iload_n 2, 1) := by decide +kernel
theorem dX9_peer_76 : decode cX9_peer 76 = .ok (.iadd, 1) := by decide +kernel
theorem dX9_peer_77 : decode cX9_peer 77 = .ok (.invokevirtual 146, 3) := by decide +kernel
theorem dX9_peer_80 : decode cX9_peer 80 = .ok (.goto 4, 3) := by decide +kernel
theorem dX9_peer_83 : decode cX9_peer 83 = .ok (.iconst (-1), 1) := by decide +kernel
theorem dX9_peer_84 : decode cX9_peer 84 = .ok (.ireturn, 1) := by decide +kernel
theorem dX9_slot_0 : decode cX9_slot 0 = .ok (.aload_n 0, 1) := by decide +kernel
theorem dX9_slot_1 : decode cX9_slot 1 = .ok (.iload_n 1, 1) := by decide +kernel
theorem dX9_slot_2 : decode cX9_slot 2 = .ok (.invokevirtual 211, 3) := by decide +kernel
theorem dX9_slot_5 : decode cX9_slot 5 = .ok (.ifCond .eq 22, 3) := by decide +kernel
theorem dX9_slot_8 : decode cX9_slot 8 = .ok (.iload_n 2, 1) := by decide +kernel
theorem dX9_slot_9 : decode cX9_slot 9 = .ok (.iconst 0, 1) := by decide +kernel
theorem dX9_slot_10 : decode cX9_slot 10 = .ok (.bipush 8, 2) := by decide +kernel
theorem dX9_slot_12 : decode cX9_slot 12 = .ok (.invokestatic 132, 3) := by decide +kernel
theorem dX9_slot_15 : decode cX9_slot 15 = .ok (.ifCond .eq 12, 3) := by decide +kernel
theorem dX9_slot_18 : decode cX9_slot 18 = .ok (.aload_n 0, 1) := by decide +kernel
theorem dX9_slot_19 : decode cX9_slot 19 = .ok (.iload_n 1, 1) := by decide +kernel
theorem dX9_slot_20 : decode cX9_slot 20 = .ok (.iload_n 2, 1) := by decide +kernel
theorem dX9_slot_21 : decode cX9_slot 21 = .ok (.invokevirtual 186, 3) := by decide +kernel
theorem dX9_slot_24 : decode cX9_slot 24 = .ok (.goto 4, 3) := by decide +kernel
theorem dX9_slot_27 : decode cX9_slot 27 = .ok (.iconst (-1), 1) := by decide +kernel
theorem dX9_slot_28 : decode cX9_slot 28 = .ok (.ireturn, 1) := by decide +kernel
theorem dX9_note_0 : decode cX9_note 0 = .ok (.iload_n 1, 1) := by decide +kernel
theorem dX9_note_1 : decode cX9_note 1 = .ok (.iconst 0, 1) := by decide +kernel
theorem dX9_note_2 : decode cX9_note 2 = .ok (.sipush 9999, 3) := by decide +kernel
theorem dX9_note_5 : decode cX9_note 5 = .ok (.invokestatic 132, 3) := by decide +kernel
theorem dX9_note_8 : decode cX9_note 8 = .ok (.ifCond .eq 32, 3) := by decide +kernel
theorem dX9_note_11 : decode cX9_note 11 = .ok (.iload_n 2, 1) := by decide +kernel
theorem dX9_note_12 : decode cX9_note 12 = .ok (.iload_n 1, 1) := by decide +kernel
theorem dX9_note_13 : decode cX9_note 13 = .ok (.sipush 9999, 3) := by decide +kernel
theorem dX9_note_16 : decode cX9_note 16 = .ok (.invokestatic 132, 3) := by decide +kernel
theorem dX9_note_19 : decode cX9_note 19 = .ok (.ifCond .eq 21, 3) := by decide +kernel
theorem dX9_note_22 : decode cX9_note 22 = .ok (.iload_n 3, 1) := by decide +kernel
theorem dX9_note_23 : decode cX9_note 23 = .ok (.iconst 0, 1) := by decide +kernel
theorem dX9_note_24 : decode cX9_note 24 = .ok (.iconst 3, 1) := by decide +kernel
theorem dX9_note_25 : decode cX9_note 25 = .ok (.invokestatic 132, 3) := by decide +kernel
theorem dX9_note_28 : decode cX9_note 28 = .ok (.ifCond .eq 12, 3) := by decide +kernel
theorem dX9_note_31 : decode cX9_note 31 = .ok (.aload_n 0, 1) := by decide +kernel
theorem dX9_note_32 : decode cX9_note 32 = .ok (.getfield 237, 3) := by decide +kernel
theorem dX9_note_35 : decode cX9_note 35 = .ok (.bipush 9, 2) := by decide +kernel
theorem dX9_note_37 : decode cX9_note 37 = .ok (.if_icmp .ne 5, 3) := by decide +kernel
theorem dX9_note_40 : decode cX9_note 40 = .ok (.iconst (-1), 1) := by decide +kernel
theorem dX9_note_41 : decode cX9_note 41 = .ok (.ireturn, 1) := by decide +kernel
theorem dX9_note_42 : decode cX9_note 42 = .ok (.aload_n 0, 1) := by decide +kernel
theorem dX9_note_43 : decode cX9_note 43 = .ok (.getfield 44, 3) := by decide +kernel
theorem dX9_note_46 : decode cX9_note 46 = .ok (.aload_n 0, 1) := by decide +kernel
theorem dX9_note_47 : decode cX9_note 47 = .ok (.getfield 237, 3) := by decide +kernel
theorem dX9_note_50 : decode cX9_note 50 = .ok (.iload_n 1, 1) := by decide +kernel
theorem dX9_note_51 : decode cX9_note 51 = .ok (.iastore, 1) := by decide +kernel
theorem dX9_note_52 : decode cX9_note 52 = .ok (.aload_n 0, 1) := by decide +kernel
theorem dX9_note_53 : decode cX9_note 53 = .ok (.getfield 47, 3) := by decide +kernel
theorem dX9_note_56 : decode cX9_note 56 = .ok (.aload_n 0, 1) := by decide +kernel
theorem dX9_note_57 : decode cX9_note 57 = .ok (.getfield 237, 3) := by decide +kernel
theorem dX9_note_60 : decode cX9_note 60 = .ok (.iload_n 2, 1) := by decide +kernel
theorem dX9_note_61 : decode cX9_note 61 = .ok (.iastore, 1) := by decide +kernel
theorem dX9_note_62 : decode cX9_note 62 = .ok (.aload_n 0, 1) := by decide +kernel
theorem dX9_note_63 : decode cX9_note 63 = .ok (.getfield 50, 3) := by decide +kernel
theorem dX9_note_66 : decode cX9_note 66 = .ok (.aload_n 0, 1) := by decide +kernel
theorem dX9_note_67 : decode cX9_note 67 = .ok (.getfield 237, 3) := by decide +kernel
theorem dX9_note_70 : decode cX9_note 70 = .ok (.iload_n 3, 1) := by decide +kernel
theorem dX9_note_71 : decode cX9_note 71 = .ok (.iastore, 1) := by decide +kernel
theorem dX9_note_72 : decode cX9_note 72 = .ok (.aload_n 0, 1) := by decide +kernel
theorem dX9_note_73 : decode cX9_note 73 = .ok (.getfield 53, 3) := by decide +kernel
theorem dX9_note_76 : decode cX9_note 76 = .ok (.aload_n 0, 1) := by decide +kernel
theorem dX9_note_77 : decode cX9_note 77 = .ok (.getfield 237, 3) := by decide +kernel
theorem dX9_note_80 : decode cX9_note 80 = .ok (.iload 4, 2) := by decide +kernel
theorem dX9_note_82 : decode cX9_note 82 = .ok (.iastore, 1) := by decide +kernel
theorem dX9_note_83 : decode cX9_note 83 = .ok (.aload_n 0, 1) := by decide +kernel
theorem dX9_note_84 : decode cX9_note 84 = .ok (.getfield 56, 3) := by decide +kernel
theorem dX9_note_87 : decode cX9_note 87 = .ok (.aload_n 0, 1) := by decide +kernel
theorem dX9_note_88 : decode cX9_note 88 = .ok (.getfield 237, 3) := by decide +kernel
theorem dX9_note_91 : decode cX9_note 91 = .ok (.iload 5, 2) := by decide +kernel
theorem dX9_note_93 : decode cX9_note 93 = .ok (.iastore, 1) := by decide +kernel
theorem dX9_note_94 : decode cX9_note 94 = .ok (.aload_n 0, 1) := by decide +kernel
theorem dX9_note_95 : decode cX9_note 95 = .ok (.dup, 1) := by decide +kernel
theorem dX9_note_96 : decode cX9_note 96 = .ok (.getfield 237, 3) := by decide +kernel
theorem dX9_note_99 : decode cX9_note 99 = .ok (.iconst 1, 1) := by decide +kernel
theorem dX9_note_100 : decode cX9_note 100 = .ok (.iadd, 1) := by decide +kernel
theorem dX9_note_101 : decode cX9_note 101 = .ok (.putfield 237, 3) := by decide +kernel
theorem dX9_note_104 : decode cX9_note 104 = .ok (.aload_n 0, 1) := by decide +kernel
theorem dX9_note_105 : decode cX9_note 105 = .ok (.getfield 237, 3) := by decide +kernel
theorem dX9_note_108 : decode cX9_note 108 = .ok (.iconst 1, 1) := by decide +kernel
theorem dX9_note_109 : decode cX9_note 109 = .ok (.isub, 1) := by decide +kernel
theorem dX9_note_110 : decode cX9_note 110 = .ok (.ireturn, 1) := by decide +kernel
theorem dX9_hush_0 : decode cX9_hush 0 = .ok (.aload_n 0, 1) := by decide +kernel
theorem dX9_hush_1 : decode cX9_hush 1 = .ok (.getfield 237, 3) := by decide +kernel
theorem dX9_hush_4 : decode cX9_hush 4 = .ok (.istore_n 1, 1) := by decide +kernel
theorem dX9_hush_5 : decode cX9_hush 5 = .ok (.aload_n 0, 1) := by decide +kernel
theorem dX9_hush_6 : decode cX9_hush 6 = .ok (.iconst 0, 1) := by decide +kernel
theorem dX9_hush_7 : decode cX9_hush 7 = .ok (.putfield 237, 3) := by decide +kernel
theorem dX9_hush_10 : decode cX9_hush 10 = .ok (.iload_n 1, 1) := by decide +kernel
theorem dX9_hush_11 : decode cX9_hush 11 = .ok (.ireturn, 1) := by decide +kernel
theorem dX9_canCome_0 : decode cX9_canCome 0 = .ok (.iload_n 2, 1) := by decide +kernel
theorem dX9_canCome_1 : decode cX9_canCome 1 = .ok (.iload_n 1, 1) := by decide +kernel
theorem dX9_canCome_2 : decode cX9_canCome 2 = .ok (.ishr, 1) := by decide +kernel
theorem dX9_canCome_3 : decode cX9_canCome 3 = .ok (.iconst 1, 1) := by decide +kernel
theorem dX9_canCome_4 : decode cX9_canCome 4 = .ok (.iand, 1) := by decide +kernel
theorem dX9_canCome_5 : decode cX9_canCome 5 = .ok (.iconst 1, 1) := by decide +kernel
theorem dX9_canCome_6 : decode cX9_canCome 6 = .ok (.if_icmp .eq 28, 3) := by decide +kernel
theorem dX9_canCome_9 : decode cX9_canCome 9 = .ok (.aload_n 0, 1) := by decide +kernel
theorem dX9_canCome_10 : decode cX9_canCome 10 = .ok (.getfield 50, 3) := by decide +kernel
theorem dX9_canCome_13 : decode cX9_canCome 13 = .ok (.iload_n 1, 1) := by decide +kernel
theorem dX9_canCome_14 : decode cX9_canCome 14 = .ok (.iaload, 1) := by decide +kernel
theorem dX9_canCome_15 : decode cX9_canCome 15 = .ok (.iload_n 3, 1) := by decide +kernel
theorem dX9_canCome_16 : decode cX9_canCome 16 = .ok (.aload_n 0, 1) := by decide +kernel
theorem dX9_canCome_17 : decode cX9_canCome 17 = .ok (.getfield 53, 3) := by decide +kernel
theorem dX9_canCome_20 : decode cX9_canCome 20 = .ok (.iload_n 1, 1) := by decide +kernel
theorem dX9_canCome_21 : decode cX9_canCome 21 = .ok (.iaload, 1) := by decide +kernel
theorem dX9_canCome_22 : decode cX9_canCome 22 = .ok (.invokestatic 160, 3) := by decide +kernel
theorem dX9_canCome_25 : decode cX9_canCome 25 = .ok (.aload_n 0, 1) := by decide +kernel
theorem dX9_canCome_26 : decode cX9_canCome 26 = .ok (.getfield 56, 3) := by decide +kernel
theorem dX9_canCome_29 : decode cX9_canCome 29 = .ok (.iload_n 1, 1) := by decide +kernel
theorem dX9_canCome_30 : decode cX9_canCome 30 = .ok (.iaload, 1) := by decide +kernel
theorem dX9_canCome_31 : decode cX9_canCome 31 = .ok (.if_icmp .eq 5, 3) := by decide +kernel
theorem dX9_canCome_34 : decode cX9_canCome 34 = .ok (.iconst 0, 1) := by decide +kernel
theorem dX9_canCome_35 : decode cX9_canCome 35 = .ok (.ireturn, 1) := by decide +kernel
theorem dX9_canCome_36 : decode cX9_canCome 36 = .ok (.iconst 0, 1) := by decide +kernel
theorem dX9_canCome_37 : decode cX9_canCome 37 = .ok (.istore 4, 2) := by decide +kernel
theorem dX9_canCome_39 : decode cX9_canCome 39 = .ok (.iload 4, 2) := by decide +kernel
theorem dX9_canCome_41 : decode cX9_canCome 41 = .ok (.aload_n 0, 1) := by decide +kernel
theorem dX9_canCome_42 : decode cX9_canCome 42 = .ok (.getfield 237, 3) := by decide +kernel
theorem dX9_canCome_45 : decode cX9_canCome 45 = .ok (.if_icmp .ge 42, 3) := by decide +kernel
theorem dX9_canCome_48 : decode cX9_canCome 48 = .ok (.iload 4, 2) := by decide +kernel
theorem dX9_canCome_50 : decode cX9_canCome 50 = .ok (.iload_n 1, 1) := by decide +kernel
theorem dX9_canCome_51 : decode cX9_canCome 51 = .ok (.if_icmp .eq 30, 3) := by decide +kernel
theorem dX9_canCome_54 : decode cX9_canCome 54 = .ok (.iload_n 2, 1) := by decide +kernel
theorem dX9_canCome_55 : decode cX9_canCome 55 = .ok (.iload 4, 2) := by decide +kernel
theorem dX9_canCome_57 : decode cX9_canCome 57 = .ok (.ishr, 1) := by decide +kernel
theorem dX9_canCome_58 : decode cX9_canCome 58 = .ok (.iconst 1, 1) := by decide +kernel
theorem dX9_canCome_59 : decode cX9_canCome 59 = .ok (.iand, 1) := by decide +kernel
theorem dX9_canCome_60 : decode cX9_canCome 60 = .ok (.ifCond .ne 21, 3) := by decide +kernel
theorem dX9_canCome_63 : decode cX9_canCome 63 = .ok (.aload_n 0, 1) := by decide +kernel
theorem dX9_canCome_64 : decode cX9_canCome 64 = .ok (.getfield 47, 3) := by decide +kernel
theorem dX9_canCome_67 : decode cX9_canCome 67 = .ok (.iload 4, 2) := by decide +kernel
theorem dX9_canCome_69 : decode cX9_canCome 69 = .ok (.iaload, 1) := by decide +kernel
theorem dX9_canCome_70 : decode cX9_canCome 70 = .ok (.aload_n 0, 1) := by decide +kernel
theorem dX9_canCome_71 : decode cX9_canCome 71 = .ok (.getfield 44, 3) := by decide +kernel
theorem dX9_canCome_74 : decode cX9_canCome 74 = .ok (.iload_n 1, 1) := by decide +kernel
theorem dX9_canCome_75 : decode cX9_canCome 75 = .ok (.iaload, 1) := by decide +kernel
theorem dX9_canCome_76 : decode cX9_canCome 76 = .ok (.if_icmp .ge 5, 3) := by decide +kernel
theorem dX9_canCome_79 : decode cX9_canCome 79 = .ok (.iconst 0, 1) := by decide +kernel
theorem dX9_canCome_80 : decode cX9_canCome 80 = .ok (.ireturn, 1) := by decide +kernel
theorem dX9_canCome_81 : decode cX9_canCome 81 = .ok (.iinc 4 1, 3) := by decide +kernel
theorem dX9_canCome_84 : decode cX9_canCome 84 = .ok (.goto (-45), 3) := by decide +kernel
theorem dX9_canCome_87 : decode cX9_canCome 87 = .ok (.iconst 1, 1) := by decide +kernel
theorem dX9_canCome_88 : decode cX9_canCome 88 = .ok (.ireturn, 1) := by decide +kernel
theorem dX9_findOrder_0 : decode cX9_findOrder 0 = .ok (.iconst 0, 1) := by decide +kernel
theorem dX9_findOrder_1 : decode cX9_findOrder 1 = .ok (.istore_n 1, 1) := by decide +kernel
theorem dX9_findOrder_2 : decode cX9_findOrder 2 = .ok (.iconst 0, 1) := by decide +kernel
theorem dX9_findOrder_3 : decode cX9_findOrder 3 = .ok (.istore_n 2, 1) := by decide +kernel
theorem dX9_findOrder_4 : decode cX9_findOrder 4 = .ok (.aload_n 0, 1) := by decide +kernel
theorem dX9_findOrder_5 : decode cX9_findOrder 5 = .ok (.getfield 59, 3) := by decide +kernel
theorem dX9_findOrder_8 : decode cX9_findOrder 8 = .ok (.iconst 0, 1) := by decide +kernel
theorem dX9_findOrder_9 : decode cX9_findOrder 9 = .ok (.iconst (-1), 1) := by decide +kernel
theorem dX9_findOrder_10 : decode cX9_findOrder 10 = .ok (.iastore, 1) := by decide +kernel
theorem dX9_findOrder_11 : decode cX9_findOrder 11 = .ok (.aload_n 0, 1) := by decide +kernel
theorem dX9_findOrder_12 : decode cX9_findOrder 12 = .ok (.getfield 62, 3) := by decide +kernel
theorem dX9_findOrder_15 : decode cX9_findOrder 15 = .ok (.iconst 0, 1) := by decide +kernel
theorem dX9_findOrder_16 : decode cX9_findOrder 16 = .ok (.iconst 0, 1) := by decide +kernel
theorem dX9_findOrder_17 : decode cX9_findOrder 17 = .ok (.iastore, 1) := by decide +kernel
theorem dX9_findOrder_18 : decode cX9_findOrder 18 = .ok (.iload_n 1, 1) := by decide +kernel
theorem dX9_findOrder_19 : decode cX9_findOrder 19 = .ok (.ifCond .lt 147, 3) := by decide +kernel
theorem dX9_findOrder_22 : decode cX9_findOrder 22 = .ok (.iload_n 1, 1) := by decide +kernel
theorem dX9_findOrder_23 : decode cX9_findOrder 23 = .ok (.aload_n 0, 1) := by decide +kernel
theorem dX9_findOrder_24 : decode cX9_findOrder 24 = .ok (.getfield 237, 3) := by decide +kernel
theorem dX9_findOrder_27 : decode cX9_findOrder 27 = .ok (.if_icmp .ge 139, 3) := by decide +kernel
theorem dX9_findOrder_30 : decode cX9_findOrder 30 = .ok (.aload_n 0, 1) := by decide +kernel
theorem dX9_findOrder_31 : decode cX9_findOrder 31 = .ok (.getfield 59, 3) := by decide +kernel
theorem dX9_findOrder_34 : decode cX9_findOrder 34 = .ok (.iload_n 1, 1) := by decide +kernel
theorem dX9_findOrder_35 : decode cX9_findOrder 35 = .ok (.iaload, 1) := by decide +kernel
theorem dX9_findOrder_36 : decode cX9_findOrder 36 = .ok (.ifCond .lt 16, 3) := by decide +kernel
theorem dX9_findOrder_39 : decode cX9_findOrder 39 = .ok (.iload_n 2, 1) := by decide +kernel
theorem dX9_findOrder_40 : decode cX9_findOrder 40 = .ok (.iconst 1, 1) := by decide +kernel
theorem dX9_findOrder_41 : decode cX9_findOrder 41 = .ok (.aload_n 0, 1) := by decide +kernel
theorem dX9_findOrder_42 : decode cX9_findOrder 42 = .ok (.getfield 59, 3) := by decide +kernel
theorem dX9_findOrder_45 : decode cX9_findOrder 45 = .ok (.iload_n 1, 1) := by decide +kernel
theorem dX9_findOrder_46 : decode cX9_findOrder 46 = .ok (.iaload, 1) := by decide +kernel
theorem dX9_findOrder_47 : decode cX9_findOrder 47 = .ok (.ishl, 1) := by decide +kernel
theorem dX9_findOrder_48 : decode cX9_findOrder 48 = .ok (.iconst (-1), 1) := by decide +kernel
theorem dX9_findOrder_49 : decode cX9_findOrder 49 = .ok (.ixor, 1) := by decide +kernel
theorem dX9_findOrder_50 : decode cX9_findOrder 50 = .ok (.iand, 1) := by decide +kernel
theorem dX9_findOrder_51 : decode cX9_findOrder 51 = .ok (.istore_n 2, 1) := by decide +kernel
theorem dX9_findOrder_52 : decode cX9_findOrder 52 = .ok (.aload_n 0, 1) := by decide +kernel
theorem dX9_findOrder_53 : decode cX9_findOrder 53 = .ok (.getfield 59, 3) := by decide +kernel
theorem dX9_findOrder_56 : decode cX9_findOrder 56 = .ok (.iload_n 1, 1) := by decide +kernel
theorem dX9_findOrder_57 : decode cX9_findOrder 57 = .ok (.iaload, 1) := by decide +kernel
theorem dX9_findOrder_58 : decode cX9_findOrder 58 = .ok (.iconst 1, 1) := by decide +kernel
theorem dX9_findOrder_59 : decode cX9_findOrder 59 = .ok (.iadd, 1) := by decide +kernel
theorem dX9_findOrder_60 : decode cX9_findOrder 60 = .ok (.istore_n 3, 1) := by decide +kernel
theorem dX9_findOrder_61 : decode cX9_findOrder 61 = .ok (.iload_n 3, 1) := by decide +kernel
theorem dX9_findOrder_62 : decode cX9_findOrder 62 = .ok (.aload_n 0, 1) := by decide +kernel
theorem dX9_findOrder_63 : decode cX9_findOrder 63 = .ok (.getfield 237, 3) := by decide +kernel
theorem dX9_findOrder_66 : decode cX9_findOrder 66 = .ok (.if_icmp .ge 24, 3) := by decide +kernel
theorem dX9_findOrder_69 : decode cX9_findOrder 69 = .ok (.aload_n 0, 1) := by decide +kernel
theorem dX9_findOrder_70 : decode cX9_findOrder 70 = .ok (.iload_n 3, 1) := by decide +kernel
theorem dX9_findOrder_71 : decode cX9_findOrder 71 = .ok (.iload_n 2, 1) := by decide +kernel
theorem dX9_findOrder_72 : decode cX9_findOrder 72 = .ok (.aload_n 0, 1) := by decide +kernel
theorem dX9_findOrder_73 : decode cX9_findOrder 73 = .ok (.getfield 62, 3) := by decide +kernel
theorem dX9_findOrder_76 : decode cX9_findOrder 76 = .ok (.iload_n 1, 1) := by decide +kernel
theorem dX9_findOrder_77 : decode cX9_findOrder 77 = .ok (.iaload, 1) := by decide +kernel
theorem dX9_findOrder_78 : decode cX9_findOrder 78 = .ok (.invokevirtual 240, 3) := by decide +kernel
theorem dX9_findOrder_81 : decode cX9_findOrder 81 = .ok (.ifCond .ne 9, 3) := by decide +kernel
theorem dX9_findOrder_84 : decode cX9_findOrder 84 = .ok (.iinc 3 1, 3) := by decide +kernel
theorem dX9_findOrder_87 : decode cX9_findOrder 87 = .ok (.goto (-26), 3) := by decide +kernel
theorem dX9_findOrder_90 : decode cX9_findOrder 90 = .ok (.aload_n 0, 1) := by decide +kernel
theorem dX9_findOrder_91 : decode cX9_findOrder 91 = .ok (.getfield 59, 3) := by decide +kernel
theorem dX9_findOrder_94 : decode cX9_findOrder 94 = .ok (.iload_n 1, 1) := by decide +kernel
theorem dX9_findOrder_95 : decode cX9_findOrder 95 = .ok (.iload_n 3, 1) := by decide +kernel
theorem dX9_findOrder_96 : decode cX9_findOrder 96 = .ok (.iastore, 1) := by decide +kernel
theorem dX9_findOrder_97 : decode cX9_findOrder 97 = .ok (.iload_n 3, 1) := by decide +kernel
theorem dX9_findOrder_98 : decode cX9_findOrder 98 = .ok (.aload_n 0, 1) := by decide +kernel
theorem dX9_findOrder_99 : decode cX9_findOrder 99 = .ok (.getfield 237, 3) := by decide +kernel
theorem dX9_findOrder_102 : decode cX9_findOrder 102 = .ok (.if_icmp .ne 16, 3) := by decide +kernel
theorem dX9_findOrder_105 : decode cX9_findOrder 105 = .ok (.aload_n 0, 1) := by decide +kernel
theorem dX9_findOrder_106 : decode cX9_findOrder 106 = .ok (.getfield 59, 3) := by decide +kernel
theorem dX9_findOrder_109 : decode cX9_findOrder 109 = .ok (.iload_n 1, 1) := by decide +kernel
theorem dX9_findOrder_110 : decode cX9_findOrder 110 = .ok (.iconst (-1), 1) := by decide +kernel
theorem dX9_findOrder_111 : decode cX9_findOrder 111 = .ok (.iastore, 1) := by decide +kernel
theorem dX9_findOrder_112 : decode cX9_findOrder 112 = .ok (.iinc 1 (-1), 3) := by decide +kernel
theorem dX9_findOrder_115 : decode cX9_findOrder 115 = .ok (.goto (-97), 3) := by decide +kernel
theorem dX9_findOrder_118 : decode cX9_findOrder 118 = .ok (.iload_n 2, 1) := by decide +kernel
theorem dX9_findOrder_119 : decode cX9_findOrder 119 = .ok (.iconst 1, 1) := by decide +kernel
theorem dX9_findOrder_120 : decode cX9_findOrder 120 = .ok (.iload_n 3, 1) := by decide +kernel
theorem dX9_findOrder_121 : decode cX9_findOrder 121 = .ok (.ishl, 1) := by decide +kernel
theorem dX9_findOrder_122 : decode cX9_findOrder 122 = .ok (.ior, 1) := by decide +kernel
theorem dX9_findOrder_123 : decode cX9_findOrder 123 = .ok (.istore_n 2, 1) := by decide +kernel
theorem dX9_findOrder_124 : decode cX9_findOrder 124 = .ok (.aload_n 0, 1) := by decide +kernel
theorem dX9_findOrder_125 : decode cX9_findOrder 125 = .ok (.getfield 62, 3) := by decide +kernel
theorem dX9_findOrder_128 : decode cX9_findOrder 128 = .ok (.iload_n 1, 1) := by decide +kernel
theorem dX9_findOrder_129 : decode cX9_findOrder 129 = .ok (.iconst 1, 1) := by decide +kernel
theorem dX9_findOrder_130 : decode cX9_findOrder 130 = .ok (.iadd, 1) := by decide +kernel
theorem dX9_findOrder_131 : decode cX9_findOrder 131 = .ok (.aload_n 0, 1) := by decide +kernel
theorem dX9_findOrder_132 : decode cX9_findOrder 132 = .ok (.getfield 50, 3) := by decide +kernel
theorem dX9_findOrder_135 : decode cX9_findOrder 135 = .ok (.iload_n 3, 1) := by decide +kernel
theorem dX9_findOrder_136 : decode cX9_findOrder 136 = .ok (.iaload, 1) := by decide +kernel
theorem dX9_findOrder_137 : decode cX9_findOrder 137 = .ok (.aload_n 0, 1) := by decide +kernel
theorem dX9_findOrder_138 : decode cX9_findOrder 138 = .ok (.getfield 62, 3) := by decide +kernel
theorem dX9_findOrder_141 : decode cX9_findOrder 141 = .ok (.iload_n 1, 1) := by decide +kernel
theorem dX9_findOrder_142 : decode cX9_findOrder 142 = .ok (.iaload, 1) := by decide +kernel
theorem dX9_findOrder_143 : decode cX9_findOrder 143 = .ok (.aload_n 0, 1) := by decide +kernel
theorem dX9_findOrder_144 : decode cX9_findOrder 144 = .ok (.getfield 53, 3) := by decide +kernel
theorem dX9_findOrder_147 : decode cX9_findOrder 147 = .ok (.iload_n 3, 1) := by decide +kernel
theorem dX9_findOrder_148 : decode cX9_findOrder 148 = .ok (.iaload, 1) := by decide +kernel
theorem dX9_findOrder_149 : decode cX9_findOrder 149 = .ok (.invokestatic 156, 3) := by decide +kernel
theorem dX9_findOrder_152 : decode cX9_findOrder 152 = .ok (.iastore, 1) := by decide +kernel
theorem dX9_findOrder_153 : decode cX9_findOrder 153 = .ok (.iinc 1 1, 3) := by decide +kernel
theorem dX9_findOrder_156 : decode cX9_findOrder 156 = .ok (.aload_n 0, 1) := by decide +kernel
theorem dX9_findOrder_157 : decode cX9_findOrder 157 = .ok (.getfield 59, 3) := by decide +kernel
theorem dX9_findOrder_160 : decode cX9_findOrder 160 = .ok (.iload_n 1, 1) := by decide +kernel
theorem dX9_findOrder_161 : decode cX9_findOrder 161 = .ok (.iconst (-1), 1) := by decide +kernel
theorem dX9_findOrder_162 : decode cX9_findOrder 162 = .ok (.iastore, 1) := by decide +kernel
theorem dX9_findOrder_163 : decode cX9_findOrder 163 = .ok (.goto (-145), 3) := by decide +kernel
theorem dX9_findOrder_166 : decode cX9_findOrder 166 = .ok (.iload_n 1, 1) := by decide +kernel
theorem dX9_findOrder_167 : decode cX9_findOrder 167 = .ok (.aload_n 0, 1) := by decide +kernel
theorem dX9_findOrder_168 : decode cX9_findOrder 168 = .ok (.getfield 237, 3) := by decide +kernel
theorem dX9_findOrder_171 : decode cX9_findOrder 171 = .ok (.if_icmp .ne 7, 3) := by decide +kernel
theorem dX9_findOrder_174 : decode cX9_findOrder 174 = .ok (.iconst 1, 1) := by decide +kernel
theorem dX9_findOrder_175 : decode cX9_findOrder 175 = .ok (.goto 4, 3) := by decide +kernel
theorem dX9_findOrder_178 : decode cX9_findOrder 178 = .ok (.iconst 0, 1) := by decide +kernel
theorem dX9_findOrder_179 : decode cX9_findOrder 179 = .ok (.ireturn, 1) := by decide +kernel
theorem dX9_judge_0 : decode cX9_judge 0 = .ok (.aload_n 0, 1) := by decide +kernel
theorem dX9_judge_1 : decode cX9_judge 1 = .ok (.invokevirtual 243, 3) := by decide +kernel
theorem dX9_judge_4 : decode cX9_judge 4 = .ok (.ifCond .eq 7, 3) := by decide +kernel
theorem dX9_judge_7 : decode cX9_judge 7 = .ok (.iconst 1, 1) := by decide +kernel
theorem dX9_judge_8 : decode cX9_judge 8 = .ok (.goto 4, 3) := by decide +kernel
theorem dX9_judge_11 : decode cX9_judge 11 = .ok (.iconst 0, 1) := by decide +kernel
theorem dX9_judge_12 : decode cX9_judge 12 = .ok (.ireturn, 1) := by decide +kernel
theorem dX9_order_0 : decode cX9_order 0 = .ok (.iload_n 1, 1) := by decide +kernel
theorem dX9_order_1 : decode cX9_order 1 = .ok (.iconst 0, 1) := by decide +kernel
theorem dX9_order_2 : decode cX9_order 2 = .ok (.aload_n 0, 1) := by decide +kernel
theorem dX9_order_3 : decode cX9_order 3 = .ok (.getfield 237, 3) := by decide +kernel
theorem dX9_order_6 : decode cX9_order 6 = .ok (.iconst 1, 1) := by decide +kernel
theorem dX9_order_7 : decode cX9_order 7 = .ok (.isub, 1) := by decide +kernel
theorem dX9_order_8 : decode cX9_order 8 = .ok (.invokestatic 132, 3) := by decide +kernel
theorem dX9_order_11 : decode cX9_order 11 = .ok (.ifCond .eq 19, 3) := by decide +kernel
theorem dX9_order_14 : decode cX9_order 14 = .ok (.aload_n 0, 1) := by decide +kernel
theorem dX9_order_15 : decode cX9_order 15 = .ok (.invokevirtual 243, 3) := by decide +kernel
theorem dX9_order_18 : decode cX9_order 18 = .ok (.ifCond .eq 12, 3) := by decide +kernel
theorem dX9_order_21 : decode cX9_order 21 = .ok (.aload_n 0, 1) := by decide +kernel
theorem dX9_order_22 : decode cX9_order 22 = .ok (.getfield 59, 3) := by decide +kernel
theorem dX9_order_25 : decode cX9_order 25 = .ok (.iload_n 1, 1) := by decide +kernel
theorem dX9_order_26 : decode cX9_order 26 = .ok (.iaload, 1) := by decide +kernel
theorem dX9_order_27 : decode cX9_order 27 = .ok (.goto 4, 3) := by decide +kernel
theorem dX9_order_30 : decode cX9_order 30 = .ok (.iconst (-1), 1) := by decide +kernel
theorem dX9_order_31 : decode cX9_order 31 = .ok (.ireturn, 1) := by decide +kernel
theorem dX9_image_0 : decode cX9_image 0 = .ok (.iload_n 1, 1) := by decide +kernel
theorem dX9_image_1 : decode cX9_image 1 = .ok (.iconst 0, 1) := by decide +kernel
theorem dX9_image_2 : decode cX9_image 2 = .ok (.iconst 2, 1) := by decide +kernel
theorem dX9_image_3 : decode cX9_image 3 = .ok (.invokestatic 132, 3) := by decide +kernel
theorem dX9_image_6 : decode cX9_image 6 = .ok (.ifCond .ne 5, 3) := by decide +kernel
theorem dX9_image_9 : decode cX9_image 9 = .ok (.iconst (-1), 1) := by decide +kernel
theorem dX9_image_10 : decode cX9_image 10 = .ok (.ireturn, 1) := by decide +kernel
theorem dX9_image_11 : decode cX9_image 11 = .ok (.iconst 0, 1) := by decide +kernel
theorem dX9_image_12 : decode cX9_image 12 = .ok (.istore_n 2, 1) := by decide +kernel
theorem dX9_image_13 : decode cX9_image 13 = .ok (.iload_n 2, 1) := by decide +kernel
theorem dX9_image_14 : decode cX9_image 14 = .ok (.sipush 5000, 3) := by decide +kernel
theorem dX9_image_17 : decode cX9_image 17 = .ok (.if_icmp .ge 27, 3) := by decide +kernel
theorem dX9_image_20 : decode cX9_image 20 = .ok (.aload_n 0, 1) := by decide +kernel
theorem dX9_image_21 : decode cX9_image 21 = .ok (.getfield 20, 3) := by decide +kernel
theorem dX9_image_24 : decode cX9_image 24 = .ok (.sipush 5000, 3) := by decide +kernel
theorem dX9_image_27 : decode cX9_image 27 = .ok (.iload_n 1, 1) := by decide +kernel
theorem dX9_image_28 : decode cX9_image 28 = .ok (.imul, 1) := by decide +kernel
theorem dX9_image_29 : decode cX9_image 29 = .ok (.iload_n 2, 1) := by decide +kernel
theorem dX9_image_30 : decode cX9_image 30 = .ok (.iadd, 1) := by decide +kernel
theorem dX9_image_31 : decode cX9_image 31 = .ok (.aload_n 0, 1) := by decide +kernel
theorem dX9_image_32 : decode cX9_image 32 = .ok (.getfield 16, 3) := by decide +kernel
theorem dX9_image_35 : decode cX9_image 35 = .ok (.iload_n 2, 1) := by decide +kernel
theorem dX9_image_36 : decode cX9_image 36 = .ok (.iaload, 1) := by decide +kernel
theorem dX9_image_37 : decode cX9_image 37 = .ok (.iastore, 1) := by decide +kernel
theorem dX9_image_38 : decode cX9_image 38 = .ok (.iinc 2 1, 3) := by decide +kernel
theorem dX9_image_41 : decode cX9_image 41 = .ok (.goto (-28), 3) := by decide +kernel
theorem dX9_image_44 : decode cX9_image 44 = .ok (.aload_n 0, 1) := by decide +kernel
theorem dX9_image_45 : decode cX9_image 45 = .ok (.getfield 23, 3) := by decide +kernel
theorem dX9_image_48 : decode cX9_image 48 = .ok (.iload_n 1, 1) := by decide +kernel
theorem dX9_image_49 : decode cX9_image 49 = .ok (.iconst 1, 1) := by decide +kernel
theorem dX9_image_50 : decode cX9_image 50 = .ok (.bastore, 1) := by decide +kernel
theorem dX9_image_51 : decode cX9_image 51 = .ok (.aload_n 0, 1) := by decide +kernel
theorem dX9_image_52 : decode cX9_image 52 = .ok (.invokevirtual 195, 3) := by decide +kernel
theorem dX9_image_55 : decode cX9_image 55 = .ok (.ireturn, 1) := by decide +kernel
theorem dX9_back_0 : decode cX9_back 0 = .ok (.iload_n 1, 1) := by decide +kernel
theorem dX9_back_1 : decode cX9_back 1 = .ok (.iconst 0, 1) := by decide +kernel
theorem dX9_back_2 : decode cX9_back 2 = .ok (.iconst 2, 1) := by decide +kernel
theorem dX9_back_3 : decode cX9_back 3 = .ok (.invokestatic 132, 3) := by decide +kernel
theorem dX9_back_6 : decode cX9_back 6 = .ok (.ifCond .eq 12, 3) := by decide +kernel
theorem dX9_back_9 : decode cX9_back 9 = .ok (.aload_n 0, 1) := by decide +kernel
theorem dX9_back_10 : decode cX9_back 10 = .ok (.getfield 23, 3) := by decide +kernel
theorem dX9_back_13 : decode cX9_back 13 = .ok (.iload_n 1, 1) := by decide +kernel
theorem dX9_back_14 : decode cX9_back 14 = .ok (.baload, 1) := by decide +kernel
theorem dX9_back_15 : decode cX9_back 15 = .ok (.ifCond .ne 5, 3) := by decide +kernel
theorem dX9_back_18 : decode cX9_back 18 = .ok (.iconst (-1), 1) := by decide +kernel
theorem dX9_back_19 : decode cX9_back 19 = .ok (.ireturn, 1) := by decide +kernel
theorem dX9_back_20 : decode cX9_back 20 = .ok (.iconst 0, 1) := by decide +kernel
theorem dX9_back_21 : decode cX9_back 21 = .ok (.istore_n 2, 1) := by decide +kernel
theorem dX9_back_22 : decode cX9_back 22 = .ok (.iload_n 2, 1) := by decide +kernel
theorem dX9_back_23 : decode cX9_back 23 = .ok (.sipush 5000, 3) := by decide +kernel
theorem dX9_back_26 : decode cX9_back 26 = .ok (.if_icmp .ge 27, 3) := by decide +kernel
theorem dX9_back_29 : decode cX9_back 29 = .ok (.aload_n 0, 1) := by decide +kernel
theorem dX9_back_30 : decode cX9_back 30 = .ok (.getfield 16, 3) := by decide +kernel
theorem dX9_back_33 : decode cX9_back 33 = .ok (.iload_n 2, 1) := by decide +kernel
theorem dX9_back_34 : decode cX9_back 34 = .ok (.aload_n 0, 1) := by decide +kernel
theorem dX9_back_35 : decode cX9_back 35 = .ok (.getfield 20, 3) := by decide +kernel
theorem dX9_back_38 : decode cX9_back 38 = .ok (.sipush 5000, 3) := by decide +kernel
theorem dX9_back_41 : decode cX9_back 41 = .ok (.iload_n 1, 1) := by decide +kernel
theorem dX9_back_42 : decode cX9_back 42 = .ok (.imul, 1) := by decide +kernel
theorem dX9_back_43 : decode cX9_back 43 = .ok (.iload_n 2, 1) := by decide +kernel
theorem dX9_back_44 : decode cX9_back 44 = .ok (.iadd, 1) := by decide +kernel
theorem dX9_back_45 : decode cX9_back 45 = .ok (.iaload, 1) := by decide +kernel
theorem dX9_back_46 : decode cX9_back 46 = .ok (.iastore, 1) := by decide +kernel
theorem dX9_back_47 : decode cX9_back 47 = .ok (.iinc 2 1, 3) := by decide +kernel
theorem dX9_back_50 : decode cX9_back 50 = .ok (.goto (-28), 3) := by decide +kernel
theorem dX9_back_53 : decode cX9_back 53 = .ok (.aload_n 0, 1) := by decide +kernel
theorem dX9_back_54 : decode cX9_back 54 = .ok (.invokevirtual 195, 3) := by decide +kernel
theorem dX9_back_57 : decode cX9_back 57 = .ok (.ireturn, 1) := by decide +kernel
theorem dX9_up_0 : decode cX9_up 0 = .ok (.iconst 0, 1) := by decide +kernel
theorem dX9_up_1 : decode cX9_up 1 = .ok (.istore_n 1, 1) := by decide +kernel
theorem dX9_up_2 : decode cX9_up 2 = .ok (.iconst 0, 1) := by decide +kernel
theorem dX9_up_3 : decode cX9_up 3 = .ok (.istore_n 2, 1) := by decide +kernel
theorem dX9_up_4 : decode cX9_up 4 = .ok (.iload_n 2, 1) := by decide +kernel
theorem dX9_up_5 : decode cX9_up 5 = .ok (.aload_n 0, 1) := by decide +kernel
theorem dX9_up_6 : decode cX9_up 6 = .ok (.invokevirtual 128, 3) := by decide +kernel
theorem dX9_up_9 : decode cX9_up 9 = .ok (.if_icmp .ge 25, 3) := by decide +kernel
theorem dX9_up_12 : decode cX9_up 12 = .ok (.iload_n 1, 1) := by decide +kernel
theorem dX9_up_13 : decode cX9_up 13 = .ok (.aload_n 0, 1) := by decide +kernel
theorem dX9_up_14 : decode cX9_up 14 = .ok (.iload_n 2, 1) := by decide +kernel
theorem dX9_up_15 : decode cX9_up 15 = .ok (.invokevirtual 150, 3) := by decide +kernel
theorem dX9_up_18 : decode cX9_up 18 = .ok (.ifCond .eq 7, 3) := by decide +kernel
theorem dX9_up_21 : decode cX9_up 21 = .ok (.iconst 1, 1) := by decide +kernel
theorem dX9_up_22 : decode cX9_up 22 = .ok (.goto 4, 3) := by decide +kernel
theorem dX9_up_25 : decode cX9_up 25 = .ok (.iconst 0, 1) := by decide +kernel
theorem dX9_up_26 : decode cX9_up 26 = .ok (.iadd, 1) := by decide +kernel
theorem dX9_up_27 : decode cX9_up 27 = .ok (.istore_n 1, 1) := by decide +kernel
theorem dX9_up_28 : decode cX9_up 28 = .ok (.iinc 2 1, 3) := by decide +kernel
theorem dX9_up_31 : decode cX9_up 31 = .ok (.goto (-27), 3) := by decide +kernel
theorem dX9_up_34 : decode cX9_up 34 = .ok (.iload_n 1, 1) := by decide +kernel
theorem dX9_up_35 : decode cX9_up 35 = .ok (.ireturn, 1) := by decide +kernel
theorem dX9_about_0 : decode cX9_about 0 = .ok (.iload_n 1, 1) := by decide +kernel
theorem dX9_about_1 : decode cX9_about 1 = .ok (.tableswitch 91 0 7 #[47, 52, 57, 62, 67, 76, 81, 86], 47) := by decide +kernel
theorem dX9_about_48 : decode cX9_about 48 = .ok (.aload_n 0, 1) := by decide +kernel
theorem dX9_about_49 : decode cX9_about 49 = .ok (.invokevirtual 128, 3) := by decide +kernel
theorem dX9_about_52 : decode cX9_about 52 = .ok (.ireturn, 1) := by decide +kernel
theorem dX9_about_53 : decode cX9_about 53 = .ok (.aload_n 0, 1) := by decide +kernel
theorem dX9_about_54 : decode cX9_about 54 = .ok (.invokevirtual 136, 3) := by decide +kernel
theorem dX9_about_57 : decode cX9_about 57 = .ok (.ireturn, 1) := by decide +kernel
theorem dX9_about_58 : decode cX9_about 58 = .ok (.aload_n 0, 1) := by decide +kernel
theorem dX9_about_59 : decode cX9_about 59 = .ok (.invokevirtual 169, 3) := by decide +kernel
theorem dX9_about_62 : decode cX9_about 62 = .ok (.ireturn, 1) := by decide +kernel
theorem dX9_about_63 : decode cX9_about 63 = .ok (.aload_n 0, 1) := by decide +kernel
theorem dX9_about_64 : decode cX9_about 64 = .ok (.invokevirtual 195, 3) := by decide +kernel
theorem dX9_about_67 : decode cX9_about 67 = .ok (.ireturn, 1) := by decide +kernel
theorem dX9_about_68 : decode cX9_about 68 = .ok (.aload_n 0, 1) := by decide +kernel
theorem dX9_about_69 : decode cX9_about 69 = .ok (.getfield 16, 3) := by decide +kernel
theorem dX9_about_72 : decode cX9_about 72 = .ok (.sipush 4960, 3) := by decide +kernel
theorem dX9_about_75 : decode cX9_about 75 = .ok (.iaload, 1) := by decide +kernel
theorem dX9_about_76 : decode cX9_about 76 = .ok (.ireturn, 1) := by decide +kernel
theorem dX9_about_77 : decode cX9_about 77 = .ok (.aload_n 0, 1) := by decide +kernel
theorem dX9_about_78 : decode cX9_about 78 = .ok (.getfield 237, 3) := by decide +kernel
theorem dX9_about_81 : decode cX9_about 81 = .ok (.ireturn, 1) := by decide +kernel
theorem dX9_about_82 : decode cX9_about 82 = .ok (.aload_n 0, 1) := by decide +kernel
theorem dX9_about_83 : decode cX9_about 83 = .ok (.getfield 103, 3) := by decide +kernel
theorem dX9_about_86 : decode cX9_about 86 = .ok (.ireturn, 1) := by decide +kernel
theorem dX9_about_87 : decode cX9_about 87 = .ok (.aload_n 0, 1) := by decide +kernel
theorem dX9_about_88 : decode cX9_about 88 = .ok (.invokevirtual 246, 3) := by decide +kernel
theorem dX9_about_91 : decode cX9_about 91 = .ok (.ireturn, 1) := by decide +kernel
theorem dX9_about_92 : decode cX9_about 92 = .ok (.iconst (-1), 1) := by decide +kernel
theorem dX9_about_93 : decode cX9_about 93 = .ok (.ireturn, 1) := by decide +kernel
theorem dX9_feed_0 : decode cX9_feed 0 = .ok (.aload_n 0, 1) := by decide +kernel
theorem dX9_feed_1 : decode cX9_feed 1 = .ok (.getfield 103, 3) := by decide +kernel
theorem dX9_feed_4 : decode cX9_feed 4 = .ok (.bipush 20, 2) := by decide +kernel
theorem dX9_feed_6 : decode cX9_feed 6 = .ok (.iadd, 1) := by decide +kernel
theorem dX9_feed_7 : decode cX9_feed 7 = .ok (.sipush 400, 3) := by decide +kernel
theorem dX9_feed_10 : decode cX9_feed 10 = .ok (.if_icmp .le 5, 3) := by decide +kernel
theorem dX9_feed_13 : decode cX9_feed 13 = .ok (.iconst (-1), 1) := by decide +kernel
theorem dX9_feed_14 : decode cX9_feed 14 = .ok (.ireturn, 1) := by decide +kernel
theorem dX9_feed_15 : decode cX9_feed 15 = .ok (.iconst 0, 1) := by decide +kernel
theorem dX9_feed_16 : decode cX9_feed 16 = .ok (.istore 6, 2) := by decide +kernel
theorem dX9_feed_18 : decode cX9_feed 18 = .ok (.iload 6, 2) := by decide +kernel
theorem dX9_feed_20 : decode cX9_feed 20 = .ok (.bipush 20, 2) := by decide +kernel
theorem dX9_feed_22 : decode cX9_feed 22 = .ok (.if_icmp .ge 83, 3) := by decide +kernel
theorem dX9_feed_25 : decode cX9_feed 25 = .ok (.iload 6, 2) := by decide +kernel
theorem dX9_feed_27 : decode cX9_feed 27 = .ok (.iconst 4, 1) := by decide +kernel
theorem dX9_feed_28 : decode cX9_feed 28 = .ok (.if_icmp .ge 7, 3) := by decide +kernel
theorem dX9_feed_31 : decode cX9_feed 31 = .ok (.iload_n 1, 1) := by decide +kernel
theorem dX9_feed_32 : decode cX9_feed 32 = .ok (.goto 39, 3) := by decide +kernel
theorem dX9_feed_35 : decode cX9_feed 35 = .ok (.iload 6, 2) := by decide +kernel
theorem dX9_feed_37 : decode cX9_feed 37 = .ok (.bipush 8, 2) := by decide +kernel
theorem dX9_feed_39 : decode cX9_feed 39 = .ok (.if_icmp .ge 7, 3) := by decide +kernel
theorem dX9_feed_42 : decode cX9_feed 42 = .ok (.iload_n 2, 1) := by decide +kernel
theorem dX9_feed_43 : decode cX9_feed 43 = .ok (.goto 28, 3) := by decide +kernel
theorem dX9_feed_46 : decode cX9_feed 46 = .ok (.iload 6, 2) := by decide +kernel
theorem dX9_feed_48 : decode cX9_feed 48 = .ok (.bipush 12, 2) := by decide +kernel
theorem dX9_feed_50 : decode cX9_feed 50 = .ok (.if_icmp .ge 7, 3) := by decide +kernel
theorem dX9_feed_53 : decode cX9_feed 53 = .ok (.iload_n 3, 1) := by decide +kernel
theorem dX9_feed_54 : decode cX9_feed 54 = .ok (.goto 17, 3) := by decide +kernel
theorem dX9_feed_57 : decode cX9_feed 57 = .ok (.iload 6, 2) := by decide +kernel
theorem dX9_feed_59 : decode cX9_feed 59 = .ok (.bipush 16, 2) := by decide +kernel
theorem dX9_feed_61 : decode cX9_feed 61 = .ok (.if_icmp .ge 8, 3) := by decide +kernel
theorem dX9_feed_64 : decode cX9_feed 64 = .ok (.iload 4, 2) := by decide +kernel
theorem dX9_feed_66 : decode cX9_feed 66 = .ok (.goto 5, 3) := by decide +kernel
theorem dX9_feed_69 : decode cX9_feed 69 = .ok (.iload 5, 2) := by decide +kernel
theorem dX9_feed_71 : decode cX9_feed 71 = .ok (.istore 7, 2) := by decide +kernel
theorem dX9_feed_73 : decode cX9_feed 73 = .ok (.aload_n 0, 1) := by decide +kernel
theorem dX9_feed_74 : decode cX9_feed 74 = .ok (.getfield 7, 3) := by decide +kernel
theorem dX9_feed_77 : decode cX9_feed 77 = .ok (.aload_n 0, 1) := by decide +kernel
theorem dX9_feed_78 : decode cX9_feed 78 = .ok (.getfield 103, 3) := by decide +kernel
theorem dX9_feed_81 : decode cX9_feed 81 = .ok (.iload 6, 2) := by decide +kernel
theorem dX9_feed_83 : decode cX9_feed 83 = .ok (.iadd, 1) := by decide +kernel
theorem dX9_feed_84 : decode cX9_feed 84 = .ok (.iload 7, 2) := by decide +kernel
theorem dX9_feed_86 : decode cX9_feed 86 = .ok (.bipush 24, 2) := by decide +kernel
theorem dX9_feed_88 : decode cX9_feed 88 = .ok (.bipush 8, 2) := by decide +kernel
theorem dX9_feed_90 : decode cX9_feed 90 = .ok (.iload 6, 2) := by decide +kernel
theorem dX9_feed_92 : decode cX9_feed 92 = .ok (.iconst 3, 1) := by decide +kernel
theorem dX9_feed_93 : decode cX9_feed 93 = .ok (.iand, 1) := by decide +kernel
theorem dX9_feed_94 : decode cX9_feed 94 = .ok (.imul, 1) := by decide +kernel
theorem dX9_feed_95 : decode cX9_feed 95 = .ok (.isub, 1) := by decide +kernel
theorem dX9_feed_96 : decode cX9_feed 96 = .ok (.ishr, 1) := by decide +kernel
theorem dX9_feed_97 : decode cX9_feed 97 = .ok (.i2b, 1) := by decide +kernel
theorem dX9_feed_98 : decode cX9_feed 98 = .ok (.bastore, 1) := by decide +kernel
theorem dX9_feed_99 : decode cX9_feed 99 = .ok (.iinc 6 1, 3) := by decide +kernel
theorem dX9_feed_102 : decode cX9_feed 102 = .ok (.goto (-84), 3) := by decide +kernel
theorem dX9_feed_105 : decode cX9_feed 105 = .ok (.aload_n 0, 1) := by decide +kernel
theorem dX9_feed_106 : decode cX9_feed 106 = .ok (.dup, 1) := by decide +kernel
theorem dX9_feed_107 : decode cX9_feed 107 = .ok (.getfield 103, 3) := by decide +kernel
theorem dX9_feed_110 : decode cX9_feed 110 = .ok (.bipush 20, 2) := by decide +kernel
theorem dX9_feed_112 : decode cX9_feed 112 = .ok (.iadd, 1) := by decide +kernel
theorem dX9_feed_113 : decode cX9_feed 113 = .ok (.putfield 103, 3) := by decide +kernel
theorem dX9_feed_116 : decode cX9_feed 116 = .ok (.aload_n 0, 1) := by decide +kernel
theorem dX9_feed_117 : decode cX9_feed 117 = .ok (.getfield 103, 3) := by decide +kernel
theorem dX9_feed_120 : decode cX9_feed 120 = .ok (.ireturn, 1) := by decide +kernel
theorem dX9_end_0 : decode cX9_end 0 = .ok (.iload_n 1, 1) := by decide +kernel
theorem dX9_end_1 : decode cX9_end 1 = .ok (.ifCond .lt 11, 3) := by decide +kernel
theorem dX9_end_4 : decode cX9_end 4 = .ok (.iload_n 1, 1) := by decide +kernel
theorem dX9_end_5 : decode cX9_end 5 = .ok (.aload_n 0, 1) := by decide +kernel
theorem dX9_end_6 : decode cX9_end 6 = .ok (.getfield 103, 3) := by decide +kernel
theorem dX9_end_9 : decode cX9_end 9 = .ok (.if_icmp .le 5, 3) := by decide +kernel
theorem dX9_end_12 : decode cX9_end 12 = .ok (.iconst (-1), 1) := by decide +kernel
theorem dX9_end_13 : decode cX9_end 13 = .ok (.ireturn, 1) := by decide +kernel
theorem dX9_end_14 : decode cX9_end 14 = .ok (.aload_n 0, 1) := by decide +kernel
theorem dX9_end_15 : decode cX9_end 15 = .ok (.iload_n 1, 1) := by decide +kernel
theorem dX9_end_16 : decode cX9_end 16 = .ok (.putfield 103, 3) := by decide +kernel
theorem dX9_end_19 : decode cX9_end 19 = .ok (.iload_n 1, 1) := by decide +kernel
theorem dX9_end_20 : decode cX9_end 20 = .ok (.ireturn, 1) := by decide +kernel

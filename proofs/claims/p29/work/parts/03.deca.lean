theorem dX0_init_0 : decode cX0_init 0 = .ok (.aload_n 0, 1) := by decide +kernel
theorem dX0_init_1 : decode cX0_init 1 = .ok (.invokespecial 3, 3) := by decide +kernel
theorem dX0_init_4 : decode cX0_init 4 = .ok (.aload_n 0, 1) := by decide +kernel
theorem dX0_init_5 : decode cX0_init 5 = .ok (.bipush 9, 2) := by decide +kernel
theorem dX0_init_7 : decode cX0_init 7 = .ok (.newarray .int, 2) := by decide +kernel
theorem dX0_init_9 : decode cX0_init 9 = .ok (.putfield 11, 3) := by decide +kernel
theorem dX0_init_12 : decode cX0_init 12 = .ok (.aload_n 0, 1) := by decide +kernel
theorem dX0_init_13 : decode cX0_init 13 = .ok (.bipush 9, 2) := by decide +kernel
theorem dX0_init_15 : decode cX0_init 15 = .ok (.newarray .int, 2) := by decide +kernel
theorem dX0_init_17 : decode cX0_init 17 = .ok (.putfield 15, 3) := by decide +kernel
theorem dX0_init_20 : decode cX0_init 20 = .ok (.aload_n 0, 1) := by decide +kernel
theorem dX0_init_21 : decode cX0_init 21 = .ok (.bipush 9, 2) := by decide +kernel
theorem dX0_init_23 : decode cX0_init 23 = .ok (.newarray .int, 2) := by decide +kernel
theorem dX0_init_25 : decode cX0_init 25 = .ok (.putfield 18, 3) := by decide +kernel
theorem dX0_init_28 : decode cX0_init 28 = .ok (.aload_n 0, 1) := by decide +kernel
theorem dX0_init_29 : decode cX0_init 29 = .ok (.bipush 9, 2) := by decide +kernel
theorem dX0_init_31 : decode cX0_init 31 = .ok (.newarray .int, 2) := by decide +kernel
theorem dX0_init_33 : decode cX0_init 33 = .ok (.putfield 21, 3) := by decide +kernel
theorem dX0_init_36 : decode cX0_init 36 = .ok (.aload_n 0, 1) := by decide +kernel
theorem dX0_init_37 : decode cX0_init 37 = .ok (.bipush 9, 2) := by decide +kernel
theorem dX0_init_39 : decode cX0_init 39 = .ok (.newarray .int, 2) := by decide +kernel
theorem dX0_init_41 : decode cX0_init 41 = .ok (.putfield 24, 3) := by decide +kernel
theorem dX0_init_44 : decode cX0_init 44 = .ok (.aload_n 0, 1) := by decide +kernel
theorem dX0_init_45 : decode cX0_init 45 = .ok (.bipush 9, 2) := by decide +kernel
theorem dX0_init_47 : decode cX0_init 47 = .ok (.newarray .int, 2) := by decide +kernel
theorem dX0_init_49 : decode cX0_init 49 = .ok (.putfield 27, 3) := by decide +kernel
theorem dX0_init_52 : decode cX0_init 52 = .ok (.aload_n 0, 1) := by decide +kernel
theorem dX0_init_53 : decode cX0_init 53 = .ok (.sipush 512, 3) := by decide +kernel
theorem dX0_init_56 : decode cX0_init 56 = .ok (.newarray .int, 2) := by decide +kernel
theorem dX0_init_58 : decode cX0_init 58 = .ok (.putfield 30, 3) := by decide +kernel
theorem dX0_init_61 : decode cX0_init 61 = .ok (.return_, 1) := by decide +kernel
theorem dX0_isFull_0 : decode cX0_isFull 0 = .ok (.aload_n 0, 1) := by decide +kernel
theorem dX0_isFull_1 : decode cX0_isFull 1 = .ok (.getfield 33, 3) := by decide +kernel
theorem dX0_isFull_4 : decode cX0_isFull 4 = .ok (.bipush 9, 2) := by decide +kernel
theorem dX0_isFull_6 : decode cX0_isFull 6 = .ok (.if_icmp .lt 7, 3) := by decide +kernel
theorem dX0_isFull_9 : decode cX0_isFull 9 = .ok (.iconst 1, 1) := by decide +kernel
theorem dX0_isFull_10 : decode cX0_isFull 10 = .ok (.goto 4, 3) := by decide +kernel
theorem dX0_isFull_13 : decode cX0_isFull 13 = .ok (.iconst 0, 1) := by decide +kernel
theorem dX0_isFull_14 : decode cX0_isFull 14 = .ok (.ireturn, 1) := by decide +kernel
theorem dX0_add_0 : decode cX0_add 0 = .ok (.aload_n 0, 1) := by decide +kernel
theorem dX0_add_1 : decode cX0_add 1 = .ok (.invokevirtual 37, 3) := by decide +kernel
theorem dX0_add_4 : decode cX0_add 4 = .ok (.ifCond .eq 5, 3) := by decide +kernel
theorem dX0_add_7 : decode cX0_add 7 = .ok (.iconst (-1), 1) := by decide +kernel
theorem dX0_add_8 : decode cX0_add 8 = .ok (.ireturn, 1) := by decide +kernel
theorem dX0_add_9 : decode cX0_add 9 = .ok (.aload_n 0, 1) := by decide +kernel
theorem dX0_add_10 : decode cX0_add 10 = .ok (.getfield 11, 3) := by decide +kernel
theorem dX0_add_13 : decode cX0_add 13 = .ok (.aload_n 0, 1) := by decide +kernel
theorem dX0_add_14 : decode cX0_add 14 = .ok (.getfield 33, 3) := by decide +kernel
theorem dX0_add_17 : decode cX0_add 17 = .ok (.iload_n 1, 1) := by decide +kernel
theorem dX0_add_18 : decode cX0_add 18 = .ok (.iastore, 1) := by decide +kernel
theorem dX0_add_19 : decode cX0_add 19 = .ok (.aload_n 0, 1) := by decide +kernel
theorem dX0_add_20 : decode cX0_add 20 = .ok (.getfield 15, 3) := by decide +kernel
theorem dX0_add_23 : decode cX0_add 23 = .ok (.aload_n 0, 1) := by decide +kernel
theorem dX0_add_24 : decode cX0_add 24 = .ok (.getfield 33, 3) := by decide +kernel
theorem dX0_add_27 : decode cX0_add 27 = .ok (.iload_n 2, 1) := by decide +kernel
theorem dX0_add_28 : decode cX0_add 28 = .ok (.iastore, 1) := by decide +kernel
theorem dX0_add_29 : decode cX0_add 29 = .ok (.aload_n 0, 1) := by decide +kernel
theorem dX0_add_30 : decode cX0_add 30 = .ok (.getfield 18, 3) := by decide +kernel
theorem dX0_add_33 : decode cX0_add 33 = .ok (.aload_n 0, 1) := by decide +kernel
theorem dX0_add_34 : decode cX0_add 34 = .ok (.getfield 33, 3) := by decide +kernel
theorem dX0_add_37 : decode cX0_add 37 = .ok (.iload_n 3, 1) := by decide +kernel
theorem dX0_add_38 : decode cX0_add 38 = .ok (.iastore, 1) := by decide +kernel
theorem dX0_add_39 : decode cX0_add 39 = .ok (.aload_n 0, 1) := by decide +kernel
theorem dX0_add_40 : decode cX0_add 40 = .ok (.getfield 21, 3) := by decide +kernel
theorem dX0_add_43 : decode cX0_add 43 = .ok (.aload_n 0, 1) := by decide +kernel
theorem dX0_add_44 : decode cX0_add 44 = .ok (.getfield 33, 3) := by decide +kernel
theorem dX0_add_47 : decode cX0_add 47 = .ok (.iload 4, 2) := by decide +kernel
theorem dX0_add_49 : decode cX0_add 49 = .ok (.iastore, 1) := by decide +kernel
theorem dX0_add_50 : decode cX0_add 50 = .ok (.aload_n 0, 1) := by decide +kernel
theorem dX0_add_51 : decode cX0_add 51 = .ok (.getfield 24, 3) := by decide +kernel
theorem dX0_add_54 : decode cX0_add 54 = .ok (.aload_n 0, 1) := by decide +kernel
theorem dX0_add_55 : decode cX0_add 55 = .ok (.getfield 33, 3) := by decide +kernel
theorem dX0_add_58 : decode cX0_add 58 = .ok (.iload 5, 2) := by decide +kernel
theorem dX0_add_60 : decode cX0_add 60 = .ok (.iastore, 1) := by decide +kernel
theorem dX0_add_61 : decode cX0_add 61 = .ok (.aload_n 0, 1) := by decide +kernel
theorem dX0_add_62 : decode cX0_add 62 = .ok (.dup, 1) := by decide +kernel
theorem dX0_add_63 : decode cX0_add 63 = .ok (.getfield 33, 3) := by decide +kernel
theorem dX0_add_66 : decode cX0_add 66 = .ok (.iconst 1, 1) := by decide +kernel
theorem dX0_add_67 : decode cX0_add 67 = .ok (.iadd, 1) := by decide +kernel
theorem dX0_add_68 : decode cX0_add 68 = .ok (.putfield 33, 3) := by decide +kernel
theorem dX0_add_71 : decode cX0_add 71 = .ok (.aload_n 0, 1) := by decide +kernel
theorem dX0_add_72 : decode cX0_add 72 = .ok (.iconst 0, 1) := by decide +kernel
theorem dX0_add_73 : decode cX0_add 73 = .ok (.putfield 41, 3) := by decide +kernel
theorem dX0_add_76 : decode cX0_add 76 = .ok (.aload_n 0, 1) := by decide +kernel
theorem dX0_add_77 : decode cX0_add 77 = .ok (.getfield 33, 3) := by decide +kernel
theorem dX0_add_80 : decode cX0_add 80 = .ok (.iconst 1, 1) := by decide +kernel
theorem dX0_add_81 : decode cX0_add 81 = .ok (.isub, 1) := by decide +kernel
theorem dX0_add_82 : decode cX0_add 82 = .ok (.ireturn, 1) := by decide +kernel
theorem dX0_clear_0 : decode cX0_clear 0 = .ok (.aload_n 0, 1) := by decide +kernel
theorem dX0_clear_1 : decode cX0_clear 1 = .ok (.getfield 33, 3) := by decide +kernel
theorem dX0_clear_4 : decode cX0_clear 4 = .ok (.istore_n 1, 1) := by decide +kernel
theorem dX0_clear_5 : decode cX0_clear 5 = .ok (.aload_n 0, 1) := by decide +kernel
theorem dX0_clear_6 : decode cX0_clear 6 = .ok (.iconst 0, 1) := by decide +kernel
theorem dX0_clear_7 : decode cX0_clear 7 = .ok (.putfield 33, 3) := by decide +kernel
theorem dX0_clear_10 : decode cX0_clear 10 = .ok (.aload_n 0, 1) := by decide +kernel
theorem dX0_clear_11 : decode cX0_clear 11 = .ok (.iconst 0, 1) := by decide +kernel
theorem dX0_clear_12 : decode cX0_clear 12 = .ok (.putfield 41, 3) := by decide +kernel
theorem dX0_clear_15 : decode cX0_clear 15 = .ok (.iload_n 1, 1) := by decide +kernel
theorem dX0_clear_16 : decode cX0_clear 16 = .ok (.ireturn, 1) := by decide +kernel
theorem dX0_isRight_0 : decode cX0_isRight 0 = .ok (.aload_n 0, 1) := by decide +kernel
theorem dX0_isRight_1 : decode cX0_isRight 1 = .ok (.getfield 41, 3) := by decide +kernel
theorem dX0_isRight_4 : decode cX0_isRight 4 = .ok (.ifCond .ne 43, 3) := by decide +kernel
theorem dX0_isRight_7 : decode cX0_isRight 7 = .ok (.iconst 0, 1) := by decide +kernel
theorem dX0_isRight_8 : decode cX0_isRight 8 = .ok (.istore_n 1, 1) := by decide +kernel
theorem dX0_isRight_9 : decode cX0_isRight 9 = .ok (.iload_n 1, 1) := by decide +kernel
theorem dX0_isRight_10 : decode cX0_isRight 10 = .ok (.sipush 512, 3) := by decide +kernel
theorem dX0_isRight_13 : decode cX0_isRight 13 = .ok (.if_icmp .ge 16, 3) := by decide +kernel
theorem dX0_isRight_16 : decode cX0_isRight 16 = .ok (.aload_n 0, 1) := by decide +kernel
theorem dX0_isRight_17 : decode cX0_isRight 17 = .ok (.getfield 30, 3) := by decide +kernel
theorem dX0_isRight_20 : decode cX0_isRight 20 = .ok (.iload_n 1, 1) := by decide +kernel
theorem dX0_isRight_21 : decode cX0_isRight 21 = .ok (.iconst 0, 1) := by decide +kernel
theorem dX0_isRight_22 : decode cX0_isRight 22 = .ok (.iastore, 1) := by decide +kernel
theorem dX0_isRight_23 : decode cX0_isRight 23 = .ok (.iinc 1 1, 3) := by decide +kernel
theorem dX0_isRight_26 : decode cX0_isRight 26 = .ok (.goto (-17), 3) := by decide +kernel
theorem dX0_isRight_29 : decode cX0_isRight 29 = .ok (.aload_n 0, 1) := by decide +kernel
theorem dX0_isRight_30 : decode cX0_isRight 30 = .ok (.aload_n 0, 1) := by decide +kernel
theorem dX0_isRight_31 : decode cX0_isRight 31 = .ok (.iconst 0, 1) := by decide +kernel
theorem dX0_isRight_32 : decode cX0_isRight 32 = .ok (.iconst 0, 1) := by decide +kernel
theorem dX0_isRight_33 : decode cX0_isRight 33 = .ok (.iconst 0, 1) := by decide +kernel
theorem dX0_isRight_34 : decode cX0_isRight 34 = .ok (.bipush 9, 2) := by decide +kernel
theorem dX0_isRight_36 : decode cX0_isRight 36 = .ok (.invokevirtual 45, 3) := by decide +kernel
theorem dX0_isRight_39 : decode cX0_isRight 39 = .ok (.putfield 49, 3) := by decide +kernel
theorem dX0_isRight_42 : decode cX0_isRight 42 = .ok (.aload_n 0, 1) := by decide +kernel
theorem dX0_isRight_43 : decode cX0_isRight 43 = .ok (.iconst 1, 1) := by decide +kernel
theorem dX0_isRight_44 : decode cX0_isRight 44 = .ok (.putfield 41, 3) := by decide +kernel
theorem dX0_isRight_47 : decode cX0_isRight 47 = .ok (.aload_n 0, 1) := by decide +kernel
theorem dX0_isRight_48 : decode cX0_isRight 48 = .ok (.getfield 49, 3) := by decide +kernel
theorem dX0_isRight_51 : decode cX0_isRight 51 = .ok (.ireturn, 1) := by decide +kernel
theorem dX0_canGoOn_0 : decode cX0_canGoOn 0 = .ok (.iload_n 1, 1) := by decide +kernel
theorem dX0_canGoOn_1 : decode cX0_canGoOn 1 = .ok (.aload_n 0, 1) := by decide +kernel
theorem dX0_canGoOn_2 : decode cX0_canGoOn 2 = .ok (.getfield 33, 3) := by decide +kernel
theorem dX0_canGoOn_5 : decode cX0_canGoOn 5 = .ok (.if_icmp .ge 9, 3) := by decide +kernel
theorem dX0_canGoOn_8 : decode cX0_canGoOn 8 = .ok (.iload_n 1, 1) := by decide +kernel
theorem dX0_canGoOn_9 : decode cX0_canGoOn 9 = .ok (.bipush 9, 2) := by decide +kernel
theorem dX0_canGoOn_11 : decode cX0_canGoOn 11 = .ok (.if_icmp .lt 5, 3) := by decide +kernel
theorem dX0_canGoOn_14 : decode cX0_canGoOn 14 = .ok (.iconst 1, 1) := by decide +kernel
theorem dX0_canGoOn_15 : decode cX0_canGoOn 15 = .ok (.ireturn, 1) := by decide +kernel
theorem dX0_canGoOn_16 : decode cX0_canGoOn 16 = .ok (.aload_n 0, 1) := by decide +kernel
theorem dX0_canGoOn_17 : decode cX0_canGoOn 17 = .ok (.getfield 30, 3) := by decide +kernel
theorem dX0_canGoOn_20 : decode cX0_canGoOn 20 = .ok (.iload_n 2, 1) := by decide +kernel
theorem dX0_canGoOn_21 : decode cX0_canGoOn 21 = .ok (.iaload, 1) := by decide +kernel
theorem dX0_canGoOn_22 : decode cX0_canGoOn 22 = .ok (.iload 4, 2) := by decide +kernel
theorem dX0_canGoOn_24 : decode cX0_canGoOn 24 = .ok (.ishr, 1) := by decide +kernel
theorem dX0_canGoOn_25 : decode cX0_canGoOn 25 = .ok (.iconst 1, 1) := by decide +kernel
theorem dX0_canGoOn_26 : decode cX0_canGoOn 26 = .ok (.iand, 1) := by decide +kernel
theorem dX0_canGoOn_27 : decode cX0_canGoOn 27 = .ok (.ifCond .eq 5, 3) := by decide +kernel
theorem dX0_canGoOn_30 : decode cX0_canGoOn 30 = .ok (.iconst 0, 1) := by decide +kernel
theorem dX0_canGoOn_31 : decode cX0_canGoOn 31 = .ok (.ireturn, 1) := by decide +kernel
theorem dX0_canGoOn_32 : decode cX0_canGoOn 32 = .ok (.iconst 0, 1) := by decide +kernel
theorem dX0_canGoOn_33 : decode cX0_canGoOn 33 = .ok (.istore 5, 2) := by decide +kernel
theorem dX0_canGoOn_35 : decode cX0_canGoOn 35 = .ok (.iload 5, 2) := by decide +kernel
theorem dX0_canGoOn_37 : decode cX0_canGoOn 37 = .ok (.aload_n 0, 1) := by decide +kernel
theorem dX0_canGoOn_38 : decode cX0_canGoOn 38 = .ok (.getfield 33, 3) := by decide +kernel
theorem dX0_canGoOn_41 : decode cX0_canGoOn 41 = .ok (.if_icmp .ge 131, 3) := by decide +kernel
theorem dX0_canGoOn_44 : decode cX0_canGoOn 44 = .ok (.aload_n 0, 1) := by decide +kernel
theorem dX0_canGoOn_45 : decode cX0_canGoOn 45 = .ok (.getfield 18, 3) := by decide +kernel
theorem dX0_canGoOn_48 : decode cX0_canGoOn 48 = .ok (.iload 5, 2) := by decide +kernel
theorem dX0_canGoOn_50 : decode cX0_canGoOn 50 = .ok (.iaload, 1) := by decide +kernel
theorem dX0_canGoOn_51 : decode cX0_canGoOn 51 = .ok (.iload_n 3, 1) := by decide +kernel
theorem dX0_canGoOn_52 : decode cX0_canGoOn 52 = .ok (.aload_n 0, 1) := by decide +kernel
theorem dX0_canGoOn_53 : decode cX0_canGoOn 53 = .ok (.getfield 21, 3) := by decide +kernel
theorem dX0_canGoOn_56 : decode cX0_canGoOn 56 = .ok (.iload 5, 2) := by decide +kernel
theorem dX0_canGoOn_58 : decode cX0_canGoOn 58 = .ok (.iaload, 1) := by decide +kernel
theorem dX0_canGoOn_59 : decode cX0_canGoOn 59 = .ok (.invokestatic 52, 3) := by decide +kernel
theorem dX0_canGoOn_62 : decode cX0_canGoOn 62 = .ok (.istore 6, 2) := by decide +kernel
theorem dX0_canGoOn_64 : decode cX0_canGoOn 64 = .ok (.aload_n 0, 1) := by decide +kernel
theorem dX0_canGoOn_65 : decode cX0_canGoOn 65 = .ok (.iload 5, 2) := by decide +kernel
theorem dX0_canGoOn_67 : decode cX0_canGoOn 67 = .ok (.iload_n 2, 1) := by decide +kernel
theorem dX0_canGoOn_68 : decode cX0_canGoOn 68 = .ok (.invokevirtual 56, 3) := by decide +kernel
theorem dX0_canGoOn_71 : decode cX0_canGoOn 71 = .ok (.ifCond .eq 95, 3) := by decide +kernel
theorem dX0_canGoOn_74 : decode cX0_canGoOn 74 = .ok (.aload_n 0, 1) := by decide +kernel
theorem dX0_canGoOn_75 : decode cX0_canGoOn 75 = .ok (.getfield 18, 3) := by decide +kernel
theorem dX0_canGoOn_78 : decode cX0_canGoOn 78 = .ok (.iload 5, 2) := by decide +kernel
theorem dX0_canGoOn_80 : decode cX0_canGoOn 80 = .ok (.iaload, 1) := by decide +kernel
theorem dX0_canGoOn_81 : decode cX0_canGoOn 81 = .ok (.iload_n 3, 1) := by decide +kernel
theorem dX0_canGoOn_82 : decode cX0_canGoOn 82 = .ok (.iload 6, 2) := by decide +kernel
theorem dX0_canGoOn_84 : decode cX0_canGoOn 84 = .ok (.invokestatic 60, 3) := by decide +kernel
theorem dX0_canGoOn_87 : decode cX0_canGoOn 87 = .ok (.aload_n 0, 1) := by decide +kernel
theorem dX0_canGoOn_88 : decode cX0_canGoOn 88 = .ok (.getfield 24, 3) := by decide +kernel
theorem dX0_canGoOn_91 : decode cX0_canGoOn 91 = .ok (.iload 5, 2) := by decide +kernel
theorem dX0_canGoOn_93 : decode cX0_canGoOn 93 = .ok (.iaload, 1) := by decide +kernel
theorem dX0_canGoOn_94 : decode cX0_canGoOn 94 = .ok (.if_icmp .ne 72, 3) := by decide +kernel
theorem dX0_canGoOn_97 : decode cX0_canGoOn 97 = .ok (.aload_n 0, 1) := by decide +kernel
theorem dX0_canGoOn_98 : decode cX0_canGoOn 98 = .ok (.getfield 18, 3) := by decide +kernel
theorem dX0_canGoOn_101 : decode cX0_canGoOn 101 = .ok (.iload 5, 2) := by decide +kernel
theorem dX0_canGoOn_103 : decode cX0_canGoOn 103 = .ok (.iaload, 1) := by decide +kernel
theorem dX0_canGoOn_104 : decode cX0_canGoOn 104 = .ok (.iconst 3, 1) := by decide +kernel
theorem dX0_canGoOn_105 : decode cX0_canGoOn 105 = .ok (.if_icmp .ne 14, 3) := by decide +kernel
theorem dX0_canGoOn_108 : decode cX0_canGoOn 108 = .ok (.aload_n 0, 1) := by decide +kernel
theorem dX0_canGoOn_109 : decode cX0_canGoOn 109 = .ok (.getfield 24, 3) := by decide +kernel
theorem dX0_canGoOn_112 : decode cX0_canGoOn 112 = .ok (.iload 5, 2) := by decide +kernel
theorem dX0_canGoOn_114 : decode cX0_canGoOn 114 = .ok (.iaload, 1) := by decide +kernel
theorem dX0_canGoOn_115 : decode cX0_canGoOn 115 = .ok (.iconst 1, 1) := by decide +kernel
theorem dX0_canGoOn_116 : decode cX0_canGoOn 116 = .ok (.if_icmp .ne 7, 3) := by decide +kernel
theorem dX0_canGoOn_119 : decode cX0_canGoOn 119 = .ok (.iconst 1, 1) := by decide +kernel
theorem dX0_canGoOn_120 : decode cX0_canGoOn 120 = .ok (.goto 4, 3) := by decide +kernel
theorem dX0_canGoOn_123 : decode cX0_canGoOn 123 = .ok (.iconst 0, 1) := by decide +kernel
theorem dX0_canGoOn_124 : decode cX0_canGoOn 124 = .ok (.istore 7, 2) := by decide +kernel
theorem dX0_canGoOn_126 : decode cX0_canGoOn 126 = .ok (.aload_n 0, 1) := by decide +kernel
theorem dX0_canGoOn_127 : decode cX0_canGoOn 127 = .ok (.getfield 27, 3) := by decide +kernel
theorem dX0_canGoOn_130 : decode cX0_canGoOn 130 = .ok (.iload_n 1, 1) := by decide +kernel
theorem dX0_canGoOn_131 : decode cX0_canGoOn 131 = .ok (.iload 5, 2) := by decide +kernel
theorem dX0_canGoOn_133 : decode cX0_canGoOn 133 = .ok (.iastore, 1) := by decide +kernel
theorem dX0_canGoOn_134 : decode cX0_canGoOn 134 = .ok (.aload_n 0, 1) := by decide +kernel
theorem dX0_canGoOn_135 : decode cX0_canGoOn 135 = .ok (.iload_n 1, 1) := by decide +kernel
theorem dX0_canGoOn_136 : decode cX0_canGoOn 136 = .ok (.iconst 1, 1) := by decide +kernel
theorem dX0_canGoOn_137 : decode cX0_canGoOn 137 = .ok (.iadd, 1) := by decide +kernel
theorem dX0_canGoOn_138 : decode cX0_canGoOn 138 = .ok (.iload_n 2, 1) := by decide +kernel
theorem dX0_canGoOn_139 : decode cX0_canGoOn 139 = .ok (.iconst 1, 1) := by decide +kernel
theorem dX0_canGoOn_140 : decode cX0_canGoOn 140 = .ok (.iload 5, 2) := by decide +kernel
theorem dX0_canGoOn_142 : decode cX0_canGoOn 142 = .ok (.ishl, 1) := by decide +kernel
theorem dX0_canGoOn_143 : decode cX0_canGoOn 143 = .ok (.ior, 1) := by decide +kernel
theorem dX0_canGoOn_144 : decode cX0_canGoOn 144 = .ok (.iload 6, 2) := by decide +kernel
theorem dX0_canGoOn_146 : decode cX0_canGoOn 146 = .ok (.iload 7, 2) := by decide +kernel
theorem dX0_canGoOn_148 : decode cX0_canGoOn 148 = .ok (.ifCond .eq 8, 3) := by decide +kernel
theorem dX0_canGoOn_151 : decode cX0_canGoOn 151 = .ok (.iload 5, 2) := by decide +kernel
theorem dX0_canGoOn_153 : decode cX0_canGoOn 153 = .ok (.goto 5, 3) := by decide +kernel
theorem dX0_canGoOn_156 : decode cX0_canGoOn 156 = .ok (.iload 4, 2) := by decide +kernel
theorem dX0_canGoOn_158 : decode cX0_canGoOn 158 = .ok (.invokevirtual 45, 3) := by decide +kernel
theorem dX0_canGoOn_161 : decode cX0_canGoOn 161 = .ok (.ifCond .eq 5, 3) := by decide +kernel
theorem dX0_canGoOn_164 : decode cX0_canGoOn 164 = .ok (.iconst 1, 1) := by decide +kernel
theorem dX0_canGoOn_165 : decode cX0_canGoOn 165 = .ok (.ireturn, 1) := by decide +kernel
theorem dX0_canGoOn_166 : decode cX0_canGoOn 166 = .ok (.iinc 5 1, 3) := by decide +kernel
theorem dX0_canGoOn_169 : decode cX0_canGoOn 169 = .ok (.goto (-134), 3) := by decide +kernel
theorem dX0_canGoOn_172 : decode cX0_canGoOn 172 = .ok (.aload_n 0, 1) := by decide +kernel
theorem dX0_canGoOn_173 : decode cX0_canGoOn 173 = .ok (.getfield 30, 3) := by decide +kernel
theorem dX0_canGoOn_176 : decode cX0_canGoOn 176 = .ok (.iload_n 2, 1) := by decide +kernel
theorem dX0_canGoOn_177 : decode cX0_canGoOn 177 = .ok (.dup2, 1) := by decide +kernel
theorem dX0_canGoOn_178 : decode cX0_canGoOn 178 = .ok (.iaload, 1) := by decide +kernel
theorem dX0_canGoOn_179 : decode cX0_canGoOn 179 = .ok (.iconst 1, 1) := by decide +kernel
theorem dX0_canGoOn_180 : decode cX0_canGoOn 180 = .ok (.iload 4, 2) := by decide +kernel
theorem dX0_canGoOn_182 : decode cX0_canGoOn 182 = .ok (.ishl, 1) := by decide +kernel
theorem dX0_canGoOn_183 : decode cX0_canGoOn 183 = .ok (.ior, 1) := by decide +kernel
theorem dX0_canGoOn_184 : decode cX0_canGoOn 184 = .ok (.iastore, 1) := by decide +kernel
theorem dX0_canGoOn_185 : decode cX0_canGoOn 185 = .ok (.iconst 0, 1) := by decide +kernel
theorem dX0_canGoOn_186 : decode cX0_canGoOn 186 = .ok (.ireturn, 1) := by decide +kernel
theorem dX0_canBeNext_0 : decode cX0_canBeNext 0 = .ok (.iload_n 2, 1) := by decide +kernel
theorem dX0_canBeNext_1 : decode cX0_canBeNext 1 = .ok (.iload_n 1, 1) := by decide +kernel
theorem dX0_canBeNext_2 : decode cX0_canBeNext 2 = .ok (.ishr, 1) := by decide +kernel
theorem dX0_canBeNext_3 : decode cX0_canBeNext 3 = .ok (.iconst 1, 1) := by decide +kernel
theorem dX0_canBeNext_4 : decode cX0_canBeNext 4 = .ok (.iand, 1) := by decide +kernel
theorem dX0_canBeNext_5 : decode cX0_canBeNext 5 = .ok (.ifCond .eq 5, 3) := by decide +kernel
theorem dX0_canBeNext_8 : decode cX0_canBeNext 8 = .ok (.iconst 0, 1) := by decide +kernel
theorem dX0_canBeNext_9 : decode cX0_canBeNext 9 = .ok (.ireturn, 1) := by decide +kernel
theorem dX0_canBeNext_10 : decode cX0_canBeNext 10 = .ok (.iconst 0, 1) := by decide +kernel
theorem dX0_canBeNext_11 : decode cX0_canBeNext 11 = .ok (.istore_n 3, 1) := by decide +kernel
theorem dX0_canBeNext_12 : decode cX0_canBeNext 12 = .ok (.iload_n 3, 1) := by decide +kernel
theorem dX0_canBeNext_13 : decode cX0_canBeNext 13 = .ok (.aload_n 0, 1) := by decide +kernel
theorem dX0_canBeNext_14 : decode cX0_canBeNext 14 = .ok (.getfield 33, 3) := by decide +kernel
theorem dX0_canBeNext_17 : decode cX0_canBeNext 17 = .ok (.if_icmp .ge 34, 3) := by decide +kernel
theorem dX0_canBeNext_20 : decode cX0_canBeNext 20 = .ok (.iload_n 2, 1) := by decide +kernel
theorem dX0_canBeNext_21 : decode cX0_canBeNext 21 = .ok (.iload_n 3, 1) := by decide +kernel
theorem dX0_canBeNext_22 : decode cX0_canBeNext 22 = .ok (.ishr, 1) := by decide +kernel
theorem dX0_canBeNext_23 : decode cX0_canBeNext 23 = .ok (.iconst 1, 1) := by decide +kernel
theorem dX0_canBeNext_24 : decode cX0_canBeNext 24 = .ok (.iand, 1) := by decide +kernel
theorem dX0_canBeNext_25 : decode cX0_canBeNext 25 = .ok (.ifCond .ne 20, 3) := by decide +kernel
theorem dX0_canBeNext_28 : decode cX0_canBeNext 28 = .ok (.aload_n 0, 1) := by decide +kernel
theorem dX0_canBeNext_29 : decode cX0_canBeNext 29 = .ok (.getfield 15, 3) := by decide +kernel
theorem dX0_canBeNext_32 : decode cX0_canBeNext 32 = .ok (.iload_n 3, 1) := by decide +kernel
theorem dX0_canBeNext_33 : decode cX0_canBeNext 33 = .ok (.iaload, 1) := by decide +kernel
theorem dX0_canBeNext_34 : decode cX0_canBeNext 34 = .ok (.aload_n 0, 1) := by decide +kernel
theorem dX0_canBeNext_35 : decode cX0_canBeNext 35 = .ok (.getfield 11, 3) := by decide +kernel
theorem dX0_canBeNext_38 : decode cX0_canBeNext 38 = .ok (.iload_n 1, 1) := by decide +kernel
theorem dX0_canBeNext_39 : decode cX0_canBeNext 39 = .ok (.iaload, 1) := by decide +kernel
theorem dX0_canBeNext_40 : decode cX0_canBeNext 40 = .ok (.if_icmp .ge 5, 3) := by decide +kernel
theorem dX0_canBeNext_43 : decode cX0_canBeNext 43 = .ok (.iconst 0, 1) := by decide +kernel
theorem dX0_canBeNext_44 : decode cX0_canBeNext 44 = .ok (.ireturn, 1) := by decide +kernel
theorem dX0_canBeNext_45 : decode cX0_canBeNext 45 = .ok (.iinc 3 1, 3) := by decide +kernel
theorem dX0_canBeNext_48 : decode cX0_canBeNext 48 = .ok (.goto (-36), 3) := by decide +kernel
theorem dX0_canBeNext_51 : decode cX0_canBeNext 51 = .ok (.iconst 1, 1) := by decide +kernel
theorem dX0_canBeNext_52 : decode cX0_canBeNext 52 = .ok (.ireturn, 1) := by decide +kernel
theorem dX1_init_0 : decode cX1_init 0 = .ok (.aload_n 0, 1) := by decide +kernel
theorem dX1_init_1 : decode cX1_init 1 = .ok (.invokespecial 3, 3) := by decide +kernel
theorem dX1_init_4 : decode cX1_init 4 = .ok (.aload_n 0, 1) := by decide +kernel
theorem dX1_init_5 : decode cX1_init 5 = .ok (.sipush 240, 3) := by decide +kernel
theorem dX1_init_8 : decode cX1_init 8 = .ok (.newarray .int, 2) := by decide +kernel
theorem dX1_init_10 : decode cX1_init 10 = .ok (.putfield 11, 3) := by decide +kernel
theorem dX1_init_13 : decode cX1_init 13 = .ok (.aload_n 0, 1) := by decide +kernel
theorem dX1_init_14 : decode cX1_init 14 = .ok (.new 15, 3) := by decide +kernel
theorem dX1_init_17 : decode cX1_init 17 = .ok (.dup, 1) := by decide +kernel
theorem dX1_init_18 : decode cX1_init 18 = .ok (.invokespecial 17, 3) := by decide +kernel
theorem dX1_init_21 : decode cX1_init 21 = .ok (.putfield 18, 3) := by decide +kernel
theorem dX1_init_24 : decode cX1_init 24 = .ok (.aload_n 0, 1) := by decide +kernel
theorem dX1_init_25 : decode cX1_init 25 = .ok (.new 15, 3) := by decide +kernel
theorem dX1_init_28 : decode cX1_init 28 = .ok (.dup, 1) := by decide +kernel
theorem dX1_init_29 : decode cX1_init 29 = .ok (.invokespecial 17, 3) := by decide +kernel
theorem dX1_init_32 : decode cX1_init 32 = .ok (.putfield 22, 3) := by decide +kernel
theorem dX1_init_35 : decode cX1_init 35 = .ok (.aload_n 0, 1) := by decide +kernel
theorem dX1_init_36 : decode cX1_init 36 = .ok (.bipush 7, 2) := by decide +kernel
theorem dX1_init_38 : decode cX1_init 38 = .ok (.newarray .int, 2) := by decide +kernel
theorem dX1_init_40 : decode cX1_init 40 = .ok (.putfield 25, 3) := by decide +kernel
theorem dX1_init_43 : decode cX1_init 43 = .ok (.aload_n 0, 1) := by decide +kernel
theorem dX1_init_44 : decode cX1_init 44 = .ok (.bipush 7, 2) := by decide +kernel
theorem dX1_init_46 : decode cX1_init 46 = .ok (.newarray .int, 2) := by decide +kernel
theorem dX1_init_48 : decode cX1_init 48 = .ok (.putfield 28, 3) := by decide +kernel
theorem dX1_init_51 : decode cX1_init 51 = .ok (.aload_n 0, 1) := by decide +kernel
theorem dX1_init_52 : decode cX1_init 52 = .ok (.bipush 7, 2) := by decide +kernel
theorem dX1_init_54 : decode cX1_init 54 = .ok (.newarray .int, 2) := by decide +kernel
theorem dX1_init_56 : decode cX1_init 56 = .ok (.putfield 31, 3) := by decide +kernel
theorem dX1_init_59 : decode cX1_init 59 = .ok (.aload_n 0, 1) := by decide +kernel
theorem dX1_init_60 : decode cX1_init 60 = .ok (.bipush 7, 2) := by decide +kernel
theorem dX1_init_62 : decode cX1_init 62 = .ok (.newarray .int, 2) := by decide +kernel
theorem dX1_init_64 : decode cX1_init 64 = .ok (.putfield 34, 3) := by decide +kernel
theorem dX1_init_67 : decode cX1_init 67 = .ok (.return_, 1) := by decide +kernel
theorem dX1_begin_0 : decode cX1_begin 0 = .ok (.aload_n 0, 1) := by decide +kernel
theorem dX1_begin_1 : decode cX1_begin 1 = .ok (.iload_n 1, 1) := by decide +kernel
theorem dX1_begin_2 : decode cX1_begin 2 = .ok (.putfield 37, 3) := by decide +kernel
theorem dX1_begin_5 : decode cX1_begin 5 = .ok (.aload_n 0, 1) := by decide +kernel
theorem dX1_begin_6 : decode cX1_begin 6 = .ok (.iconst 0, 1) := by decide +kernel
theorem dX1_begin_7 : decode cX1_begin 7 = .ok (.putfield 41, 3) := by decide +kernel
theorem dX1_begin_10 : decode cX1_begin 10 = .ok (.aload_n 0, 1) := by decide +kernel
theorem dX1_begin_11 : decode cX1_begin 11 = .ok (.iconst 0, 1) := by decide +kernel
theorem dX1_begin_12 : decode cX1_begin 12 = .ok (.putfield 44, 3) := by decide +kernel
theorem dX1_begin_15 : decode cX1_begin 15 = .ok (.aload_n 0, 1) := by decide +kernel
theorem dX1_begin_16 : decode cX1_begin 16 = .ok (.iconst (-1), 1) := by decide +kernel
theorem dX1_begin_17 : decode cX1_begin 17 = .ok (.putfield 48, 3) := by decide +kernel
theorem dX1_begin_20 : decode cX1_begin 20 = .ok (.aload_n 0, 1) := by decide +kernel
theorem dX1_begin_21 : decode cX1_begin 21 = .ok (.iconst 0, 1) := by decide +kernel
theorem dX1_begin_22 : decode cX1_begin 22 = .ok (.putfield 51, 3) := by decide +kernel
theorem dX1_begin_25 : decode cX1_begin 25 = .ok (.aload_n 0, 1) := by decide +kernel
theorem dX1_begin_26 : decode cX1_begin 26 = .ok (.iconst 0, 1) := by decide +kernel
theorem dX1_begin_27 : decode cX1_begin 27 = .ok (.putfield 54, 3) := by decide +kernel
theorem dX1_begin_30 : decode cX1_begin 30 = .ok (.aload_n 0, 1) := by decide +kernel
theorem dX1_begin_31 : decode cX1_begin 31 = .ok (.iconst 0, 1) := by decide +kernel
theorem dX1_begin_32 : decode cX1_begin 32 = .ok (.putfield 57, 3) := by decide +kernel
theorem dX1_begin_35 : decode cX1_begin 35 = .ok (.aload_n 0, 1) := by decide +kernel
theorem dX1_begin_36 : decode cX1_begin 36 = .ok (.iconst 0, 1) := by decide +kernel
theorem dX1_begin_37 : decode cX1_begin 37 = .ok (.putfield 60, 3) := by decide +kernel
theorem dX1_begin_40 : decode cX1_begin 40 = .ok (.aload_n 0, 1) := by decide +kernel
theorem dX1_begin_41 : decode cX1_begin 41 = .ok (.getfield 18, 3) := by decide +kernel
theorem dX1_begin_44 : decode cX1_begin 44 = .ok (.invokevirtual 63, 3) := by decide +kernel
theorem dX1_begin_47 : decode cX1_begin 47 = .ok (.aload_n 0, 1) := by decide +kernel
theorem dX1_begin_48 : decode cX1_begin 48 = .ok (.getfield 22, 3) := by decide +kernel
theorem dX1_begin_51 : decode cX1_begin 51 = .ok (.invokevirtual 63, 3) := by decide +kernel
theorem dX1_begin_54 : decode cX1_begin 54 = .ok (.aload_n 0, 1) := by decide +kernel
theorem dX1_begin_55 : decode cX1_begin 55 = .ok (.invokevirtual 66, 3) := by decide +kernel
theorem dX1_begin_58 : decode cX1_begin 58 = .ok (.return_, 1) := by decide +kernel
theorem dX1_copyFrom_0 : decode cX1_copyFrom 0 = .ok (.aload_n 0, 1) := by decide +kernel
theorem dX1_copyFrom_1 : decode cX1_copyFrom 1 = .ok (.aload_n 1, 1) := by decide +kernel
theorem dX1_copyFrom_2 : decode cX1_copyFrom 2 = .ok (.getfield 37, 3) := by decide +kernel
theorem dX1_copyFrom_5 : decode cX1_copyFrom 5 = .ok (.putfield 37, 3) := by decide +kernel
theorem dX1_copyFrom_8 : decode cX1_copyFrom 8 = .ok (.aload_n 0, 1) := by decide +kernel
theorem dX1_copyFrom_9 : decode cX1_copyFrom 9 = .ok (.aload_n 1, 1) := by decide +kernel
theorem dX1_copyFrom_10 : decode cX1_copyFrom 10 = .ok (.getfield 41, 3) := by decide +kernel
theorem dX1_copyFrom_13 : decode cX1_copyFrom 13 = .ok (.putfield 41, 3) := by decide +kernel
theorem dX1_copyFrom_16 : decode cX1_copyFrom 16 = .ok (.aload_n 0, 1) := by decide +kernel
theorem dX1_copyFrom_17 : decode cX1_copyFrom 17 = .ok (.aload_n 1, 1) := by decide +kernel
theorem dX1_copyFrom_18 : decode cX1_copyFrom 18 = .ok (.getfield 44, 3) := by decide +kernel
theorem dX1_copyFrom_21 : decode cX1_copyFrom 21 = .ok (.putfield 44, 3) := by decide +kernel
theorem dX1_copyFrom_24 : decode cX1_copyFrom 24 = .ok (.aload_n 0, 1) := by decide +kernel
theorem dX1_copyFrom_25 : decode cX1_copyFrom 25 = .ok (.aload_n 1, 1) := by decide +kernel
theorem dX1_copyFrom_26 : decode cX1_copyFrom 26 = .ok (.getfield 48, 3) := by decide +kernel
theorem dX1_copyFrom_29 : decode cX1_copyFrom 29 = .ok (.putfield 48, 3) := by decide +kernel
theorem dX1_copyFrom_32 : decode cX1_copyFrom 32 = .ok (.aload_n 0, 1) := by decide +kernel
theorem dX1_copyFrom_33 : decode cX1_copyFrom 33 = .ok (.aload_n 1, 1) := by decide +kernel
theorem dX1_copyFrom_34 : decode cX1_copyFrom 34 = .ok (.getfield 69, 3) := by decide +kernel
theorem dX1_copyFrom_37 : decode cX1_copyFrom 37 = .ok (.putfield 69, 3) := by decide +kernel
theorem dX1_copyFrom_40 : decode cX1_copyFrom 40 = .ok (.aload_n 0, 1) := by decide +kernel
theorem dX1_copyFrom_41 : decode cX1_copyFrom 41 = .ok (.aload_n 1, 1) := by decide +kernel
theorem dX1_copyFrom_42 : decode cX1_copyFrom 42 = .ok (.getfield 51, 3) := by decide +kernel
theorem dX1_copyFrom_45 : decode cX1_copyFrom 45 = .ok (.putfield 51, 3) := by decide +kernel
theorem dX1_copyFrom_48 : decode cX1_copyFrom 48 = .ok (.aload_n 0, 1) := by decide +kernel
theorem dX1_copyFrom_49 : decode cX1_copyFrom 49 = .ok (.aload_n 1, 1) := by decide +kernel
theorem dX1_copyFrom_50 : decode cX1_copyFrom 50 = .ok (.getfield 54, 3) := by decide +kernel
theorem dX1_copyFrom_53 : decode cX1_copyFrom 53 = .ok (.putfield 54, 3) := by decide +kernel
theorem dX1_copyFrom_56 : decode cX1_copyFrom 56 = .ok (.aload_n 0, 1) := by decide +kernel
theorem dX1_copyFrom_57 : decode cX1_copyFrom 57 = .ok (.aload_n 1, 1) := by decide +kernel
theorem dX1_copyFrom_58 : decode cX1_copyFrom 58 = .ok (.getfield 57, 3) := by decide +kernel
theorem dX1_copyFrom_61 : decode cX1_copyFrom 61 = .ok (.putfield 57, 3) := by decide +kernel
theorem dX1_copyFrom_64 : decode cX1_copyFrom 64 = .ok (.aload_n 0, 1) := by decide +kernel
theorem dX1_copyFrom_65 : decode cX1_copyFrom 65 = .ok (.aload_n 1, 1) := by decide +kernel
theorem dX1_copyFrom_66 : decode cX1_copyFrom 66 = .ok (.getfield 60, 3) := by decide +kernel
theorem dX1_copyFrom_69 : decode cX1_copyFrom 69 = .ok (.putfield 60, 3) := by decide +kernel
theorem dX1_copyFrom_72 : decode cX1_copyFrom 72 = .ok (.aload_n 0, 1) := by decide +kernel
theorem dX1_copyFrom_73 : decode cX1_copyFrom 73 = .ok (.aload_n 1, 1) := by decide +kernel
theorem dX1_copyFrom_74 : decode cX1_copyFrom 74 = .ok (.getfield 72, 3) := by decide +kernel
theorem dX1_copyFrom_77 : decode cX1_copyFrom 77 = .ok (.putfield 72, 3) := by decide +kernel
theorem dX1_copyFrom_80 : decode cX1_copyFrom 80 = .ok (.aload_n 0, 1) := by decide +kernel
theorem dX1_copyFrom_81 : decode cX1_copyFrom 81 = .ok (.aload_n 1, 1) := by decide +kernel
theorem dX1_copyFrom_82 : decode cX1_copyFrom 82 = .ok (.getfield 75, 3) := by decide +kernel
theorem dX1_copyFrom_85 : decode cX1_copyFrom 85 = .ok (.putfield 75, 3) := by decide +kernel
theorem dX1_copyFrom_88 : decode cX1_copyFrom 88 = .ok (.aload_n 1, 1) := by decide +kernel
theorem dX1_copyFrom_89 : decode cX1_copyFrom 89 = .ok (.getfield 11, 3) := by decide +kernel
theorem dX1_copyFrom_92 : decode cX1_copyFrom 92 = .ok (.iconst 0, 1) := by decide +kernel
theorem dX1_copyFrom_93 : decode cX1_copyFrom 93 = .ok (.aload_n 0, 1) := by decide +kernel
theorem dX1_copyFrom_94 : decode cX1_copyFrom 94 = .ok (.getfield 11, 3) := by decide +kernel
theorem dX1_copyFrom_97 : decode cX1_copyFrom 97 = .ok (.iconst 0, 1) := by decide +kernel
theorem dX1_copyFrom_98 : decode cX1_copyFrom 98 = .ok (.sipush 240, 3) := by decide +kernel
theorem dX1_copyFrom_101 : decode cX1_copyFrom 101 = .ok (.invokestatic 78, 3) := by decide +kernel
theorem dX1_copyFrom_104 : decode cX1_copyFrom 104 = .ok (.aload_n 0, 1) := by decide +kernel
theorem dX1_copyFrom_105 : decode cX1_copyFrom 105 = .ok (.getfield 18, 3) := by decide +kernel
theorem dX1_copyFrom_108 : decode cX1_copyFrom 108 = .ok (.aload_n 1, 1) := by decide +kernel
theorem dX1_copyFrom_109 : decode cX1_copyFrom 109 = .ok (.getfield 18, 3) := by decide +kernel
theorem dX1_copyFrom_112 : decode cX1_copyFrom 112 = .ok (.invokevirtual 84, 3) := by decide +kernel
theorem dX1_copyFrom_115 : decode cX1_copyFrom 115 = .ok (.aload_n 0, 1) := by decide +kernel
theorem dX1_copyFrom_116 : decode cX1_copyFrom 116 = .ok (.getfield 22, 3) := by decide +kernel
theorem dX1_copyFrom_119 : decode cX1_copyFrom 119 = .ok (.aload_n 1, 1) := by decide +kernel
theorem dX1_copyFrom_120 : decode cX1_copyFrom 120 = .ok (.getfield 22, 3) := by decide +kernel
theorem dX1_copyFrom_123 : decode cX1_copyFrom 123 = .ok (.invokevirtual 84, 3) := by decide +kernel
theorem dX1_copyFrom_126 : decode cX1_copyFrom 126 = .ok (.aload_n 1, 1) := by decide +kernel
theorem dX1_copyFrom_127 : decode cX1_copyFrom 127 = .ok (.getfield 25, 3) := by decide +kernel
theorem dX1_copyFrom_130 : decode cX1_copyFrom 130 = .ok (.iconst 0, 1) := by decide +kernel
theorem dX1_copyFrom_131 : decode cX1_copyFrom 131 = .ok (.aload_n 0, 1) := by decide +kernel
theorem dX1_copyFrom_132 : decode cX1_copyFrom 132 = .ok (.getfield 25, 3) := by decide +kernel
theorem dX1_copyFrom_135 : decode cX1_copyFrom 135 = .ok (.iconst 0, 1) := by decide +kernel
theorem dX1_copyFrom_136 : decode cX1_copyFrom 136 = .ok (.bipush 7, 2) := by decide +kernel
theorem dX1_copyFrom_138 : decode cX1_copyFrom 138 = .ok (.invokestatic 78, 3) := by decide +kernel
theorem dX1_copyFrom_141 : decode cX1_copyFrom 141 = .ok (.aload_n 1, 1) := by decide +kernel
theorem dX1_copyFrom_142 : decode cX1_copyFrom 142 = .ok (.getfield 28, 3) := by decide +kernel
theorem dX1_copyFrom_145 : decode cX1_copyFrom 145 = .ok (.iconst 0, 1) := by decide +kernel
theorem dX1_copyFrom_146 : decode cX1_copyFrom 146 = .ok (.aload_n 0, 1) := by decide +kernel
theorem dX1_copyFrom_147 : decode cX1_copyFrom 147 = .ok (.getfield 28, 3) := by decide +kernel
theorem dX1_copyFrom_150 : decode cX1_copyFrom 150 = .ok (.iconst 0, 1) := by decide +kernel
theorem dX1_copyFrom_151 : decode cX1_copyFrom 151 = .ok (.bipush 7, 2) := by decide +kernel
theorem dX1_copyFrom_153 : decode cX1_copyFrom 153 = .ok (.invokestatic 78, 3) := by decide +kernel
theorem dX1_copyFrom_156 : decode cX1_copyFrom 156 = .ok (.aload_n 1, 1) := by decide +kernel
theorem dX1_copyFrom_157 : decode cX1_copyFrom 157 = .ok (.getfield 31, 3) := by decide +kernel
theorem dX1_copyFrom_160 : decode cX1_copyFrom 160 = .ok (.iconst 0, 1) := by decide +kernel
theorem dX1_copyFrom_161 : decode cX1_copyFrom 161 = .ok (.aload_n 0, 1) := by decide +kernel
theorem dX1_copyFrom_162 : decode cX1_copyFrom 162 = .ok (.getfield 31, 3) := by decide +kernel
theorem dX1_copyFrom_165 : decode cX1_copyFrom 165 = .ok (.iconst 0, 1) := by decide +kernel
theorem dX1_copyFrom_166 : decode cX1_copyFrom 166 = .ok (.bipush 7, 2) := by decide +kernel
theorem dX1_copyFrom_168 : decode cX1_copyFrom 168 = .ok (.invokestatic 78, 3) := by decide +kernel
theorem dX1_copyFrom_171 : decode cX1_copyFrom 171 = .ok (.aload_n 1, 1) := by decide +kernel
theorem dX1_copyFrom_172 : decode cX1_copyFrom 172 = .ok (.getfield 34, 3) := by decide +kernel
theorem dX1_copyFrom_175 : decode cX1_copyFrom 175 = .ok (.iconst 0, 1) := by decide +kernel
theorem dX1_copyFrom_176 : decode cX1_copyFrom 176 = .ok (.aload_n 0, 1) := by decide +kernel
theorem dX1_copyFrom_177 : decode cX1_copyFrom 177 = .ok (.getfield 34, 3) := by decide +kernel
theorem dX1_copyFrom_180 : decode cX1_copyFrom 180 = .ok (.iconst 0, 1) := by decide +kernel
theorem dX1_copyFrom_181 : decode cX1_copyFrom 181 = .ok (.bipush 7, 2) := by decide +kernel
theorem dX1_copyFrom_183 : decode cX1_copyFrom 183 = .ok (.invokestatic 78, 3) := by decide +kernel
theorem dX1_copyFrom_186 : decode cX1_copyFrom 186 = .ok (.return_, 1) := by decide +kernel
theorem dX1_tell_0 : decode cX1_tell 0 = .ok (.iload_n 1, 1) := by decide +kernel
theorem dX1_tell_1 : decode cX1_tell 1 = .ok (.tableswitch 121 0 9 #[55, 60, 65, 70, 75, 80, 85, 98, 103, 108], 55) := by decide +kernel
theorem dX1_tell_56 : decode cX1_tell 56 = .ok (.aload_n 0, 1) := by decide +kernel
theorem dX1_tell_57 : decode cX1_tell 57 = .ok (.getfield 44, 3) := by decide +kernel
theorem dX1_tell_60 : decode cX1_tell 60 = .ok (.ireturn, 1) := by decide +kernel
theorem dX1_tell_61 : decode cX1_tell 61 = .ok (.aload_n 0, 1) := by decide +kernel
theorem dX1_tell_62 : decode cX1_tell 62 = .ok (.getfield 48, 3) := by decide +kernel
theorem dX1_tell_65 : decode cX1_tell 65 = .ok (.ireturn, 1) := by decide +kernel
theorem dX1_tell_66 : decode cX1_tell 66 = .ok (.aload_n 0, 1) := by decide +kernel
theorem dX1_tell_67 : decode cX1_tell 67 = .ok (.getfield 69, 3) := by decide +kernel
theorem dX1_tell_70 : decode cX1_tell 70 = .ok (.ireturn, 1) := by decide +kernel
theorem dX1_tell_71 : decode cX1_tell 71 = .ok (.aload_n 0, 1) := by decide +kernel
theorem dX1_tell_72 : decode cX1_tell 72 = .ok (.getfield 51, 3) := by decide +kernel
theorem dX1_tell_75 : decode cX1_tell 75 = .ok (.ireturn, 1) := by decide +kernel
theorem dX1_tell_76 : decode cX1_tell 76 = .ok (.aload_n 0, 1) := by decide +kernel
theorem dX1_tell_77 : decode cX1_tell 77 = .ok (.getfield 57, 3) := by decide +kernel
theorem dX1_tell_80 : decode cX1_tell 80 = .ok (.ireturn, 1) := by decide +kernel
theorem dX1_tell_81 : decode cX1_tell 81 = .ok (.aload_n 0, 1) := by decide +kernel
theorem dX1_tell_82 : decode cX1_tell 82 = .ok (.getfield 60, 3) := by decide +kernel
theorem dX1_tell_85 : decode cX1_tell 85 = .ok (.ireturn, 1) := by decide +kernel
theorem dX1_tell_86 : decode cX1_tell 86 = .ok (.aload_n 0, 1) := by decide +kernel
theorem dX1_tell_87 : decode cX1_tell 87 = .ok (.getfield 41, 3) := by decide +kernel
theorem dX1_tell_90 : decode cX1_tell 90 = .ok (.ifCond .eq 7, 3) := by decide +kernel
theorem dX1_tell_93 : decode cX1_tell 93 = .ok (.iconst 1, 1) := by decide +kernel
theorem dX1_tell_94 : decode cX1_tell 94 = .ok (.goto 4, 3) := by decide +kernel
theorem dX1_tell_97 : decode cX1_tell 97 = .ok (.iconst 0, 1) := by decide +kernel
theorem dX1_tell_98 : decode cX1_tell 98 = .ok (.ireturn, 1) := by decide +kernel
theorem dX1_tell_99 : decode cX1_tell 99 = .ok (.aload_n 0, 1) := by decide +kernel
theorem dX1_tell_100 : decode cX1_tell 100 = .ok (.getfield 72, 3) := by decide +kernel
theorem dX1_tell_103 : decode cX1_tell 103 = .ok (.ireturn, 1) := by decide +kernel
theorem dX1_tell_104 : decode cX1_tell 104 = .ok (.aload_n 0, 1) := by decide +kernel
theorem dX1_tell_105 : decode cX1_tell 105 = .ok (.getfield 75, 3) := by decide +kernel
theorem dX1_tell_108 : decode cX1_tell 108 = .ok (.ireturn, 1) := by decide +kernel
theorem dX1_tell_109 : decode cX1_tell 109 = .ok (.aload_n 0, 1) := by decide +kernel
theorem dX1_tell_110 : decode cX1_tell 110 = .ok (.getfield 37, 3) := by decide +kernel
theorem dX1_tell_113 : decode cX1_tell 113 = .ok (.ifCond .eq 7, 3) := by decide +kernel
theorem dX1_tell_116 : decode cX1_tell 116 = .ok (.iconst 1, 1) := by decide +kernel
theorem dX1_tell_117 : decode cX1_tell 117 = .ok (.goto 4, 3) := by decide +kernel
theorem dX1_tell_120 : decode cX1_tell 120 = .ok (.iconst 0, 1) := by decide +kernel
theorem dX1_tell_121 : decode cX1_tell 121 = .ok (.ireturn, 1) := by decide +kernel
theorem dX1_tell_122 : decode cX1_tell 122 = .ok (.bipush (-2), 2) := by decide +kernel
theorem dX1_tell_124 : decode cX1_tell 124 = .ok (.ireturn, 1) := by decide +kernel
theorem dX1_follow_0 : decode cX1_follow 0 = .ok (.aload_n 0, 1) := by decide +kernel
theorem dX1_follow_1 : decode cX1_follow 1 = .ok (.iconst 0, 1) := by decide +kernel
theorem dX1_follow_2 : decode cX1_follow 2 = .ok (.putfield 69, 3) := by decide +kernel
theorem dX1_follow_5 : decode cX1_follow 5 = .ok (.aload_n 0, 1) := by decide +kernel
theorem dX1_follow_6 : decode cX1_follow 6 = .ok (.iconst 0, 1) := by decide +kernel
theorem dX1_follow_7 : decode cX1_follow 7 = .ok (.putfield 72, 3) := by decide +kernel
theorem dX1_follow_10 : decode cX1_follow 10 = .ok (.aload_n 0, 1) := by decide +kernel
theorem dX1_follow_11 : decode cX1_follow 11 = .ok (.iconst 0, 1) := by decide +kernel
theorem dX1_follow_12 : decode cX1_follow 12 = .ok (.putfield 75, 3) := by decide +kernel
theorem dX1_follow_15 : decode cX1_follow 15 = .ok (.return_, 1) := by decide +kernel
theorem dX1_enterTerm_0 : decode cX1_enterTerm 0 = .ok (.aload_n 0, 1) := by decide +kernel
theorem dX1_enterTerm_1 : decode cX1_enterTerm 1 = .ok (.iload_n 1, 1) := by decide +kernel
theorem dX1_enterTerm_2 : decode cX1_enterTerm 2 = .ok (.putfield 44, 3) := by decide +kernel
theorem dX1_enterTerm_5 : decode cX1_enterTerm 5 = .ok (.aload_n 0, 1) := by decide +kernel
theorem dX1_enterTerm_6 : decode cX1_enterTerm 6 = .ok (.iconst (-1), 1) := by decide +kernel
theorem dX1_enterTerm_7 : decode cX1_enterTerm 7 = .ok (.putfield 48, 3) := by decide +kernel
theorem dX1_enterTerm_10 : decode cX1_enterTerm 10 = .ok (.aload_n 0, 1) := by decide +kernel
theorem dX1_enterTerm_11 : decode cX1_enterTerm 11 = .ok (.invokevirtual 66, 3) := by decide +kernel
theorem dX1_enterTerm_14 : decode cX1_enterTerm 14 = .ok (.return_, 1) := by decide +kernel
theorem dX1_lead_0 : decode cX1_lead 0 = .ok (.aload_n 0, 1) := by decide +kernel
theorem dX1_lead_1 : decode cX1_lead 1 = .ok (.iconst 2, 1) := by decide +kernel
theorem dX1_lead_2 : decode cX1_lead 2 = .ok (.putfield 69, 3) := by decide +kernel
theorem dX1_lead_5 : decode cX1_lead 5 = .ok (.aload_n 0, 1) := by decide +kernel
theorem dX1_lead_6 : decode cX1_lead 6 = .ok (.iconst 0, 1) := by decide +kernel
theorem dX1_lead_7 : decode cX1_lead 7 = .ok (.putfield 75, 3) := by decide +kernel
theorem dX1_lead_10 : decode cX1_lead 10 = .ok (.iconst 0, 1) := by decide +kernel
theorem dX1_lead_11 : decode cX1_lead 11 = .ok (.istore_n 1, 1) := by decide +kernel
theorem dX1_lead_12 : decode cX1_lead 12 = .ok (.iload_n 1, 1) := by decide +kernel
theorem dX1_lead_13 : decode cX1_lead 13 = .ok (.bipush 7, 2) := by decide +kernel
theorem dX1_lead_15 : decode cX1_lead 15 = .ok (.if_icmp .ge 42, 3) := by decide +kernel
theorem dX1_lead_18 : decode cX1_lead 18 = .ok (.aload_n 0, 1) := by decide +kernel
theorem dX1_lead_19 : decode cX1_lead 19 = .ok (.getfield 25, 3) := by decide +kernel
theorem dX1_lead_22 : decode cX1_lead 22 = .ok (.iload_n 1, 1) := by decide +kernel
theorem dX1_lead_23 : decode cX1_lead 23 = .ok (.aload_n 0, 1) := by decide +kernel
theorem dX1_lead_24 : decode cX1_lead 24 = .ok (.getfield 57, 3) := by decide +kernel
theorem dX1_lead_27 : decode cX1_lead 27 = .ok (.iconst 1, 1) := by decide +kernel
theorem dX1_lead_28 : decode cX1_lead 28 = .ok (.iadd, 1) := by decide +kernel
theorem dX1_lead_29 : decode cX1_lead 29 = .ok (.iastore, 1) := by decide +kernel
theorem dX1_lead_30 : decode cX1_lead 30 = .ok (.aload_n 0, 1) := by decide +kernel
theorem dX1_lead_31 : decode cX1_lead 31 = .ok (.getfield 28, 3) := by decide +kernel
theorem dX1_lead_34 : decode cX1_lead 34 = .ok (.iload_n 1, 1) := by decide +kernel
theorem dX1_lead_35 : decode cX1_lead 35 = .ok (.iconst 0, 1) := by decide +kernel
theorem dX1_lead_36 : decode cX1_lead 36 = .ok (.iastore, 1) := by decide +kernel
theorem dX1_lead_37 : decode cX1_lead 37 = .ok (.aload_n 0, 1) := by decide +kernel
theorem dX1_lead_38 : decode cX1_lead 38 = .ok (.getfield 31, 3) := by decide +kernel
theorem dX1_lead_41 : decode cX1_lead 41 = .ok (.iload_n 1, 1) := by decide +kernel
theorem dX1_lead_42 : decode cX1_lead 42 = .ok (.iconst 0, 1) := by decide +kernel
theorem dX1_lead_43 : decode cX1_lead 43 = .ok (.iastore, 1) := by decide +kernel
theorem dX1_lead_44 : decode cX1_lead 44 = .ok (.aload_n 0, 1) := by decide +kernel
theorem dX1_lead_45 : decode cX1_lead 45 = .ok (.getfield 34, 3) := by decide +kernel
theorem dX1_lead_48 : decode cX1_lead 48 = .ok (.iload_n 1, 1) := by decide +kernel
theorem dX1_lead_49 : decode cX1_lead 49 = .ok (.iconst 0, 1) := by decide +kernel
theorem dX1_lead_50 : decode cX1_lead 50 = .ok (.iastore, 1) := by decide +kernel
theorem dX1_lead_51 : decode cX1_lead 51 = .ok (.iinc 1 1, 3) := by decide +kernel
theorem dX1_lead_54 : decode cX1_lead 54 = .ok (.goto (-42), 3) := by decide +kernel
theorem dX1_lead_57 : decode cX1_lead 57 = .ok (.return_, 1) := by decide +kernel
theorem dX1_goDown_0 : decode cX1_goDown 0 = .ok (.aload_n 0, 1) := by decide +kernel
theorem dX1_goDown_1 : decode cX1_goDown 1 = .ok (.iconst 1, 1) := by decide +kernel
theorem dX1_goDown_2 : decode cX1_goDown 2 = .ok (.putfield 41, 3) := by decide +kernel
theorem dX1_goDown_5 : decode cX1_goDown 5 = .ok (.aload_n 0, 1) := by decide +kernel
theorem dX1_goDown_6 : decode cX1_goDown 6 = .ok (.invokevirtual 66, 3) := by decide +kernel
theorem dX1_goDown_9 : decode cX1_goDown 9 = .ok (.aload_n 0, 1) := by decide +kernel
theorem dX1_goDown_10 : decode cX1_goDown 10 = .ok (.aload_n 0, 1) := by decide +kernel
theorem dX1_goDown_11 : decode cX1_goDown 11 = .ok (.getfield 51, 3) := by decide +kernel
theorem dX1_goDown_14 : decode cX1_goDown 14 = .ok (.putfield 60, 3) := by decide +kernel
theorem dX1_goDown_17 : decode cX1_goDown 17 = .ok (.aload_n 0, 1) := by decide +kernel
theorem dX1_goDown_18 : decode cX1_goDown 18 = .ok (.getfield 22, 3) := by decide +kernel
theorem dX1_goDown_21 : decode cX1_goDown 21 = .ok (.aload_n 0, 1) := by decide +kernel
theorem dX1_goDown_22 : decode cX1_goDown 22 = .ok (.getfield 18, 3) := by decide +kernel
theorem dX1_goDown_25 : decode cX1_goDown 25 = .ok (.invokevirtual 84, 3) := by decide +kernel
theorem dX1_goDown_28 : decode cX1_goDown 28 = .ok (.return_, 1) := by decide +kernel
theorem dX1_placeOf_0 : decode cX1_placeOf 0 = .ok (.iload_n 1, 1) := by decide +kernel
theorem dX1_placeOf_1 : decode cX1_placeOf 1 = .ok (.aload_n 0, 1) := by decide +kernel
theorem dX1_placeOf_2 : decode cX1_placeOf 2 = .ok (.getfield 51, 3) := by decide +kernel
theorem dX1_placeOf_5 : decode cX1_placeOf 5 = .ok (.if_icmp .le 22, 3) := by decide +kernel
theorem dX1_placeOf_8 : decode cX1_placeOf 8 = .ok (.iload_n 1, 1) := by decide +kernel
theorem dX1_placeOf_9 : decode cX1_placeOf 9 = .ok (.aload_n 0, 1) := by decide +kernel
theorem dX1_placeOf_10 : decode cX1_placeOf 10 = .ok (.getfield 57, 3) := by decide +kernel
theorem dX1_placeOf_13 : decode cX1_placeOf 13 = .ok (.if_icmp .gt 14, 3) := by decide +kernel
theorem dX1_placeOf_16 : decode cX1_placeOf 16 = .ok (.iload_n 1, 1) := by decide +kernel
theorem dX1_placeOf_17 : decode cX1_placeOf 17 = .ok (.aload_n 0, 1) := by decide +kernel
theorem dX1_placeOf_18 : decode cX1_placeOf 18 = .ok (.getfield 51, 3) := by decide +kernel
theorem dX1_placeOf_21 : decode cX1_placeOf 21 = .ok (.isub, 1) := by decide +kernel
theorem dX1_placeOf_22 : decode cX1_placeOf 22 = .ok (.bipush 40, 2) := by decide +kernel
theorem dX1_placeOf_24 : decode cX1_placeOf 24 = .ok (.if_icmp .le 5, 3) := by decide +kernel
theorem dX1_placeOf_27 : decode cX1_placeOf 27 = .ok (.iconst (-1), 1) := by decide +kernel
theorem dX1_placeOf_28 : decode cX1_placeOf 28 = .ok (.ireturn, 1) := by decide +kernel
theorem dX1_placeOf_29 : decode cX1_placeOf 29 = .ok (.iload_n 1, 1) := by decide +kernel
theorem dX1_placeOf_30 : decode cX1_placeOf 30 = .ok (.aload_n 0, 1) := by decide +kernel
theorem dX1_placeOf_31 : decode cX1_placeOf 31 = .ok (.getfield 51, 3) := by decide +kernel
theorem dX1_placeOf_34 : decode cX1_placeOf 34 = .ok (.isub, 1) := by decide +kernel
theorem dX1_placeOf_35 : decode cX1_placeOf 35 = .ok (.iconst 1, 1) := by decide +kernel
theorem dX1_placeOf_36 : decode cX1_placeOf 36 = .ok (.isub, 1) := by decide +kernel
theorem dX1_placeOf_37 : decode cX1_placeOf 37 = .ok (.bipush 6, 2) := by decide +kernel
theorem dX1_placeOf_39 : decode cX1_placeOf 39 = .ok (.imul, 1) := by decide +kernel
theorem dX1_placeOf_40 : decode cX1_placeOf 40 = .ok (.ireturn, 1) := by decide +kernel
theorem dX1_part_0 : decode cX1_part 0 = .ok (.aload_n 0, 1) := by decide +kernel
theorem dX1_part_1 : decode cX1_part 1 = .ok (.iload_n 1, 1) := by decide +kernel
theorem dX1_part_2 : decode cX1_part 2 = .ok (.invokevirtual 88, 3) := by decide +kernel
theorem dX1_part_5 : decode cX1_part 5 = .ok (.istore_n 3, 1) := by decide +kernel
theorem dX1_part_6 : decode cX1_part 6 = .ok (.iload_n 3, 1) := by decide +kernel
theorem dX1_part_7 : decode cX1_part 7 = .ok (.iconst (-1), 1) := by decide +kernel
theorem dX1_part_8 : decode cX1_part 8 = .ok (.if_icmp .ne 8, 3) := by decide +kernel
theorem dX1_part_11 : decode cX1_part 11 = .ok (.ldc 92, 2) := by decide +kernel
theorem dX1_part_13 : decode cX1_part 13 = .ok (.goto 11, 3) := by decide +kernel
theorem dX1_part_16 : decode cX1_part 16 = .ok (.aload_n 0, 1) := by decide +kernel
theorem dX1_part_17 : decode cX1_part 17 = .ok (.getfield 11, 3) := by decide +kernel
theorem dX1_part_20 : decode cX1_part 20 = .ok (.iload_n 3, 1) := by decide +kernel
theorem dX1_part_21 : decode cX1_part 21 = .ok (.iload_n 2, 1) := by decide +kernel
theorem dX1_part_22 : decode cX1_part 22 = .ok (.iadd, 1) := by decide +kernel
theorem dX1_part_23 : decode cX1_part 23 = .ok (.iaload, 1) := by decide +kernel
theorem dX1_part_24 : decode cX1_part 24 = .ok (.ireturn, 1) := by decide +kernel
theorem dX1_termOf_0 : decode cX1_termOf 0 = .ok (.iload_n 1, 1) := by decide +kernel
theorem dX1_termOf_1 : decode cX1_termOf 1 = .ok (.aload_n 0, 1) := by decide +kernel
theorem dX1_termOf_2 : decode cX1_termOf 2 = .ok (.getfield 51, 3) := by decide +kernel
theorem dX1_termOf_5 : decode cX1_termOf 5 = .ok (.if_icmp .ne 8, 3) := by decide +kernel
theorem dX1_termOf_8 : decode cX1_termOf 8 = .ok (.aload_n 0, 1) := by decide +kernel
theorem dX1_termOf_9 : decode cX1_termOf 9 = .ok (.getfield 54, 3) := by decide +kernel
theorem dX1_termOf_12 : decode cX1_termOf 12 = .ok (.ireturn, 1) := by decide +kernel
theorem dX1_termOf_13 : decode cX1_termOf 13 = .ok (.aload_n 0, 1) := by decide +kernel
theorem dX1_termOf_14 : decode cX1_termOf 14 = .ok (.iload_n 1, 1) := by decide +kernel
theorem dX1_termOf_15 : decode cX1_termOf 15 = .ok (.invokevirtual 88, 3) := by decide +kernel
theorem dX1_termOf_18 : decode cX1_termOf 18 = .ok (.istore_n 2, 1) := by decide +kernel
theorem dX1_termOf_19 : decode cX1_termOf 19 = .ok (.iload_n 2, 1) := by decide +kernel
theorem dX1_termOf_20 : decode cX1_termOf 20 = .ok (.iconst (-1), 1) := by decide +kernel
theorem dX1_termOf_21 : decode cX1_termOf 21 = .ok (.if_icmp .ne 7, 3) := by decide +kernel
theorem dX1_termOf_24 : decode cX1_termOf 24 = .ok (.iconst (-1), 1) := by decide +kernel
theorem dX1_termOf_25 : decode cX1_termOf 25 = .ok (.goto 11, 3) := by decide +kernel
theorem dX1_termOf_28 : decode cX1_termOf 28 = .ok (.aload_n 0, 1) := by decide +kernel
theorem dX1_termOf_29 : decode cX1_termOf 29 = .ok (.getfield 11, 3) := by decide +kernel
theorem dX1_termOf_32 : decode cX1_termOf 32 = .ok (.iload_n 2, 1) := by decide +kernel
theorem dX1_termOf_33 : decode cX1_termOf 33 = .ok (.iconst 0, 1) := by decide +kernel
theorem dX1_termOf_34 : decode cX1_termOf 34 = .ok (.iadd, 1) := by decide +kernel
theorem dX1_termOf_35 : decode cX1_termOf 35 = .ok (.iaload, 1) := by decide +kernel
theorem dX1_termOf_36 : decode cX1_termOf 36 = .ok (.ireturn, 1) := by decide +kernel
theorem dX1_hasRoom_0 : decode cX1_hasRoom 0 = .ok (.aload_n 0, 1) := by decide +kernel
theorem dX1_hasRoom_1 : decode cX1_hasRoom 1 = .ok (.getfield 57, 3) := by decide +kernel
theorem dX1_hasRoom_4 : decode cX1_hasRoom 4 = .ok (.aload_n 0, 1) := by decide +kernel
theorem dX1_hasRoom_5 : decode cX1_hasRoom 5 = .ok (.getfield 51, 3) := by decide +kernel
theorem dX1_hasRoom_8 : decode cX1_hasRoom 8 = .ok (.isub, 1) := by decide +kernel
theorem dX1_hasRoom_9 : decode cX1_hasRoom 9 = .ok (.bipush 40, 2) := by decide +kernel
theorem dX1_hasRoom_11 : decode cX1_hasRoom 11 = .ok (.if_icmp .ge 7, 3) := by decide +kernel
theorem dX1_hasRoom_14 : decode cX1_hasRoom 14 = .ok (.iconst 1, 1) := by decide +kernel
theorem dX1_hasRoom_15 : decode cX1_hasRoom 15 = .ok (.goto 4, 3) := by decide +kernel
theorem dX1_hasRoom_18 : decode cX1_hasRoom 18 = .ok (.iconst 0, 1) := by decide +kernel
theorem dX1_hasRoom_19 : decode cX1_hasRoom 19 = .ok (.ireturn, 1) := by decide +kernel
theorem dX1_grow_0 : decode cX1_grow 0 = .ok (.aload_n 0, 1) := by decide +kernel
theorem dX1_grow_1 : decode cX1_grow 1 = .ok (.invokevirtual 93, 3) := by decide +kernel
theorem dX1_grow_4 : decode cX1_grow 4 = .ok (.ifCond .ne 5, 3) := by decide +kernel
theorem dX1_grow_7 : decode cX1_grow 7 = .ok (.iconst (-1), 1) := by decide +kernel
theorem dX1_grow_8 : decode cX1_grow 8 = .ok (.ireturn, 1) := by decide +kernel
theorem dX1_grow_9 : decode cX1_grow 9 = .ok (.aload_n 0, 1) := by decide +kernel
theorem dX1_grow_10 : decode cX1_grow 10 = .ok (.dup, 1) := by decide +kernel
theorem dX1_grow_11 : decode cX1_grow 11 = .ok (.getfield 57, 3) := by decide +kernel
theorem dX1_grow_14 : decode cX1_grow 14 = .ok (.iconst 1, 1) := by decide +kernel
theorem dX1_grow_15 : decode cX1_grow 15 = .ok (.iadd, 1) := by decide +kernel
theorem dX1_grow_16 : decode cX1_grow 16 = .ok (.putfield 57, 3) := by decide +kernel
theorem dX1_grow_19 : decode cX1_grow 19 = .ok (.aload_n 0, 1) := by decide +kernel
theorem dX1_grow_20 : decode cX1_grow 20 = .ok (.aload_n 0, 1) := by decide +kernel
theorem dX1_grow_21 : decode cX1_grow 21 = .ok (.getfield 57, 3) := by decide +kernel
theorem dX1_grow_24 : decode cX1_grow 24 = .ok (.invokevirtual 88, 3) := by decide +kernel
theorem dX1_grow_27 : decode cX1_grow 27 = .ok (.ireturn, 1) := by decide +kernel
theorem dX1_cutFrom_0 : decode cX1_cutFrom 0 = .ok (.aload_n 0, 1) := by decide +kernel
theorem dX1_cutFrom_1 : decode cX1_cutFrom 1 = .ok (.aload_n 0, 1) := by decide +kernel
theorem dX1_cutFrom_2 : decode cX1_cutFrom 2 = .ok (.getfield 57, 3) := by decide +kernel
theorem dX1_cutFrom_5 : decode cX1_cutFrom 5 = .ok (.iload_n 1, 1) := by decide +kernel
theorem dX1_cutFrom_6 : decode cX1_cutFrom 6 = .ok (.iconst 1, 1) := by decide +kernel
theorem dX1_cutFrom_7 : decode cX1_cutFrom 7 = .ok (.isub, 1) := by decide +kernel
theorem dX1_cutFrom_8 : decode cX1_cutFrom 8 = .ok (.aload_n 0, 1) := by decide +kernel
theorem dX1_cutFrom_9 : decode cX1_cutFrom 9 = .ok (.getfield 60, 3) := by decide +kernel
theorem dX1_cutFrom_12 : decode cX1_cutFrom 12 = .ok (.invokestatic 97, 3) := by decide +kernel
theorem dX1_cutFrom_15 : decode cX1_cutFrom 15 = .ok (.invokestatic 103, 3) := by decide +kernel
theorem dX1_cutFrom_18 : decode cX1_cutFrom 18 = .ok (.putfield 57, 3) := by decide +kernel
theorem dX1_cutFrom_21 : decode cX1_cutFrom 21 = .ok (.return_, 1) := by decide +kernel
theorem dX1_advanceTo_0 : decode cX1_advanceTo 0 = .ok (.aload_n 0, 1) := by decide +kernel
theorem dX1_advanceTo_1 : decode cX1_advanceTo 1 = .ok (.getfield 60, 3) := by decide +kernel
theorem dX1_advanceTo_4 : decode cX1_advanceTo 4 = .ok (.iload_n 1, 1) := by decide +kernel
theorem dX1_advanceTo_5 : decode cX1_advanceTo 5 = .ok (.if_icmp .ge 46, 3) := by decide +kernel
theorem dX1_advanceTo_8 : decode cX1_advanceTo 8 = .ok (.aload_n 0, 1) := by decide +kernel
theorem dX1_advanceTo_9 : decode cX1_advanceTo 9 = .ok (.getfield 60, 3) := by decide +kernel
theorem dX1_advanceTo_12 : decode cX1_advanceTo 12 = .ok (.aload_n 0, 1) := by decide +kernel
theorem dX1_advanceTo_13 : decode cX1_advanceTo 13 = .ok (.getfield 57, 3) := by decide +kernel
theorem dX1_advanceTo_16 : decode cX1_advanceTo 16 = .ok (.if_icmp .ge 35, 3) := by decide +kernel
theorem dX1_advanceTo_19 : decode cX1_advanceTo 19 = .ok (.aload_n 0, 1) := by decide +kernel
theorem dX1_advanceTo_20 : decode cX1_advanceTo 20 = .ok (.dup, 1) := by decide +kernel
theorem dX1_advanceTo_21 : decode cX1_advanceTo 21 = .ok (.getfield 60, 3) := by decide +kernel
theorem dX1_advanceTo_24 : decode cX1_advanceTo 24 = .ok (.iconst 1, 1) := by decide +kernel
theorem dX1_advanceTo_25 : decode cX1_advanceTo 25 = .ok (.iadd, 1) := by decide +kernel
theorem dX1_advanceTo_26 : decode cX1_advanceTo 26 = .ok (.putfield 60, 3) := by decide +kernel
theorem dX1_advanceTo_29 : decode cX1_advanceTo 29 = .ok (.aload_n 0, 1) := by decide +kernel
theorem dX1_advanceTo_30 : decode cX1_advanceTo 30 = .ok (.getfield 22, 3) := by decide +kernel
theorem dX1_advanceTo_33 : decode cX1_advanceTo 33 = .ok (.aload_n 0, 1) := by decide +kernel
theorem dX1_advanceTo_34 : decode cX1_advanceTo 34 = .ok (.getfield 11, 3) := by decide +kernel
theorem dX1_advanceTo_37 : decode cX1_advanceTo 37 = .ok (.aload_n 0, 1) := by decide +kernel
theorem dX1_advanceTo_38 : decode cX1_advanceTo 38 = .ok (.aload_n 0, 1) := by decide +kernel
theorem dX1_advanceTo_39 : decode cX1_advanceTo 39 = .ok (.getfield 60, 3) := by decide +kernel
theorem dX1_advanceTo_42 : decode cX1_advanceTo 42 = .ok (.invokevirtual 88, 3) := by decide +kernel
theorem dX1_advanceTo_45 : decode cX1_advanceTo 45 = .ok (.invokevirtual 106, 3) := by decide +kernel
theorem dX1_advanceTo_48 : decode cX1_advanceTo 48 = .ok (.goto (-48), 3) := by decide +kernel
theorem dX1_advanceTo_51 : decode cX1_advanceTo 51 = .ok (.return_, 1) := by decide +kernel
theorem dX1_foldUpTo_0 : decode cX1_foldUpTo 0 = .ok (.aload_n 0, 1) := by decide +kernel
theorem dX1_foldUpTo_1 : decode cX1_foldUpTo 1 = .ok (.iload_n 1, 1) := by decide +kernel
theorem dX1_foldUpTo_2 : decode cX1_foldUpTo 2 = .ok (.invokevirtual 110, 3) := by decide +kernel
theorem dX1_foldUpTo_5 : decode cX1_foldUpTo 5 = .ok (.istore_n 2, 1) := by decide +kernel
theorem dX1_foldUpTo_6 : decode cX1_foldUpTo 6 = .ok (.aload_n 0, 1) := by decide +kernel
theorem dX1_foldUpTo_7 : decode cX1_foldUpTo 7 = .ok (.getfield 51, 3) := by decide +kernel
theorem dX1_foldUpTo_10 : decode cX1_foldUpTo 10 = .ok (.iconst 1, 1) := by decide +kernel
theorem dX1_foldUpTo_11 : decode cX1_foldUpTo 11 = .ok (.iadd, 1) := by decide +kernel
theorem dX1_foldUpTo_12 : decode cX1_foldUpTo 12 = .ok (.istore_n 3, 1) := by decide +kernel
theorem dX1_foldUpTo_13 : decode cX1_foldUpTo 13 = .ok (.iload_n 3, 1) := by decide +kernel
theorem dX1_foldUpTo_14 : decode cX1_foldUpTo 14 = .ok (.iload_n 1, 1) := by decide +kernel
theorem dX1_foldUpTo_15 : decode cX1_foldUpTo 15 = .ok (.if_icmp .gt 33, 3) := by decide +kernel
theorem dX1_foldUpTo_18 : decode cX1_foldUpTo 18 = .ok (.iload_n 3, 1) := by decide +kernel
theorem dX1_foldUpTo_19 : decode cX1_foldUpTo 19 = .ok (.aload_n 0, 1) := by decide +kernel
theorem dX1_foldUpTo_20 : decode cX1_foldUpTo 20 = .ok (.getfield 57, 3) := by decide +kernel
theorem dX1_foldUpTo_23 : decode cX1_foldUpTo 23 = .ok (.if_icmp .gt 25, 3) := by decide +kernel
theorem dX1_foldUpTo_26 : decode cX1_foldUpTo 26 = .ok (.aload_n 0, 1) := by decide +kernel
theorem dX1_foldUpTo_27 : decode cX1_foldUpTo 27 = .ok (.getfield 18, 3) := by decide +kernel
theorem dX1_foldUpTo_30 : decode cX1_foldUpTo 30 = .ok (.aload_n 0, 1) := by decide +kernel
theorem dX1_foldUpTo_31 : decode cX1_foldUpTo 31 = .ok (.getfield 11, 3) := by decide +kernel
theorem dX1_foldUpTo_34 : decode cX1_foldUpTo 34 = .ok (.aload_n 0, 1) := by decide +kernel
theorem dX1_foldUpTo_35 : decode cX1_foldUpTo 35 = .ok (.iload_n 3, 1) := by decide +kernel
theorem dX1_foldUpTo_36 : decode cX1_foldUpTo 36 = .ok (.invokevirtual 88, 3) := by decide +kernel
theorem dX1_foldUpTo_39 : decode cX1_foldUpTo 39 = .ok (.invokevirtual 106, 3) := by decide +kernel
theorem dX1_foldUpTo_42 : decode cX1_foldUpTo 42 = .ok (.iinc 3 1, 3) := by decide +kernel
theorem dX1_foldUpTo_45 : decode cX1_foldUpTo 45 = .ok (.goto (-32), 3) := by decide +kernel
theorem dX1_foldUpTo_48 : decode cX1_foldUpTo 48 = .ok (.aload_n 0, 1) := by decide +kernel
theorem dX1_foldUpTo_49 : decode cX1_foldUpTo 49 = .ok (.iload_n 1, 1) := by decide +kernel
theorem dX1_foldUpTo_50 : decode cX1_foldUpTo 50 = .ok (.invokevirtual 113, 3) := by decide +kernel
theorem dX1_foldUpTo_53 : decode cX1_foldUpTo 53 = .ok (.aload_n 0, 1) := by decide +kernel
theorem dX1_foldUpTo_54 : decode cX1_foldUpTo 54 = .ok (.iload_n 2, 1) := by decide +kernel
theorem dX1_foldUpTo_55 : decode cX1_foldUpTo 55 = .ok (.putfield 54, 3) := by decide +kernel
theorem dX1_foldUpTo_58 : decode cX1_foldUpTo 58 = .ok (.return_, 1) := by decide +kernel
theorem dX1_forgetUpTo_0 : decode cX1_forgetUpTo 0 = .ok (.aload_n 0, 1) := by decide +kernel
theorem dX1_forgetUpTo_1 : decode cX1_forgetUpTo 1 = .ok (.iload_n 1, 1) := by decide +kernel
theorem dX1_forgetUpTo_2 : decode cX1_forgetUpTo 2 = .ok (.invokevirtual 88, 3) := by decide +kernel
theorem dX1_forgetUpTo_5 : decode cX1_forgetUpTo 5 = .ok (.istore_n 2, 1) := by decide +kernel
theorem dX1_forgetUpTo_6 : decode cX1_forgetUpTo 6 = .ok (.iload_n 2, 1) := by decide +kernel
theorem dX1_forgetUpTo_7 : decode cX1_forgetUpTo 7 = .ok (.iconst (-1), 1) := by decide +kernel
theorem dX1_forgetUpTo_8 : decode cX1_forgetUpTo 8 = .ok (.if_icmp .ne 11, 3) := by decide +kernel
theorem dX1_forgetUpTo_11 : decode cX1_forgetUpTo 11 = .ok (.aload_n 0, 1) := by decide +kernel
theorem dX1_forgetUpTo_12 : decode cX1_forgetUpTo 12 = .ok (.iload_n 1, 1) := by decide +kernel
theorem dX1_forgetUpTo_13 : decode cX1_forgetUpTo 13 = .ok (.putfield 57, 3) := by decide +kernel
theorem dX1_forgetUpTo_16 : decode cX1_forgetUpTo 16 = .ok (.goto 24, 3) := by decide +kernel
theorem dX1_forgetUpTo_19 : decode cX1_forgetUpTo 19 = .ok (.iinc 2 6, 3) := by decide +kernel
theorem dX1_forgetUpTo_22 : decode cX1_forgetUpTo 22 = .ok (.aload_n 0, 1) := by decide +kernel
theorem dX1_forgetUpTo_23 : decode cX1_forgetUpTo 23 = .ok (.getfield 11, 3) := by decide +kernel
theorem dX1_forgetUpTo_26 : decode cX1_forgetUpTo 26 = .ok (.iload_n 2, 1) := by decide +kernel
theorem dX1_forgetUpTo_27 : decode cX1_forgetUpTo 27 = .ok (.aload_n 0, 1) := by decide +kernel
theorem dX1_forgetUpTo_28 : decode cX1_forgetUpTo 28 = .ok (.getfield 11, 3) := by decide +kernel
theorem dX1_forgetUpTo_31 : decode cX1_forgetUpTo 31 = .ok (.iconst 0, 1) := by decide +kernel
theorem dX1_forgetUpTo_32 : decode cX1_forgetUpTo 32 = .ok (.sipush 240, 3) := by decide +kernel
theorem dX1_forgetUpTo_35 : decode cX1_forgetUpTo 35 = .ok (.iload_n 2, 1) := by decide +kernel
theorem dX1_forgetUpTo_36 : decode cX1_forgetUpTo 36 = .ok (.isub, 1) := by decide +kernel
theorem dX1_forgetUpTo_37 : decode cX1_forgetUpTo 37 = .ok (.invokestatic 78, 3) := by decide +kernel
theorem dX1_forgetUpTo_40 : decode cX1_forgetUpTo 40 = .ok (.aload_n 0, 1) := by decide +kernel
theorem dX1_forgetUpTo_41 : decode cX1_forgetUpTo 41 = .ok (.iload_n 1, 1) := by decide +kernel
theorem dX1_forgetUpTo_42 : decode cX1_forgetUpTo 42 = .ok (.putfield 51, 3) := by decide +kernel
theorem dX1_forgetUpTo_45 : decode cX1_forgetUpTo 45 = .ok (.return_, 1) := by decide +kernel
theorem dX1_takeFold_0 : decode cX1_takeFold 0 = .ok (.aload_n 0, 1) := by decide +kernel
theorem dX1_takeFold_1 : decode cX1_takeFold 1 = .ok (.iload_n 1, 1) := by decide +kernel
theorem dX1_takeFold_2 : decode cX1_takeFold 2 = .ok (.invokevirtual 88, 3) := by decide +kernel
theorem dX1_takeFold_5 : decode cX1_takeFold 5 = .ok (.iconst (-1), 1) := by decide +kernel
theorem dX1_takeFold_6 : decode cX1_takeFold 6 = .ok (.if_icmp .eq 12, 3) := by decide +kernel
theorem dX1_takeFold_9 : decode cX1_takeFold 9 = .ok (.aload_n 0, 1) := by decide +kernel
theorem dX1_takeFold_10 : decode cX1_takeFold 10 = .ok (.iload_n 1, 1) := by decide +kernel
theorem dX1_takeFold_11 : decode cX1_takeFold 11 = .ok (.invokevirtual 110, 3) := by decide +kernel
theorem dX1_takeFold_14 : decode cX1_takeFold 14 = .ok (.iload_n 2, 1) := by decide +kernel
theorem dX1_takeFold_15 : decode cX1_takeFold 15 = .ok (.if_icmp .eq 11, 3) := by decide +kernel
theorem dX1_takeFold_18 : decode cX1_takeFold 18 = .ok (.aload_n 0, 1) := by decide +kernel
theorem dX1_takeFold_19 : decode cX1_takeFold 19 = .ok (.aload_n 0, 1) := by decide +kernel
theorem dX1_takeFold_20 : decode cX1_takeFold 20 = .ok (.getfield 51, 3) := by decide +kernel
theorem dX1_takeFold_23 : decode cX1_takeFold 23 = .ok (.putfield 57, 3) := by decide +kernel
theorem dX1_takeFold_26 : decode cX1_takeFold 26 = .ok (.aload_n 0, 1) := by decide +kernel
theorem dX1_takeFold_27 : decode cX1_takeFold 27 = .ok (.iload_n 1, 1) := by decide +kernel
theorem dX1_takeFold_28 : decode cX1_takeFold 28 = .ok (.invokevirtual 113, 3) := by decide +kernel
theorem dX1_takeFold_31 : decode cX1_takeFold 31 = .ok (.aload_n 0, 1) := by decide +kernel
theorem dX1_takeFold_32 : decode cX1_takeFold 32 = .ok (.iload_n 2, 1) := by decide +kernel
theorem dX1_takeFold_33 : decode cX1_takeFold 33 = .ok (.putfield 54, 3) := by decide +kernel
theorem dX1_takeFold_36 : decode cX1_takeFold 36 = .ok (.aload_n 0, 1) := by decide +kernel
theorem dX1_takeFold_37 : decode cX1_takeFold 37 = .ok (.getfield 18, 3) := by decide +kernel
theorem dX1_takeFold_40 : decode cX1_takeFold 40 = .ok (.aload_n 3, 1) := by decide +kernel
theorem dX1_takeFold_41 : decode cX1_takeFold 41 = .ok (.invokevirtual 84, 3) := by decide +kernel
theorem dX1_takeFold_44 : decode cX1_takeFold 44 = .ok (.aload_n 0, 1) := by decide +kernel
theorem dX1_takeFold_45 : decode cX1_takeFold 45 = .ok (.aload_n 0, 1) := by decide +kernel
theorem dX1_takeFold_46 : decode cX1_takeFold 46 = .ok (.getfield 51, 3) := by decide +kernel
theorem dX1_takeFold_49 : decode cX1_takeFold 49 = .ok (.putfield 60, 3) := by decide +kernel
theorem dX1_takeFold_52 : decode cX1_takeFold 52 = .ok (.aload_n 0, 1) := by decide +kernel
theorem dX1_takeFold_53 : decode cX1_takeFold 53 = .ok (.getfield 22, 3) := by decide +kernel
theorem dX1_takeFold_56 : decode cX1_takeFold 56 = .ok (.aload_n 0, 1) := by decide +kernel
theorem dX1_takeFold_57 : decode cX1_takeFold 57 = .ok (.getfield 18, 3) := by decide +kernel
theorem dX1_takeFold_60 : decode cX1_takeFold 60 = .ok (.invokevirtual 84, 3) := by decide +kernel
theorem dX1_takeFold_63 : decode cX1_takeFold 63 = .ok (.return_, 1) := by decide +kernel
theorem dX2_init_0 : decode cX2_init 0 = .ok (.aload_n 0, 1) := by decide +kernel
theorem dX2_init_1 : decode cX2_init 1 = .ok (.invokespecial 3, 3) := by decide +kernel
theorem dX2_init_4 : decode cX2_init 4 = .ok (.aload_n 0, 1) := by decide +kernel
theorem dX2_init_5 : decode cX2_init 5 = .ok (.iconst (-1), 1) := by decide +kernel
theorem dX2_init_6 : decode cX2_init 6 = .ok (.putfield 9, 3) := by decide +kernel
theorem dX2_init_9 : decode cX2_init 9 = .ok (.aload_n 0, 1) := by decide +kernel
theorem dX2_init_10 : decode cX2_init 10 = .ok (.bipush 30, 2) := by decide +kernel
theorem dX2_init_12 : decode cX2_init 12 = .ok (.newarray .int, 2) := by decide +kernel
theorem dX2_init_14 : decode cX2_init 14 = .ok (.putfield 15, 3) := by decide +kernel
theorem dX2_init_17 : decode cX2_init 17 = .ok (.aload_n 0, 1) := by decide +kernel
theorem dX2_init_18 : decode cX2_init 18 = .ok (.new 19, 3) := by decide +kernel
theorem dX2_init_21 : decode cX2_init 21 = .ok (.dup, 1) := by decide +kernel
theorem dX2_init_22 : decode cX2_init 22 = .ok (.invokespecial 21, 3) := by decide +kernel
theorem dX2_init_25 : decode cX2_init 25 = .ok (.putfield 22, 3) := by decide +kernel
theorem dX2_init_28 : decode cX2_init 28 = .ok (.return_, 1) := by decide +kernel
theorem dX2_write_0 : decode cX2_write 0 = .ok (.aload_n 0, 1) := by decide +kernel
theorem dX2_write_1 : decode cX2_write 1 = .ok (.iload_n 1, 1) := by decide +kernel
theorem dX2_write_2 : decode cX2_write 2 = .ok (.putfield 9, 3) := by decide +kernel
theorem dX2_write_5 : decode cX2_write 5 = .ok (.aload_n 0, 1) := by decide +kernel
theorem dX2_write_6 : decode cX2_write 6 = .ok (.iload_n 2, 1) := by decide +kernel
theorem dX2_write_7 : decode cX2_write 7 = .ok (.putfield 26, 3) := by decide +kernel
theorem dX2_write_10 : decode cX2_write 10 = .ok (.aload_n 0, 1) := by decide +kernel
theorem dX2_write_11 : decode cX2_write 11 = .ok (.iload_n 3, 1) := by decide +kernel
theorem dX2_write_12 : decode cX2_write 12 = .ok (.putfield 29, 3) := by decide +kernel
theorem dX2_write_15 : decode cX2_write 15 = .ok (.aload_n 0, 1) := by decide +kernel
theorem dX2_write_16 : decode cX2_write 16 = .ok (.iload 4, 2) := by decide +kernel
theorem dX2_write_18 : decode cX2_write 18 = .ok (.putfield 32, 3) := by decide +kernel
theorem dX2_write_21 : decode cX2_write 21 = .ok (.aload_n 0, 1) := by decide +kernel
theorem dX2_write_22 : decode cX2_write 22 = .ok (.iconst 0, 1) := by decide +kernel
theorem dX2_write_23 : decode cX2_write 23 = .ok (.putfield 35, 3) := by decide +kernel
theorem dX2_write_26 : decode cX2_write 26 = .ok (.aload_n 0, 1) := by decide +kernel
theorem dX2_write_27 : decode cX2_write 27 = .ok (.iconst 0, 1) := by decide +kernel
theorem dX2_write_28 : decode cX2_write 28 = .ok (.putfield 38, 3) := by decide +kernel
theorem dX2_write_31 : decode cX2_write 31 = .ok (.aload_n 0, 1) := by decide +kernel
theorem dX2_write_32 : decode cX2_write 32 = .ok (.iconst 0, 1) := by decide +kernel
theorem dX2_write_33 : decode cX2_write 33 = .ok (.putfield 41, 3) := by decide +kernel
theorem dX2_write_36 : decode cX2_write 36 = .ok (.aload_n 0, 1) := by decide +kernel
theorem dX2_write_37 : decode cX2_write 37 = .ok (.iconst 0, 1) := by decide +kernel
theorem dX2_write_38 : decode cX2_write 38 = .ok (.putfield 44, 3) := by decide +kernel
theorem dX2_write_41 : decode cX2_write 41 = .ok (.aload_n 0, 1) := by decide +kernel
theorem dX2_write_42 : decode cX2_write 42 = .ok (.iconst 0, 1) := by decide +kernel
theorem dX2_write_43 : decode cX2_write 43 = .ok (.putfield 47, 3) := by decide +kernel
theorem dX2_write_46 : decode cX2_write 46 = .ok (.aload_n 0, 1) := by decide +kernel
theorem dX2_write_47 : decode cX2_write 47 = .ok (.iload 4, 2) := by decide +kernel
theorem dX2_write_49 : decode cX2_write 49 = .ok (.putfield 50, 3) := by decide +kernel
theorem dX2_write_52 : decode cX2_write 52 = .ok (.return_, 1) := by decide +kernel
theorem dX2_copyFrom_0 : decode cX2_copyFrom 0 = .ok (.aload_n 0, 1) := by decide +kernel
theorem dX2_copyFrom_1 : decode cX2_copyFrom 1 = .ok (.aload_n 1, 1) := by decide +kernel
theorem dX2_copyFrom_2 : decode cX2_copyFrom 2 = .ok (.getfield 9, 3) := by decide +kernel
theorem dX2_copyFrom_5 : decode cX2_copyFrom 5 = .ok (.putfield 9, 3) := by decide +kernel
theorem dX2_copyFrom_8 : decode cX2_copyFrom 8 = .ok (.aload_n 0, 1) := by decide +kernel
theorem dX2_copyFrom_9 : decode cX2_copyFrom 9 = .ok (.aload_n 1, 1) := by decide +kernel
theorem dX2_copyFrom_10 : decode cX2_copyFrom 10 = .ok (.getfield 26, 3) := by decide +kernel
theorem dX2_copyFrom_13 : decode cX2_copyFrom 13 = .ok (.putfield 26, 3) := by decide +kernel
theorem dX2_copyFrom_16 : decode cX2_copyFrom 16 = .ok (.aload_n 0, 1) := by decide +kernel
theorem dX2_copyFrom_17 : decode cX2_copyFrom 17 = .ok (.aload_n 1, 1) := by decide +kernel
theorem dX2_copyFrom_18 : decode cX2_copyFrom 18 = .ok (.getfield 29, 3) := by decide +kernel
theorem dX2_copyFrom_21 : decode cX2_copyFrom 21 = .ok (.putfield 29, 3) := by decide +kernel
theorem dX2_copyFrom_24 : decode cX2_copyFrom 24 = .ok (.aload_n 0, 1) := by decide +kernel
theorem dX2_copyFrom_25 : decode cX2_copyFrom 25 = .ok (.aload_n 1, 1) := by decide +kernel
theorem dX2_copyFrom_26 : decode cX2_copyFrom 26 = .ok (.getfield 32, 3) := by decide +kernel
theorem dX2_copyFrom_29 : decode cX2_copyFrom 29 = .ok (.putfield 32, 3) := by decide +kernel
theorem dX2_copyFrom_32 : decode cX2_copyFrom 32 = .ok (.aload_n 0, 1) := by decide +kernel
theorem dX2_copyFrom_33 : decode cX2_copyFrom 33 = .ok (.aload_n 1, 1) := by decide +kernel
theorem dX2_copyFrom_34 : decode cX2_copyFrom 34 = .ok (.getfield 35, 3) := by decide +kernel
theorem dX2_copyFrom_37 : decode cX2_copyFrom 37 = .ok (.putfield 35, 3) := by decide +kernel
theorem dX2_copyFrom_40 : decode cX2_copyFrom 40 = .ok (.aload_n 0, 1) := by decide +kernel
theorem dX2_copyFrom_41 : decode cX2_copyFrom 41 = .ok (.aload_n 1, 1) := by decide +kernel
theorem dX2_copyFrom_42 : decode cX2_copyFrom 42 = .ok (.getfield 38, 3) := by decide +kernel
theorem dX2_copyFrom_45 : decode cX2_copyFrom 45 = .ok (.putfield 38, 3) := by decide +kernel
theorem dX2_copyFrom_48 : decode cX2_copyFrom 48 = .ok (.aload_n 0, 1) := by decide +kernel
theorem dX2_copyFrom_49 : decode cX2_copyFrom 49 = .ok (.aload_n 1, 1) := by decide +kernel
theorem dX2_copyFrom_50 : decode cX2_copyFrom 50 = .ok (.getfield 41, 3) := by decide +kernel
theorem dX2_copyFrom_53 : decode cX2_copyFrom 53 = .ok (.putfield 41, 3) := by decide +kernel
theorem dX2_copyFrom_56 : decode cX2_copyFrom 56 = .ok (.aload_n 0, 1) := by decide +kernel
theorem dX2_copyFrom_57 : decode cX2_copyFrom 57 = .ok (.aload_n 1, 1) := by decide +kernel
theorem dX2_copyFrom_58 : decode cX2_copyFrom 58 = .ok (.getfield 44, 3) := by decide +kernel
theorem dX2_copyFrom_61 : decode cX2_copyFrom 61 = .ok (.putfield 44, 3) := by decide +kernel
theorem dX2_copyFrom_64 : decode cX2_copyFrom 64 = .ok (.aload_n 0, 1) := by decide +kernel
theorem dX2_copyFrom_65 : decode cX2_copyFrom 65 = .ok (.aload_n 1, 1) := by decide +kernel
theorem dX2_copyFrom_66 : decode cX2_copyFrom 66 = .ok (.getfield 47, 3) := by decide +kernel
theorem dX2_copyFrom_69 : decode cX2_copyFrom 69 = .ok (.putfield 47, 3) := by decide +kernel
theorem dX2_copyFrom_72 : decode cX2_copyFrom 72 = .ok (.aload_n 0, 1) := by decide +kernel
theorem dX2_copyFrom_73 : decode cX2_copyFrom 73 = .ok (.aload_n 1, 1) := by decide +kernel
theorem dX2_copyFrom_74 : decode cX2_copyFrom 74 = .ok (.getfield 50, 3) := by decide +kernel
theorem dX2_copyFrom_77 : decode cX2_copyFrom 77 = .ok (.putfield 50, 3) := by decide +kernel
theorem dX2_copyFrom_80 : decode cX2_copyFrom 80 = .ok (.aload_n 1, 1) := by decide +kernel
theorem dX2_copyFrom_81 : decode cX2_copyFrom 81 = .ok (.getfield 15, 3) := by decide +kernel
theorem dX2_copyFrom_84 : decode cX2_copyFrom 84 = .ok (.iconst 0, 1) := by decide +kernel
theorem dX2_copyFrom_85 : decode cX2_copyFrom 85 = .ok (.aload_n 0, 1) := by decide +kernel
theorem dX2_copyFrom_86 : decode cX2_copyFrom 86 = .ok (.getfield 15, 3) := by decide +kernel
theorem dX2_copyFrom_89 : decode cX2_copyFrom 89 = .ok (.iconst 0, 1) := by decide +kernel
theorem dX2_copyFrom_90 : decode cX2_copyFrom 90 = .ok (.bipush 30, 2) := by decide +kernel
theorem dX2_copyFrom_92 : decode cX2_copyFrom 92 = .ok (.invokestatic 53, 3) := by decide +kernel
theorem dX2_copyFrom_95 : decode cX2_copyFrom 95 = .ok (.aload_n 0, 1) := by decide +kernel
theorem dX2_copyFrom_96 : decode cX2_copyFrom 96 = .ok (.getfield 22, 3) := by decide +kernel
theorem dX2_copyFrom_99 : decode cX2_copyFrom 99 = .ok (.aload_n 1, 1) := by decide +kernel
theorem dX2_copyFrom_100 : decode cX2_copyFrom 100 = .ok (.getfield 22, 3) := by decide +kernel
theorem dX2_copyFrom_103 : decode cX2_copyFrom 103 = .ok (.invokevirtual 59, 3) := by decide +kernel
theorem dX2_copyFrom_106 : decode cX2_copyFrom 106 = .ok (.return_, 1) := by decide +kernel
theorem dX2_tell_0 : decode cX2_tell 0 = .ok (.iload_n 1, 1) := by decide +kernel
theorem dX2_tell_1 : decode cX2_tell 1 = .ok (.tableswitch 96 0 8 #[51, 56, 61, 66, 71, 76, 81, 86, 91], 51) := by decide +kernel
theorem dX2_tell_52 : decode cX2_tell 52 = .ok (.aload_n 0, 1) := by decide +kernel
theorem dX2_tell_53 : decode cX2_tell 53 = .ok (.getfield 9, 3) := by decide +kernel
theorem dX2_tell_56 : decode cX2_tell 56 = .ok (.ireturn, 1) := by decide +kernel
theorem dX2_tell_57 : decode cX2_tell 57 = .ok (.aload_n 0, 1) := by decide +kernel
theorem dX2_tell_58 : decode cX2_tell 58 = .ok (.getfield 26, 3) := by decide +kernel
theorem dX2_tell_61 : decode cX2_tell 61 = .ok (.ireturn, 1) := by decide +kernel
theorem dX2_tell_62 : decode cX2_tell 62 = .ok (.aload_n 0, 1) := by decide +kernel
theorem dX2_tell_63 : decode cX2_tell 63 = .ok (.getfield 29, 3) := by decide +kernel
theorem dX2_tell_66 : decode cX2_tell 66 = .ok (.ireturn, 1) := by decide +kernel
theorem dX2_tell_67 : decode cX2_tell 67 = .ok (.aload_n 0, 1) := by decide +kernel
theorem dX2_tell_68 : decode cX2_tell 68 = .ok (.getfield 32, 3) := by decide +kernel
theorem dX2_tell_71 : decode cX2_tell 71 = .ok (.ireturn, 1) := by decide +kernel
theorem dX2_tell_72 : decode cX2_tell 72 = .ok (.aload_n 0, 1) := by decide +kernel
theorem dX2_tell_73 : decode cX2_tell 73 = .ok (.getfield 35, 3) := by decide +kernel
theorem dX2_tell_76 : decode cX2_tell 76 = .ok (.ireturn, 1) := by decide +kernel
theorem dX2_tell_77 : decode cX2_tell 77 = .ok (.aload_n 0, 1) := by decide +kernel
theorem dX2_tell_78 : decode cX2_tell 78 = .ok (.getfield 38, 3) := by decide +kernel
theorem dX2_tell_81 : decode cX2_tell 81 = .ok (.ireturn, 1) := by decide +kernel
theorem dX2_tell_82 : decode cX2_tell 82 = .ok (.aload_n 0, 1) := by decide +kernel
theorem dX2_tell_83 : decode cX2_tell 83 = .ok (.getfield 41, 3) := by decide +kernel
theorem dX2_tell_86 : decode cX2_tell 86 = .ok (.ireturn, 1) := by decide +kernel
theorem dX2_tell_87 : decode cX2_tell 87 = .ok (.aload_n 0, 1) := by decide +kernel
theorem dX2_tell_88 : decode cX2_tell 88 = .ok (.getfield 44, 3) := by decide +kernel
theorem dX2_tell_91 : decode cX2_tell 91 = .ok (.ireturn, 1) := by decide +kernel
theorem dX2_tell_92 : decode cX2_tell 92 = .ok (.aload_n 0, 1) := by decide +kernel
theorem dX2_tell_93 : decode cX2_tell 93 = .ok (.getfield 47, 3) := by decide +kernel
theorem dX2_tell_96 : decode cX2_tell 96 = .ok (.ireturn, 1) := by decide +kernel
theorem dX2_tell_97 : decode cX2_tell 97 = .ok (.iconst (-1), 1) := by decide +kernel
theorem dX2_tell_98 : decode cX2_tell 98 = .ok (.ireturn, 1) := by decide +kernel
theorem dX2_takeFold_0 : decode cX2_takeFold 0 = .ok (.aload_n 0, 1) := by decide +kernel
theorem dX2_takeFold_1 : decode cX2_takeFold 1 = .ok (.aload_n 1, 1) := by decide +kernel
theorem dX2_takeFold_2 : decode cX2_takeFold 2 = .ok (.getfield 63, 3) := by decide +kernel
theorem dX2_takeFold_5 : decode cX2_takeFold 5 = .ok (.putfield 35, 3) := by decide +kernel
theorem dX2_takeFold_8 : decode cX2_takeFold 8 = .ok (.aload_n 0, 1) := by decide +kernel
theorem dX2_takeFold_9 : decode cX2_takeFold 9 = .ok (.aload_n 1, 1) := by decide +kernel
theorem dX2_takeFold_10 : decode cX2_takeFold 10 = .ok (.getfield 68, 3) := by decide +kernel
theorem dX2_takeFold_13 : decode cX2_takeFold 13 = .ok (.putfield 38, 3) := by decide +kernel
theorem dX2_takeFold_16 : decode cX2_takeFold 16 = .ok (.aload_n 0, 1) := by decide +kernel
theorem dX2_takeFold_17 : decode cX2_takeFold 17 = .ok (.getfield 22, 3) := by decide +kernel
theorem dX2_takeFold_20 : decode cX2_takeFold 20 = .ok (.aload_n 1, 1) := by decide +kernel
theorem dX2_takeFold_21 : decode cX2_takeFold 21 = .ok (.getfield 71, 3) := by decide +kernel
theorem dX2_takeFold_24 : decode cX2_takeFold 24 = .ok (.invokevirtual 59, 3) := by decide +kernel
theorem dX2_takeFold_27 : decode cX2_takeFold 27 = .ok (.return_, 1) := by decide +kernel
theorem dX2_takeEntries_0 : decode cX2_takeEntries 0 = .ok (.aload_n 0, 1) := by decide +kernel
theorem dX2_takeEntries_1 : decode cX2_takeEntries 1 = .ok (.iload_n 2, 1) := by decide +kernel
theorem dX2_takeEntries_2 : decode cX2_takeEntries 2 = .ok (.iconst 1, 1) := by decide +kernel
theorem dX2_takeEntries_3 : decode cX2_takeEntries 3 = .ok (.isub, 1) := by decide +kernel
theorem dX2_takeEntries_4 : decode cX2_takeEntries 4 = .ok (.putfield 35, 3) := by decide +kernel
theorem dX2_takeEntries_7 : decode cX2_takeEntries 7 = .ok (.aload_n 0, 1) := by decide +kernel
theorem dX2_takeEntries_8 : decode cX2_takeEntries 8 = .ok (.aload_n 1, 1) := by decide +kernel
theorem dX2_takeEntries_9 : decode cX2_takeEntries 9 = .ok (.iload_n 2, 1) := by decide +kernel
theorem dX2_takeEntries_10 : decode cX2_takeEntries 10 = .ok (.iconst 1, 1) := by decide +kernel
theorem dX2_takeEntries_11 : decode cX2_takeEntries 11 = .ok (.isub, 1) := by decide +kernel
theorem dX2_takeEntries_12 : decode cX2_takeEntries 12 = .ok (.invokevirtual 74, 3) := by decide +kernel
theorem dX2_takeEntries_15 : decode cX2_takeEntries 15 = .ok (.putfield 38, 3) := by decide +kernel
theorem dX2_takeEntries_18 : decode cX2_takeEntries 18 = .ok (.aload_n 0, 1) := by decide +kernel
theorem dX2_takeEntries_19 : decode cX2_takeEntries 19 = .ok (.aload_n 1, 1) := by decide +kernel
theorem dX2_takeEntries_20 : decode cX2_takeEntries 20 = .ok (.getfield 78, 3) := by decide +kernel
theorem dX2_takeEntries_23 : decode cX2_takeEntries 23 = .ok (.putfield 44, 3) := by decide +kernel
theorem dX2_takeEntries_26 : decode cX2_takeEntries 26 = .ok (.iconst 0, 1) := by decide +kernel
theorem dX2_takeEntries_27 : decode cX2_takeEntries 27 = .ok (.istore_n 3, 1) := by decide +kernel
theorem dX2_takeEntries_28 : decode cX2_takeEntries 28 = .ok (.iload_n 3, 1) := by decide +kernel
theorem dX2_takeEntries_29 : decode cX2_takeEntries 29 = .ok (.iconst 5, 1) := by decide +kernel
theorem dX2_takeEntries_30 : decode cX2_takeEntries 30 = .ok (.if_icmp .ge 57, 3) := by decide +kernel
theorem dX2_takeEntries_33 : decode cX2_takeEntries 33 = .ok (.aload_n 1, 1) := by decide +kernel
theorem dX2_takeEntries_34 : decode cX2_takeEntries 34 = .ok (.iload_n 2, 1) := by decide +kernel
theorem dX2_takeEntries_35 : decode cX2_takeEntries 35 = .ok (.iload_n 3, 1) := by decide +kernel
theorem dX2_takeEntries_36 : decode cX2_takeEntries 36 = .ok (.iadd, 1) := by decide +kernel
theorem dX2_takeEntries_37 : decode cX2_takeEntries 37 = .ok (.invokevirtual 79, 3) := by decide +kernel
theorem dX2_takeEntries_40 : decode cX2_takeEntries 40 = .ok (.istore 4, 2) := by decide +kernel
theorem dX2_takeEntries_42 : decode cX2_takeEntries 42 = .ok (.iload 4, 2) := by decide +kernel
theorem dX2_takeEntries_44 : decode cX2_takeEntries 44 = .ok (.iconst (-1), 1) := by decide +kernel
theorem dX2_takeEntries_45 : decode cX2_takeEntries 45 = .ok (.if_icmp .ne 4, 3) := by decide +kernel
theorem dX2_takeEntries_48 : decode cX2_takeEntries 48 = .ok (.return_, 1) := by decide +kernel
theorem dX2_takeEntries_49 : decode cX2_takeEntries 49 = .ok (.aload_n 1, 1) := by decide +kernel
theorem dX2_takeEntries_50 : decode cX2_takeEntries 50 = .ok (.getfield 82, 3) := by decide +kernel
theorem dX2_takeEntries_53 : decode cX2_takeEntries 53 = .ok (.iload 4, 2) := by decide +kernel
theorem dX2_takeEntries_55 : decode cX2_takeEntries 55 = .ok (.aload_n 0, 1) := by decide +kernel
theorem dX2_takeEntries_56 : decode cX2_takeEntries 56 = .ok (.getfield 15, 3) := by decide +kernel
theorem dX2_takeEntries_59 : decode cX2_takeEntries 59 = .ok (.aload_n 0, 1) := by decide +kernel
theorem dX2_takeEntries_60 : decode cX2_takeEntries 60 = .ok (.getfield 41, 3) := by decide +kernel
theorem dX2_takeEntries_63 : decode cX2_takeEntries 63 = .ok (.bipush 6, 2) := by decide +kernel
theorem dX2_takeEntries_65 : decode cX2_takeEntries 65 = .ok (.imul, 1) := by decide +kernel
theorem dX2_takeEntries_66 : decode cX2_takeEntries 66 = .ok (.bipush 6, 2) := by decide +kernel
theorem dX2_takeEntries_68 : decode cX2_takeEntries 68 = .ok (.invokestatic 53, 3) := by decide +kernel
theorem dX2_takeEntries_71 : decode cX2_takeEntries 71 = .ok (.aload_n 0, 1) := by decide +kernel
theorem dX2_takeEntries_72 : decode cX2_takeEntries 72 = .ok (.dup, 1) := by decide +kernel
theorem dX2_takeEntries_73 : decode cX2_takeEntries 73 = .ok (.getfield 41, 3) := by decide +kernel
theorem dX2_takeEntries_76 : decode cX2_takeEntries 76 = .ok (.iconst 1, 1) := by decide +kernel
theorem dX2_takeEntries_77 : decode cX2_takeEntries 77 = .ok (.iadd, 1) := by decide +kernel
theorem dX2_takeEntries_78 : decode cX2_takeEntries 78 = .ok (.putfield 41, 3) := by decide +kernel
theorem dX2_takeEntries_81 : decode cX2_takeEntries 81 = .ok (.iinc 3 1, 3) := by decide +kernel
theorem dX2_takeEntries_84 : decode cX2_takeEntries 84 = .ok (.goto (-56), 3) := by decide +kernel
theorem dX2_takeEntries_87 : decode cX2_takeEntries 87 = .ok (.return_, 1) := by decide +kernel
theorem dX2_termAt_0 : decode cX2_termAt 0 = .ok (.iload_n 1, 1) := by decide +kernel
theorem dX2_termAt_1 : decode cX2_termAt 1 = .ok (.ifCond .lt 22, 3) := by decide +kernel
theorem dX2_termAt_4 : decode cX2_termAt 4 = .ok (.iload_n 1, 1) := by decide +kernel
theorem dX2_termAt_5 : decode cX2_termAt 5 = .ok (.iconst 5, 1) := by decide +kernel
theorem dX2_termAt_6 : decode cX2_termAt 6 = .ok (.if_icmp .ge 17, 3) := by decide +kernel
theorem dX2_termAt_9 : decode cX2_termAt 9 = .ok (.aload_n 0, 1) := by decide +kernel
theorem dX2_termAt_10 : decode cX2_termAt 10 = .ok (.getfield 15, 3) := by decide +kernel
theorem dX2_termAt_13 : decode cX2_termAt 13 = .ok (.iload_n 1, 1) := by decide +kernel
theorem dX2_termAt_14 : decode cX2_termAt 14 = .ok (.bipush 6, 2) := by decide +kernel
theorem dX2_termAt_16 : decode cX2_termAt 16 = .ok (.imul, 1) := by decide +kernel
theorem dX2_termAt_17 : decode cX2_termAt 17 = .ok (.iconst 0, 1) := by decide +kernel
theorem dX2_termAt_18 : decode cX2_termAt 18 = .ok (.iadd, 1) := by decide +kernel
theorem dX2_termAt_19 : decode cX2_termAt 19 = .ok (.iaload, 1) := by decide +kernel
theorem dX2_termAt_20 : decode cX2_termAt 20 = .ok (.goto 4, 3) := by decide +kernel
theorem dX2_termAt_23 : decode cX2_termAt 23 = .ok (.iconst (-1), 1) := by decide +kernel
theorem dX2_termAt_24 : decode cX2_termAt 24 = .ok (.ireturn, 1) := by decide +kernel
theorem dX3_init_0 : decode cX3_init 0 = .ok (.aload_n 0, 1) := by decide +kernel
theorem dX3_init_1 : decode cX3_init 1 = .ok (.invokespecial 3, 3) := by decide +kernel
theorem dX3_init_4 : decode cX3_init 4 = .ok (.aload_n 0, 1) := by decide +kernel
theorem dX3_init_5 : decode cX3_init 5 = .ok (.bipush 40, 2) := by decide +kernel
theorem dX3_init_7 : decode cX3_init 7 = .ok (.anewarray 11, 3) := by decide +kernel
theorem dX3_init_10 : decode cX3_init 10 = .ok (.putfield 13, 3) := by decide +kernel
theorem dX3_init_13 : decode cX3_init 13 = .ok (.iconst 0, 1) := by decide +kernel
theorem dX3_init_14 : decode cX3_init 14 = .ok (.istore_n 1, 1) := by decide +kernel
theorem dX3_init_15 : decode cX3_init 15 = .ok (.iload_n 1, 1) := by decide +kernel
theorem dX3_init_16 : decode cX3_init 16 = .ok (.bipush 40, 2) := by decide +kernel
theorem dX3_init_18 : decode cX3_init 18 = .ok (.if_icmp .ge 22, 3) := by decide +kernel
theorem dX3_init_21 : decode cX3_init 21 = .ok (.aload_n 0, 1) := by decide +kernel
theorem dX3_init_22 : decode cX3_init 22 = .ok (.getfield 13, 3) := by decide +kernel
theorem dX3_init_25 : decode cX3_init 25 = .ok (.iload_n 1, 1) := by decide +kernel
theorem dX3_init_26 : decode cX3_init 26 = .ok (.new 11, 3) := by decide +kernel
theorem dX3_init_29 : decode cX3_init 29 = .ok (.dup, 1) := by decide +kernel
theorem dX3_init_30 : decode cX3_init 30 = .ok (.invokespecial 17, 3) := by decide +kernel
theorem dX3_init_33 : decode cX3_init 33 = .ok (.aastore, 1) := by decide +kernel
theorem dX3_init_34 : decode cX3_init 34 = .ok (.iinc 1 1, 3) := by decide +kernel
theorem dX3_init_37 : decode cX3_init 37 = .ok (.goto (-22), 3) := by decide +kernel
theorem dX3_init_40 : decode cX3_init 40 = .ok (.aload_n 0, 1) := by decide +kernel
theorem dX3_init_41 : decode cX3_init 41 = .ok (.new 11, 3) := by decide +kernel
theorem dX3_init_44 : decode cX3_init 44 = .ok (.dup, 1) := by decide +kernel
theorem dX3_init_45 : decode cX3_init 45 = .ok (.invokespecial 17, 3) := by decide +kernel
theorem dX3_init_48 : decode cX3_init 48 = .ok (.putfield 18, 3) := by decide +kernel
theorem dX3_init_51 : decode cX3_init 51 = .ok (.return_, 1) := by decide +kernel
theorem dX3_clear_0 : decode cX3_clear 0 = .ok (.iconst 0, 1) := by decide +kernel
theorem dX3_clear_1 : decode cX3_clear 1 = .ok (.istore_n 1, 1) := by decide +kernel
theorem dX3_clear_2 : decode cX3_clear 2 = .ok (.iload_n 1, 1) := by decide +kernel
theorem dX3_clear_3 : decode cX3_clear 3 = .ok (.bipush 40, 2) := by decide +kernel
theorem dX3_clear_5 : decode cX3_clear 5 = .ok (.if_icmp .ge 19, 3) := by decide +kernel
theorem dX3_clear_8 : decode cX3_clear 8 = .ok (.aload_n 0, 1) := by decide +kernel
theorem dX3_clear_9 : decode cX3_clear 9 = .ok (.getfield 13, 3) := by decide +kernel
theorem dX3_clear_12 : decode cX3_clear 12 = .ok (.iload_n 1, 1) := by decide +kernel
theorem dX3_clear_13 : decode cX3_clear 13 = .ok (.aaload, 1) := by decide +kernel
theorem dX3_clear_14 : decode cX3_clear 14 = .ok (.iconst (-1), 1) := by decide +kernel
theorem dX3_clear_15 : decode cX3_clear 15 = .ok (.putfield 22, 3) := by decide +kernel
theorem dX3_clear_18 : decode cX3_clear 18 = .ok (.iinc 1 1, 3) := by decide +kernel
theorem dX3_clear_21 : decode cX3_clear 21 = .ok (.goto (-19), 3) := by decide +kernel
theorem dX3_clear_24 : decode cX3_clear 24 = .ok (.return_, 1) := by decide +kernel
theorem dX3_copyFrom_0 : decode cX3_copyFrom 0 = .ok (.iconst 0, 1) := by decide +kernel
theorem dX3_copyFrom_1 : decode cX3_copyFrom 1 = .ok (.istore_n 2, 1) := by decide +kernel
theorem dX3_copyFrom_2 : decode cX3_copyFrom 2 = .ok (.iload_n 2, 1) := by decide +kernel
theorem dX3_copyFrom_3 : decode cX3_copyFrom 3 = .ok (.bipush 40, 2) := by decide +kernel
theorem dX3_copyFrom_5 : decode cX3_copyFrom 5 = .ok (.if_icmp .ge 24, 3) := by decide +kernel
theorem dX3_copyFrom_8 : decode cX3_copyFrom 8 = .ok (.aload_n 0, 1) := by decide +kernel
theorem dX3_copyFrom_9 : decode cX3_copyFrom 9 = .ok (.getfield 13, 3) := by decide +kernel
theorem dX3_copyFrom_12 : decode cX3_copyFrom 12 = .ok (.iload_n 2, 1) := by decide +kernel
theorem dX3_copyFrom_13 : decode cX3_copyFrom 13 = .ok (.aaload, 1) := by decide +kernel
theorem dX3_copyFrom_14 : decode cX3_copyFrom 14 = .ok (.aload_n 1, 1) := by decide +kernel
theorem dX3_copyFrom_15 : decode cX3_copyFrom 15 = .ok (.getfield 13, 3) := by decide +kernel
theorem dX3_copyFrom_18 : decode cX3_copyFrom 18 = .ok (.iload_n 2, 1) := by decide +kernel
theorem dX3_copyFrom_19 : decode cX3_copyFrom 19 = .ok (.aaload, 1) := by decide +kernel
theorem dX3_copyFrom_20 : decode cX3_copyFrom 20 = .ok (.invokevirtual 26, 3) := by decide +kernel
theorem dX3_copyFrom_23 : decode cX3_copyFrom 23 = .ok (.iinc 2 1, 3) := by decide +kernel
theorem dX3_copyFrom_26 : decode cX3_copyFrom 26 = .ok (.goto (-24), 3) := by decide +kernel
theorem dX3_copyFrom_29 : decode cX3_copyFrom 29 = .ok (.return_, 1) := by decide +kernel
theorem dX3_isFull_0 : decode cX3_isFull 0 = .ok (.iload_n 1, 1) := by decide +kernel
theorem dX3_isFull_1 : decode cX3_isFull 1 = .ok (.ifCond .lt 26, 3) := by decide +kernel
theorem dX3_isFull_4 : decode cX3_isFull 4 = .ok (.iload_n 1, 1) := by decide +kernel
theorem dX3_isFull_5 : decode cX3_isFull 5 = .ok (.bipush 40, 2) := by decide +kernel
theorem dX3_isFull_7 : decode cX3_isFull 7 = .ok (.if_icmp .ge 20, 3) := by decide +kernel
theorem dX3_isFull_10 : decode cX3_isFull 10 = .ok (.aload_n 0, 1) := by decide +kernel
theorem dX3_isFull_11 : decode cX3_isFull 11 = .ok (.getfield 13, 3) := by decide +kernel
theorem dX3_isFull_14 : decode cX3_isFull 14 = .ok (.iload_n 1, 1) := by decide +kernel
theorem dX3_isFull_15 : decode cX3_isFull 15 = .ok (.aaload, 1) := by decide +kernel
theorem dX3_isFull_16 : decode cX3_isFull 16 = .ok (.getfield 22, 3) := by decide +kernel
theorem dX3_isFull_19 : decode cX3_isFull 19 = .ok (.iconst (-1), 1) := by decide +kernel
theorem dX3_isFull_20 : decode cX3_isFull 20 = .ok (.if_icmp .eq 7, 3) := by decide +kernel
theorem dX3_isFull_23 : decode cX3_isFull 23 = .ok (.iconst 1, 1) := by decide +kernel
theorem dX3_isFull_24 : decode cX3_isFull 24 = .ok (.goto 4, 3) := by decide +kernel
theorem dX3_isFull_27 : decode cX3_isFull 27 = .ok (.iconst 0, 1) := by decide +kernel
theorem dX3_isFull_28 : decode cX3_isFull 28 = .ok (.ireturn, 1) := by decide +kernel
theorem dX3_countFull_0 : decode cX3_countFull 0 = .ok (.iconst 0, 1) := by decide +kernel
theorem dX3_countFull_1 : decode cX3_countFull 1 = .ok (.istore_n 1, 1) := by decide +kernel
theorem dX3_countFull_2 : decode cX3_countFull 2 = .ok (.iconst 0, 1) := by decide +kernel
theorem dX3_countFull_3 : decode cX3_countFull 3 = .ok (.istore_n 2, 1) := by decide +kernel
theorem dX3_countFull_4 : decode cX3_countFull 4 = .ok (.iload_n 2, 1) := by decide +kernel
theorem dX3_countFull_5 : decode cX3_countFull 5 = .ok (.bipush 40, 2) := by decide +kernel
theorem dX3_countFull_7 : decode cX3_countFull 7 = .ok (.if_icmp .ge 30, 3) := by decide +kernel
theorem dX3_countFull_10 : decode cX3_countFull 10 = .ok (.iload_n 1, 1) := by decide +kernel
theorem dX3_countFull_11 : decode cX3_countFull 11 = .ok (.aload_n 0, 1) := by decide +kernel
theorem dX3_countFull_12 : decode cX3_countFull 12 = .ok (.getfield 13, 3) := by decide +kernel
theorem dX3_countFull_15 : decode cX3_countFull 15 = .ok (.iload_n 2, 1) := by decide +kernel
theorem dX3_countFull_16 : decode cX3_countFull 16 = .ok (.aaload, 1) := by decide +kernel
theorem dX3_countFull_17 : decode cX3_countFull 17 = .ok (.getfield 22, 3) := by decide +kernel
theorem dX3_countFull_20 : decode cX3_countFull 20 = .ok (.iconst (-1), 1) := by decide +kernel
theorem dX3_countFull_21 : decode cX3_countFull 21 = .ok (.if_icmp .ne 7, 3) := by decide +kernel
theorem dX3_countFull_24 : decode cX3_countFull 24 = .ok (.iconst 0, 1) := by decide +kernel
theorem dX3_countFull_25 : decode cX3_countFull 25 = .ok (.goto 4, 3) := by decide +kernel
theorem dX3_countFull_28 : decode cX3_countFull 28 = .ok (.iconst 1, 1) := by decide +kernel
theorem dX3_countFull_29 : decode cX3_countFull 29 = .ok (.iadd, 1) := by decide +kernel
theorem dX3_countFull_30 : decode cX3_countFull 30 = .ok (.istore_n 1, 1) := by decide +kernel
theorem dX3_countFull_31 : decode cX3_countFull 31 = .ok (.iinc 2 1, 3) := by decide +kernel
theorem dX3_countFull_34 : decode cX3_countFull 34 = .ok (.goto (-30), 3) := by decide +kernel
theorem dX3_countFull_37 : decode cX3_countFull 37 = .ok (.iload_n 1, 1) := by decide +kernel
theorem dX3_countFull_38 : decode cX3_countFull 38 = .ok (.ireturn, 1) := by decide +kernel
theorem dX3_leastEmpty_0 : decode cX3_leastEmpty 0 = .ok (.iconst 0, 1) := by decide +kernel
theorem dX3_leastEmpty_1 : decode cX3_leastEmpty 1 = .ok (.istore_n 1, 1) := by decide +kernel
theorem dX3_leastEmpty_2 : decode cX3_leastEmpty 2 = .ok (.iload_n 1, 1) := by decide +kernel
theorem dX3_leastEmpty_3 : decode cX3_leastEmpty 3 = .ok (.bipush 40, 2) := by decide +kernel
theorem dX3_leastEmpty_5 : decode cX3_leastEmpty 5 = .ok (.if_icmp .ge 24, 3) := by decide +kernel
theorem dX3_leastEmpty_8 : decode cX3_leastEmpty 8 = .ok (.aload_n 0, 1) := by decide +kernel
theorem dX3_leastEmpty_9 : decode cX3_leastEmpty 9 = .ok (.getfield 13, 3) := by decide +kernel
theorem dX3_leastEmpty_12 : decode cX3_leastEmpty 12 = .ok (.iload_n 1, 1) := by decide +kernel
theorem dX3_leastEmpty_13 : decode cX3_leastEmpty 13 = .ok (.aaload, 1) := by decide +kernel
theorem dX3_leastEmpty_14 : decode cX3_leastEmpty 14 = .ok (.getfield 22, 3) := by decide +kernel
theorem dX3_leastEmpty_17 : decode cX3_leastEmpty 17 = .ok (.iconst (-1), 1) := by decide +kernel
theorem dX3_leastEmpty_18 : decode cX3_leastEmpty 18 = .ok (.if_icmp .ne 5, 3) := by decide +kernel
theorem dX3_leastEmpty_21 : decode cX3_leastEmpty 21 = .ok (.iload_n 1, 1) := by decide +kernel
theorem dX3_leastEmpty_22 : decode cX3_leastEmpty 22 = .ok (.ireturn, 1) := by decide +kernel
theorem dX3_leastEmpty_23 : decode cX3_leastEmpty 23 = .ok (.iinc 1 1, 3) := by decide +kernel
theorem dX3_leastEmpty_26 : decode cX3_leastEmpty 26 = .ok (.goto (-24), 3) := by decide +kernel
theorem dX3_leastEmpty_29 : decode cX3_leastEmpty 29 = .ok (.iconst (-1), 1) := by decide +kernel
theorem dX3_leastEmpty_30 : decode cX3_leastEmpty 30 = .ok (.ireturn, 1) := by decide +kernel
theorem dX3_takeOut_0 : decode cX3_takeOut 0 = .ok (.aload_n 0, 1) := by decide +kernel
theorem dX3_takeOut_1 : decode cX3_takeOut 1 = .ok (.iload_n 1, 1) := by decide +kernel
theorem dX3_takeOut_2 : decode cX3_takeOut 2 = .ok (.invokevirtual 30, 3) := by decide +kernel
theorem dX3_takeOut_5 : decode cX3_takeOut 5 = .ok (.ifCond .eq 26, 3) := by decide +kernel
theorem dX3_takeOut_8 : decode cX3_takeOut 8 = .ok (.aload_n 0, 1) := by decide +kernel
theorem dX3_takeOut_9 : decode cX3_takeOut 9 = .ok (.getfield 18, 3) := by decide +kernel
theorem dX3_takeOut_12 : decode cX3_takeOut 12 = .ok (.aload_n 0, 1) := by decide +kernel
theorem dX3_takeOut_13 : decode cX3_takeOut 13 = .ok (.getfield 13, 3) := by decide +kernel
theorem dX3_takeOut_16 : decode cX3_takeOut 16 = .ok (.iload_n 1, 1) := by decide +kernel
theorem dX3_takeOut_17 : decode cX3_takeOut 17 = .ok (.aaload, 1) := by decide +kernel
theorem dX3_takeOut_18 : decode cX3_takeOut 18 = .ok (.invokevirtual 26, 3) := by decide +kernel
theorem dX3_takeOut_21 : decode cX3_takeOut 21 = .ok (.aload_n 0, 1) := by decide +kernel
theorem dX3_takeOut_22 : decode cX3_takeOut 22 = .ok (.getfield 13, 3) := by decide +kernel
theorem dX3_takeOut_25 : decode cX3_takeOut 25 = .ok (.iload_n 1, 1) := by decide +kernel
theorem dX3_takeOut_26 : decode cX3_takeOut 26 = .ok (.aaload, 1) := by decide +kernel
theorem dX3_takeOut_27 : decode cX3_takeOut 27 = .ok (.iconst (-1), 1) := by decide +kernel
theorem dX3_takeOut_28 : decode cX3_takeOut 28 = .ok (.putfield 22, 3) := by decide +kernel
theorem dX3_takeOut_31 : decode cX3_takeOut 31 = .ok (.aload_n 0, 1) := by decide +kernel
theorem dX3_takeOut_32 : decode cX3_takeOut 32 = .ok (.getfield 18, 3) := by decide +kernel
theorem dX3_takeOut_35 : decode cX3_takeOut 35 = .ok (.areturn, 1) := by decide +kernel
theorem dX4_init_0 : decode cX4_init 0 = .ok (.aload_n 0, 1) := by decide +kernel
theorem dX4_init_1 : decode cX4_init 1 = .ok (.invokespecial 3, 3) := by decide +kernel
theorem dX4_init_4 : decode cX4_init 4 = .ok (.aload_n 0, 1) := by decide +kernel
theorem dX4_init_5 : decode cX4_init 5 = .ok (.bipush 40, 2) := by decide +kernel
theorem dX4_init_7 : decode cX4_init 7 = .ok (.newarray .int, 2) := by decide +kernel
theorem dX4_init_9 : decode cX4_init 9 = .ok (.putfield 11, 3) := by decide +kernel
theorem dX4_init_12 : decode cX4_init 12 = .ok (.aload_n 0, 1) := by decide +kernel
theorem dX4_init_13 : decode cX4_init 13 = .ok (.bipush 40, 2) := by decide +kernel
theorem dX4_init_15 : decode cX4_init 15 = .ok (.newarray .int, 2) := by decide +kernel
theorem dX4_init_17 : decode cX4_init 17 = .ok (.putfield 15, 3) := by decide +kernel
theorem dX4_init_20 : decode cX4_init 20 = .ok (.aload_n 0, 1) := by decide +kernel
theorem dX4_init_21 : decode cX4_init 21 = .ok (.bipush 40, 2) := by decide +kernel
theorem dX4_init_23 : decode cX4_init 23 = .ok (.newarray .int, 2) := by decide +kernel
theorem dX4_init_25 : decode cX4_init 25 = .ok (.putfield 18, 3) := by decide +kernel
theorem dX4_init_28 : decode cX4_init 28 = .ok (.aload_n 0, 1) := by decide +kernel
theorem dX4_init_29 : decode cX4_init 29 = .ok (.bipush 40, 2) := by decide +kernel
theorem dX4_init_31 : decode cX4_init 31 = .ok (.newarray .int, 2) := by decide +kernel
theorem dX4_init_33 : decode cX4_init 33 = .ok (.putfield 21, 3) := by decide +kernel
theorem dX4_init_36 : decode cX4_init 36 = .ok (.return_, 1) := by decide +kernel
theorem dX4_isThere_0 : decode cX4_isThere 0 = .ok (.iload_n 1, 1) := by decide +kernel
theorem dX4_isThere_1 : decode cX4_isThere 1 = .ok (.ifCond .lt 21, 3) := by decide +kernel
theorem dX4_isThere_4 : decode cX4_isThere 4 = .ok (.iload_n 1, 1) := by decide +kernel
theorem dX4_isThere_5 : decode cX4_isThere 5 = .ok (.aload_n 0, 1) := by decide +kernel
theorem dX4_isThere_6 : decode cX4_isThere 6 = .ok (.getfield 24, 3) := by decide +kernel
theorem dX4_isThere_9 : decode cX4_isThere 9 = .ok (.if_icmp .ge 13, 3) := by decide +kernel
theorem dX4_isThere_12 : decode cX4_isThere 12 = .ok (.iload_n 1, 1) := by decide +kernel
theorem dX4_isThere_13 : decode cX4_isThere 13 = .ok (.bipush 40, 2) := by decide +kernel
theorem dX4_isThere_15 : decode cX4_isThere 15 = .ok (.if_icmp .ge 7, 3) := by decide +kernel
theorem dX4_isThere_18 : decode cX4_isThere 18 = .ok (.iconst 1, 1) := by decide +kernel
theorem dX4_isThere_19 : decode cX4_isThere 19 = .ok (.goto 4, 3) := by decide +kernel
theorem dX4_isThere_22 : decode cX4_isThere 22 = .ok (.iconst 0, 1) := by decide +kernel
theorem dX4_isThere_23 : decode cX4_isThere 23 = .ok (.ireturn, 1) := by decide +kernel
theorem dX4_add_0 : decode cX4_add 0 = .ok (.aload_n 0, 1) := by decide +kernel
theorem dX4_add_1 : decode cX4_add 1 = .ok (.getfield 24, 3) := by decide +kernel
theorem dX4_add_4 : decode cX4_add 4 = .ok (.bipush 40, 2) := by decide +kernel
theorem dX4_add_6 : decode cX4_add 6 = .ok (.if_icmp .lt 5, 3) := by decide +kernel
theorem dX4_add_9 : decode cX4_add 9 = .ok (.iconst (-1), 1) := by decide +kernel
theorem dX4_add_10 : decode cX4_add 10 = .ok (.ireturn, 1) := by decide +kernel
theorem dX4_add_11 : decode cX4_add 11 = .ok (.aload_n 0, 1) := by decide +kernel
theorem dX4_add_12 : decode cX4_add 12 = .ok (.getfield 11, 3) := by decide +kernel
theorem dX4_add_15 : decode cX4_add 15 = .ok (.aload_n 0, 1) := by decide +kernel
theorem dX4_add_16 : decode cX4_add 16 = .ok (.getfield 24, 3) := by decide +kernel
theorem dX4_add_19 : decode cX4_add 19 = .ok (.iload_n 1, 1) := by decide +kernel
theorem dX4_add_20 : decode cX4_add 20 = .ok (.iastore, 1) := by decide +kernel
theorem dX4_add_21 : decode cX4_add 21 = .ok (.aload_n 0, 1) := by decide +kernel
theorem dX4_add_22 : decode cX4_add 22 = .ok (.getfield 15, 3) := by decide +kernel
theorem dX4_add_25 : decode cX4_add 25 = .ok (.aload_n 0, 1) := by decide +kernel
theorem dX4_add_26 : decode cX4_add 26 = .ok (.getfield 24, 3) := by decide +kernel
theorem dX4_add_29 : decode cX4_add 29 = .ok (.iload_n 2, 1) := by decide +kernel
theorem dX4_add_30 : decode cX4_add 30 = .ok (.iastore, 1) := by decide +kernel
theorem dX4_add_31 : decode cX4_add 31 = .ok (.aload_n 0, 1) := by decide +kernel
theorem dX4_add_32 : decode cX4_add 32 = .ok (.getfield 18, 3) := by decide +kernel
theorem dX4_add_35 : decode cX4_add 35 = .ok (.aload_n 0, 1) := by decide +kernel
theorem dX4_add_36 : decode cX4_add 36 = .ok (.getfield 24, 3) := by decide +kernel
theorem dX4_add_39 : decode cX4_add 39 = .ok (.iload_n 3, 1) := by decide +kernel
theorem dX4_add_40 : decode cX4_add 40 = .ok (.iastore, 1) := by decide +kernel
theorem dX4_add_41 : decode cX4_add 41 = .ok (.aload_n 0, 1) := by decide +kernel
theorem dX4_add_42 : decode cX4_add 42 = .ok (.getfield 21, 3) := by decide +kernel
theorem dX4_add_45 : decode cX4_add 45 = .ok (.aload_n 0, 1) := by decide +kernel
theorem dX4_add_46 : decode cX4_add 46 = .ok (.getfield 24, 3) := by decide +kernel
theorem dX4_add_49 : decode cX4_add 49 = .ok (.iload 4, 2) := by decide +kernel
theorem dX4_add_51 : decode cX4_add 51 = .ok (.iastore, 1) := by decide +kernel
theorem dX4_add_52 : decode cX4_add 52 = .ok (.aload_n 0, 1) := by decide +kernel
theorem dX4_add_53 : decode cX4_add 53 = .ok (.dup, 1) := by decide +kernel
theorem dX4_add_54 : decode cX4_add 54 = .ok (.getfield 24, 3) := by decide +kernel
theorem dX4_add_57 : decode cX4_add 57 = .ok (.iconst 1, 1) := by decide +kernel
theorem dX4_add_58 : decode cX4_add 58 = .ok (.iadd, 1) := by decide +kernel
theorem dX4_add_59 : decode cX4_add 59 = .ok (.putfield 24, 3) := by decide +kernel
theorem dX4_add_62 : decode cX4_add 62 = .ok (.aload_n 0, 1) := by decide +kernel
theorem dX4_add_63 : decode cX4_add 63 = .ok (.getfield 24, 3) := by decide +kernel
theorem dX4_add_66 : decode cX4_add 66 = .ok (.iconst 1, 1) := by decide +kernel
theorem dX4_add_67 : decode cX4_add 67 = .ok (.isub, 1) := by decide +kernel
theorem dX4_add_68 : decode cX4_add 68 = .ok (.ireturn, 1) := by decide +kernel
theorem dX4_copyFrom_0 : decode cX4_copyFrom 0 = .ok (.aload_n 1, 1) := by decide +kernel
theorem dX4_copyFrom_1 : decode cX4_copyFrom 1 = .ok (.getfield 11, 3) := by decide +kernel
theorem dX4_copyFrom_4 : decode cX4_copyFrom 4 = .ok (.iconst 0, 1) := by decide +kernel
theorem dX4_copyFrom_5 : decode cX4_copyFrom 5 = .ok (.aload_n 0, 1) := by decide +kernel
theorem dX4_copyFrom_6 : decode cX4_copyFrom 6 = .ok (.getfield 11, 3) := by decide +kernel
theorem dX4_copyFrom_9 : decode cX4_copyFrom 9 = .ok (.iconst 0, 1) := by decide +kernel
theorem dX4_copyFrom_10 : decode cX4_copyFrom 10 = .ok (.bipush 40, 2) := by decide +kernel
theorem dX4_copyFrom_12 : decode cX4_copyFrom 12 = .ok (.invokestatic 28, 3) := by decide +kernel
theorem dX4_copyFrom_15 : decode cX4_copyFrom 15 = .ok (.aload_n 1, 1) := by decide +kernel
theorem dX4_copyFrom_16 : decode cX4_copyFrom 16 = .ok (.getfield 15, 3) := by decide +kernel
theorem dX4_copyFrom_19 : decode cX4_copyFrom 19 = .ok (.iconst 0, 1) := by decide +kernel
theorem dX4_copyFrom_20 : decode cX4_copyFrom 20 = .ok (.aload_n 0, 1) := by decide +kernel
theorem dX4_copyFrom_21 : decode cX4_copyFrom 21 = .ok (.getfield 15, 3) := by decide +kernel
theorem dX4_copyFrom_24 : decode cX4_copyFrom 24 = .ok (.iconst 0, 1) := by decide +kernel
theorem dX4_copyFrom_25 : decode cX4_copyFrom 25 = .ok (.bipush 40, 2) := by decide +kernel
theorem dX4_copyFrom_27 : decode cX4_copyFrom 27 = .ok (.invokestatic 28, 3) := by decide +kernel
theorem dX4_copyFrom_30 : decode cX4_copyFrom 30 = .ok (.aload_n 1, 1) := by decide +kernel
theorem dX4_copyFrom_31 : decode cX4_copyFrom 31 = .ok (.getfield 18, 3) := by decide +kernel
theorem dX4_copyFrom_34 : decode cX4_copyFrom 34 = .ok (.iconst 0, 1) := by decide +kernel
theorem dX4_copyFrom_35 : decode cX4_copyFrom 35 = .ok (.aload_n 0, 1) := by decide +kernel
theorem dX4_copyFrom_36 : decode cX4_copyFrom 36 = .ok (.getfield 18, 3) := by decide +kernel
theorem dX4_copyFrom_39 : decode cX4_copyFrom 39 = .ok (.iconst 0, 1) := by decide +kernel
theorem dX4_copyFrom_40 : decode cX4_copyFrom 40 = .ok (.bipush 40, 2) := by decide +kernel
theorem dX4_copyFrom_42 : decode cX4_copyFrom 42 = .ok (.invokestatic 28, 3) := by decide +kernel
theorem dX4_copyFrom_45 : decode cX4_copyFrom 45 = .ok (.aload_n 1, 1) := by decide +kernel
theorem dX4_copyFrom_46 : decode cX4_copyFrom 46 = .ok (.getfield 21, 3) := by decide +kernel
theorem dX4_copyFrom_49 : decode cX4_copyFrom 49 = .ok (.iconst 0, 1) := by decide +kernel
theorem dX4_copyFrom_50 : decode cX4_copyFrom 50 = .ok (.aload_n 0, 1) := by decide +kernel
theorem dX4_copyFrom_51 : decode cX4_copyFrom 51 = .ok (.getfield 21, 3) := by decide +kernel
theorem dX4_copyFrom_54 : decode cX4_copyFrom 54 = .ok (.iconst 0, 1) := by decide +kernel
theorem dX4_copyFrom_55 : decode cX4_copyFrom 55 = .ok (.bipush 40, 2) := by decide +kernel
theorem dX4_copyFrom_57 : decode cX4_copyFrom 57 = .ok (.invokestatic 28, 3) := by decide +kernel
theorem dX4_copyFrom_60 : decode cX4_copyFrom 60 = .ok (.aload_n 0, 1) := by decide +kernel
theorem dX4_copyFrom_61 : decode cX4_copyFrom 61 = .ok (.aload_n 1, 1) := by decide +kernel
theorem dX4_copyFrom_62 : decode cX4_copyFrom 62 = .ok (.getfield 24, 3) := by decide +kernel
theorem dX4_copyFrom_65 : decode cX4_copyFrom 65 = .ok (.putfield 24, 3) := by decide +kernel
theorem dX4_copyFrom_68 : decode cX4_copyFrom 68 = .ok (.return_, 1) := by decide +kernel
theorem dX5_init_0 : decode cX5_init 0 = .ok (.aload_n 0, 1) := by decide +kernel
theorem dX5_init_1 : decode cX5_init 1 = .ok (.invokespecial 3, 3) := by decide +kernel
theorem dX5_init_4 : decode cX5_init 4 = .ok (.aload_n 0, 1) := by decide +kernel
theorem dX5_init_5 : decode cX5_init 5 = .ok (.bipush 20, 2) := by decide +kernel
theorem dX5_init_7 : decode cX5_init 7 = .ok (.newarray .int, 2) := by decide +kernel
theorem dX5_init_9 : decode cX5_init 9 = .ok (.putfield 11, 3) := by decide +kernel
theorem dX5_init_12 : decode cX5_init 12 = .ok (.return_, 1) := by decide +kernel
theorem dX5_clear_0 : decode cX5_clear 0 = .ok (.iconst 0, 1) := by decide +kernel
theorem dX5_clear_1 : decode cX5_clear 1 = .ok (.istore_n 1, 1) := by decide +kernel
theorem dX5_clear_2 : decode cX5_clear 2 = .ok (.iload_n 1, 1) := by decide +kernel
theorem dX5_clear_3 : decode cX5_clear 3 = .ok (.bipush 20, 2) := by decide +kernel
theorem dX5_clear_5 : decode cX5_clear 5 = .ok (.if_icmp .ge 16, 3) := by decide +kernel
theorem dX5_clear_8 : decode cX5_clear 8 = .ok (.aload_n 0, 1) := by decide +kernel
theorem dX5_clear_9 : decode cX5_clear 9 = .ok (.getfield 11, 3) := by decide +kernel
theorem dX5_clear_12 : decode cX5_clear 12 = .ok (.iload_n 1, 1) := by decide +kernel
theorem dX5_clear_13 : decode cX5_clear 13 = .ok (.iconst 0, 1) := by decide +kernel
theorem dX5_clear_14 : decode cX5_clear 14 = .ok (.iastore, 1) := by decide +kernel
theorem dX5_clear_15 : decode cX5_clear 15 = .ok (.iinc 1 1, 3) := by decide +kernel
theorem dX5_clear_18 : decode cX5_clear 18 = .ok (.goto (-16), 3) := by decide +kernel
theorem dX5_clear_21 : decode cX5_clear 21 = .ok (.return_, 1) := by decide +kernel
theorem dX5_copyFrom_0 : decode cX5_copyFrom 0 = .ok (.aload_n 1, 1) := by decide +kernel
theorem dX5_copyFrom_1 : decode cX5_copyFrom 1 = .ok (.getfield 11, 3) := by decide +kernel
theorem dX5_copyFrom_4 : decode cX5_copyFrom 4 = .ok (.iconst 0, 1) := by decide +kernel
theorem dX5_copyFrom_5 : decode cX5_copyFrom 5 = .ok (.aload_n 0, 1) := by decide +kernel
theorem dX5_copyFrom_6 : decode cX5_copyFrom 6 = .ok (.getfield 11, 3) := by decide +kernel
theorem dX5_copyFrom_9 : decode cX5_copyFrom 9 = .ok (.iconst 0, 1) := by decide +kernel
theorem dX5_copyFrom_10 : decode cX5_copyFrom 10 = .ok (.bipush 20, 2) := by decide +kernel
theorem dX5_copyFrom_12 : decode cX5_copyFrom 12 = .ok (.invokestatic 15, 3) := by decide +kernel
theorem dX5_copyFrom_15 : decode cX5_copyFrom 15 = .ok (.return_, 1) := by decide +kernel
theorem dX5_cellAt_0 : decode cX5_cellAt 0 = .ok (.iload_n 1, 1) := by decide +kernel
theorem dX5_cellAt_1 : decode cX5_cellAt 1 = .ok (.invokestatic 21, 3) := by decide +kernel
theorem dX5_cellAt_4 : decode cX5_cellAt 4 = .ok (.ifCond .eq 12, 3) := by decide +kernel
theorem dX5_cellAt_7 : decode cX5_cellAt 7 = .ok (.aload_n 0, 1) := by decide +kernel
theorem dX5_cellAt_8 : decode cX5_cellAt 8 = .ok (.getfield 11, 3) := by decide +kernel
theorem dX5_cellAt_11 : decode cX5_cellAt 11 = .ok (.iload_n 1, 1) := by decide +kernel
theorem dX5_cellAt_12 : decode cX5_cellAt 12 = .ok (.iaload, 1) := by decide +kernel
theorem dX5_cellAt_13 : decode cX5_cellAt 13 = .ok (.goto 5, 3) := by decide +kernel
theorem dX5_cellAt_16 : decode cX5_cellAt 16 = .ok (.ldc 25, 2) := by decide +kernel
theorem dX5_cellAt_18 : decode cX5_cellAt 18 = .ok (.ireturn, 1) := by decide +kernel
theorem dX5_latestOf_0 : decode cX5_latestOf 0 = .ok (.iload_n 1, 1) := by decide +kernel
theorem dX5_latestOf_1 : decode cX5_latestOf 1 = .ok (.invokestatic 26, 3) := by decide +kernel
theorem dX5_latestOf_4 : decode cX5_latestOf 4 = .ok (.ifCond .eq 15, 3) := by decide +kernel
theorem dX5_latestOf_7 : decode cX5_latestOf 7 = .ok (.aload_n 0, 1) := by decide +kernel
theorem dX5_latestOf_8 : decode cX5_latestOf 8 = .ok (.getfield 11, 3) := by decide +kernel
theorem dX5_latestOf_11 : decode cX5_latestOf 11 = .ok (.bipush 8, 2) := by decide +kernel
theorem dX5_latestOf_13 : decode cX5_latestOf 13 = .ok (.iload_n 1, 1) := by decide +kernel
theorem dX5_latestOf_14 : decode cX5_latestOf 14 = .ok (.iadd, 1) := by decide +kernel
theorem dX5_latestOf_15 : decode cX5_latestOf 15 = .ok (.iaload, 1) := by decide +kernel
theorem dX5_latestOf_16 : decode cX5_latestOf 16 = .ok (.goto 5, 3) := by decide +kernel
theorem dX5_latestOf_19 : decode cX5_latestOf 19 = .ok (.ldc 25, 2) := by decide +kernel
theorem dX5_latestOf_21 : decode cX5_latestOf 21 = .ok (.ireturn, 1) := by decide +kernel
theorem dX5_answerOf_0 : decode cX5_answerOf 0 = .ok (.iload_n 1, 1) := by decide +kernel
theorem dX5_answerOf_1 : decode cX5_answerOf 1 = .ok (.invokestatic 26, 3) := by decide +kernel
theorem dX5_answerOf_4 : decode cX5_answerOf 4 = .ok (.ifCond .eq 15, 3) := by decide +kernel
theorem dX5_answerOf_7 : decode cX5_answerOf 7 = .ok (.aload_n 0, 1) := by decide +kernel
theorem dX5_answerOf_8 : decode cX5_answerOf 8 = .ok (.getfield 11, 3) := by decide +kernel
theorem dX5_answerOf_11 : decode cX5_answerOf 11 = .ok (.bipush 14, 2) := by decide +kernel
theorem dX5_answerOf_13 : decode cX5_answerOf 13 = .ok (.iload_n 1, 1) := by decide +kernel
theorem dX5_answerOf_14 : decode cX5_answerOf 14 = .ok (.iadd, 1) := by decide +kernel
theorem dX5_answerOf_15 : decode cX5_answerOf 15 = .ok (.iaload, 1) := by decide +kernel
theorem dX5_answerOf_16 : decode cX5_answerOf 16 = .ok (.goto 5, 3) := by decide +kernel
theorem dX5_answerOf_19 : decode cX5_answerOf 19 = .ok (.ldc 25, 2) := by decide +kernel
theorem dX5_answerOf_21 : decode cX5_answerOf 21 = .ok (.ireturn, 1) := by decide +kernel
theorem dX5_take_0 : decode cX5_take 0 = .ok (.iload_n 2, 1) := by decide +kernel
theorem dX5_take_1 : decode cX5_take 1 = .ok (.ifCond .lt 12, 3) := by decide +kernel
theorem dX5_take_4 : decode cX5_take 4 = .ok (.iload_n 2, 1) := by decide +kernel
theorem dX5_take_5 : decode cX5_take 5 = .ok (.aload_n 1, 1) := by decide +kernel
theorem dX5_take_6 : decode cX5_take 6 = .ok (.arraylength, 1) := by decide +kernel
theorem dX5_take_7 : decode cX5_take 7 = .ok (.bipush 6, 2) := by decide +kernel
theorem dX5_take_9 : decode cX5_take 9 = .ok (.isub, 1) := by decide +kernel
theorem dX5_take_10 : decode cX5_take 10 = .ok (.if_icmp .le 4, 3) := by decide +kernel
theorem dX5_take_13 : decode cX5_take 13 = .ok (.return_, 1) := by decide +kernel
theorem dX5_take_14 : decode cX5_take 14 = .ok (.aload_n 1, 1) := by decide +kernel
theorem dX5_take_15 : decode cX5_take 15 = .ok (.iload_n 2, 1) := by decide +kernel
theorem dX5_take_16 : decode cX5_take 16 = .ok (.iconst 1, 1) := by decide +kernel
theorem dX5_take_17 : decode cX5_take 17 = .ok (.iadd, 1) := by decide +kernel
theorem dX5_take_18 : decode cX5_take 18 = .ok (.iaload, 1) := by decide +kernel
theorem dX5_take_19 : decode cX5_take 19 = .ok (.istore_n 3, 1) := by decide +kernel
theorem dX5_take_20 : decode cX5_take 20 = .ok (.aload_n 1, 1) := by decide +kernel
theorem dX5_take_21 : decode cX5_take 21 = .ok (.iload_n 2, 1) := by decide +kernel
theorem dX5_take_22 : decode cX5_take 22 = .ok (.iconst 4, 1) := by decide +kernel
theorem dX5_take_23 : decode cX5_take 23 = .ok (.iadd, 1) := by decide +kernel
theorem dX5_take_24 : decode cX5_take 24 = .ok (.iaload, 1) := by decide +kernel
theorem dX5_take_25 : decode cX5_take 25 = .ok (.istore 4, 2) := by decide +kernel
theorem dX5_take_27 : decode cX5_take 27 = .ok (.iload_n 3, 1) := by decide +kernel
theorem dX5_take_28 : decode cX5_take 28 = .ok (.invokestatic 26, 3) := by decide +kernel
theorem dX5_take_31 : decode cX5_take 31 = .ok (.ifCond .eq 28, 3) := by decide +kernel
theorem dX5_take_34 : decode cX5_take 34 = .ok (.iload 4, 2) := by decide +kernel
theorem dX5_take_36 : decode cX5_take 36 = .ok (.invokestatic 21, 3) := by decide +kernel
theorem dX5_take_39 : decode cX5_take 39 = .ok (.ifCond .eq 20, 3) := by decide +kernel
theorem dX5_take_42 : decode cX5_take 42 = .ok (.aload_n 1, 1) := by decide +kernel
theorem dX5_take_43 : decode cX5_take 43 = .ok (.iload_n 2, 1) := by decide +kernel
theorem dX5_take_44 : decode cX5_take 44 = .ok (.iconst 2, 1) := by decide +kernel
theorem dX5_take_45 : decode cX5_take 45 = .ok (.iadd, 1) := by decide +kernel
theorem dX5_take_46 : decode cX5_take 46 = .ok (.iaload, 1) := by decide +kernel
theorem dX5_take_47 : decode cX5_take 47 = .ok (.aload_n 0, 1) := by decide +kernel
theorem dX5_take_48 : decode cX5_take 48 = .ok (.getfield 11, 3) := by decide +kernel
theorem dX5_take_51 : decode cX5_take 51 = .ok (.bipush 8, 2) := by decide +kernel
theorem dX5_take_53 : decode cX5_take 53 = .ok (.iload_n 3, 1) := by decide +kernel
theorem dX5_take_54 : decode cX5_take 54 = .ok (.iadd, 1) := by decide +kernel
theorem dX5_take_55 : decode cX5_take 55 = .ok (.iaload, 1) := by decide +kernel
theorem dX5_take_56 : decode cX5_take 56 = .ok (.if_icmp .gt 4, 3) := by decide +kernel
theorem dX5_take_59 : decode cX5_take 59 = .ok (.return_, 1) := by decide +kernel
theorem dX5_take_60 : decode cX5_take 60 = .ok (.aload_n 1, 1) := by decide +kernel
theorem dX5_take_61 : decode cX5_take 61 = .ok (.iload_n 2, 1) := by decide +kernel
theorem dX5_take_62 : decode cX5_take 62 = .ok (.iconst 3, 1) := by decide +kernel
theorem dX5_take_63 : decode cX5_take 63 = .ok (.iadd, 1) := by decide +kernel
theorem dX5_take_64 : decode cX5_take 64 = .ok (.iaload, 1) := by decide +kernel
theorem dX5_take_65 : decode cX5_take 65 = .ok (.istore 5, 2) := by decide +kernel
theorem dX5_take_67 : decode cX5_take 67 = .ok (.aload_n 0, 1) := by decide +kernel
theorem dX5_take_68 : decode cX5_take 68 = .ok (.getfield 11, 3) := by decide +kernel
theorem dX5_take_71 : decode cX5_take 71 = .ok (.iload 4, 2) := by decide +kernel
theorem dX5_take_73 : decode cX5_take 73 = .ok (.iaload, 1) := by decide +kernel
theorem dX5_take_74 : decode cX5_take 74 = .ok (.istore 6, 2) := by decide +kernel
theorem dX5_take_76 : decode cX5_take 76 = .ok (.aload_n 0, 1) := by decide +kernel
theorem dX5_take_77 : decode cX5_take 77 = .ok (.getfield 11, 3) := by decide +kernel
theorem dX5_take_80 : decode cX5_take 80 = .ok (.iload 4, 2) := by decide +kernel
theorem dX5_take_82 : decode cX5_take 82 = .ok (.iload 5, 2) := by decide +kernel
theorem dX5_take_84 : decode cX5_take 84 = .ok (.iload 6, 2) := by decide +kernel
theorem dX5_take_86 : decode cX5_take 86 = .ok (.aload_n 1, 1) := by decide +kernel
theorem dX5_take_87 : decode cX5_take 87 = .ok (.iload_n 2, 1) := by decide +kernel
theorem dX5_take_88 : decode cX5_take 88 = .ok (.iconst 5, 1) := by decide +kernel
theorem dX5_take_89 : decode cX5_take 89 = .ok (.iadd, 1) := by decide +kernel
theorem dX5_take_90 : decode cX5_take 90 = .ok (.iaload, 1) := by decide +kernel
theorem dX5_take_91 : decode cX5_take 91 = .ok (.invokestatic 29, 3) := by decide +kernel
theorem dX5_take_94 : decode cX5_take 94 = .ok (.iastore, 1) := by decide +kernel
theorem dX5_take_95 : decode cX5_take 95 = .ok (.aload_n 0, 1) := by decide +kernel
theorem dX5_take_96 : decode cX5_take 96 = .ok (.getfield 11, 3) := by decide +kernel
theorem dX5_take_99 : decode cX5_take 99 = .ok (.bipush 8, 2) := by decide +kernel
theorem dX5_take_101 : decode cX5_take 101 = .ok (.iload_n 3, 1) := by decide +kernel
theorem dX5_take_102 : decode cX5_take 102 = .ok (.iadd, 1) := by decide +kernel
theorem dX5_take_103 : decode cX5_take 103 = .ok (.aload_n 1, 1) := by decide +kernel
theorem dX5_take_104 : decode cX5_take 104 = .ok (.iload_n 2, 1) := by decide +kernel
theorem dX5_take_105 : decode cX5_take 105 = .ok (.iconst 2, 1) := by decide +kernel
theorem dX5_take_106 : decode cX5_take 106 = .ok (.iadd, 1) := by decide +kernel
theorem dX5_take_107 : decode cX5_take 107 = .ok (.iaload, 1) := by decide +kernel
theorem dX5_take_108 : decode cX5_take 108 = .ok (.iastore, 1) := by decide +kernel
theorem dX5_take_109 : decode cX5_take 109 = .ok (.aload_n 0, 1) := by decide +kernel
theorem dX5_take_110 : decode cX5_take 110 = .ok (.getfield 11, 3) := by decide +kernel
theorem dX5_take_113 : decode cX5_take 113 = .ok (.bipush 14, 2) := by decide +kernel
theorem dX5_take_115 : decode cX5_take 115 = .ok (.iload_n 3, 1) := by decide +kernel
theorem dX5_take_116 : decode cX5_take 116 = .ok (.iadd, 1) := by decide +kernel
theorem dX5_take_117 : decode cX5_take 117 = .ok (.iload 5, 2) := by decide +kernel
theorem dX5_take_119 : decode cX5_take 119 = .ok (.iload 6, 2) := by decide +kernel
theorem dX5_take_121 : decode cX5_take 121 = .ok (.aload_n 0, 1) := by decide +kernel
theorem dX5_take_122 : decode cX5_take 122 = .ok (.getfield 11, 3) := by decide +kernel
theorem dX5_take_125 : decode cX5_take 125 = .ok (.iload 4, 2) := by decide +kernel
theorem dX5_take_127 : decode cX5_take 127 = .ok (.iaload, 1) := by decide +kernel
theorem dX5_take_128 : decode cX5_take 128 = .ok (.invokestatic 33, 3) := by decide +kernel
theorem dX5_take_131 : decode cX5_take 131 = .ok (.iastore, 1) := by decide +kernel
theorem dX5_take_132 : decode cX5_take 132 = .ok (.return_, 1) := by decide +kernel

theorem dX9_sends_17 : decode cX9_sends 17 = .ok (.iload 6, 2) := by decide +kernel
theorem dX9_sends_19 : decode cX9_sends 19 = .ok (.iload 7, 2) := by decide +kernel
theorem dX9_sends_21 : decode cX9_sends 21 = .ok (.iconst 0, 1) := by decide +kernel
theorem dX9_sends_22 : decode cX9_sends 22 = .ok (.invokevirtual 192, 3) := by decide +kernel
theorem dX9_sends_25 : decode cX9_sends 25 = .ok (.iinc 7 1, 3) := by decide +kernel
theorem dX9_sends_28 : decode cX9_sends 28 = .ok (.goto (-19), 3) := by decide +kernel
theorem dX9_sends_31 : decode cX9_sends 31 = .ok (.aload_n 0, 1) := by decide +kernel
theorem dX9_sends_32 : decode cX9_sends 32 = .ok (.iload 6, 2) := by decide +kernel
theorem dX9_sends_34 : decode cX9_sends 34 = .ok (.iconst 0, 1) := by decide +kernel
theorem dX9_sends_35 : decode cX9_sends 35 = .ok (.iload_n 1, 1) := by decide +kernel
theorem dX9_sends_36 : decode cX9_sends 36 = .ok (.invokevirtual 192, 3) := by decide +kernel
theorem dX9_sends_39 : decode cX9_sends 39 = .ok (.aload_n 0, 1) := by decide +kernel
theorem dX9_sends_40 : decode cX9_sends 40 = .ok (.iload 6, 2) := by decide +kernel
theorem dX9_sends_42 : decode cX9_sends 42 = .ok (.iconst 1, 1) := by decide +kernel
theorem dX9_sends_43 : decode cX9_sends 43 = .ok (.iload_n 2, 1) := by decide +kernel
theorem dX9_sends_44 : decode cX9_sends 44 = .ok (.invokevirtual 192, 3) := by decide +kernel
theorem dX9_sends_47 : decode cX9_sends 47 = .ok (.aload_n 0, 1) := by decide +kernel
theorem dX9_sends_48 : decode cX9_sends 48 = .ok (.iload 6, 2) := by decide +kernel
theorem dX9_sends_50 : decode cX9_sends 50 = .ok (.iconst 2, 1) := by decide +kernel
theorem dX9_sends_51 : decode cX9_sends 51 = .ok (.iload_n 3, 1) := by decide +kernel
theorem dX9_sends_52 : decode cX9_sends 52 = .ok (.invokevirtual 192, 3) := by decide +kernel
theorem dX9_sends_55 : decode cX9_sends 55 = .ok (.aload_n 0, 1) := by decide +kernel
theorem dX9_sends_56 : decode cX9_sends 56 = .ok (.iload 6, 2) := by decide +kernel
theorem dX9_sends_58 : decode cX9_sends 58 = .ok (.iconst 3, 1) := by decide +kernel
theorem dX9_sends_59 : decode cX9_sends 59 = .ok (.aload_n 0, 1) := by decide +kernel
theorem dX9_sends_60 : decode cX9_sends 60 = .ok (.iload_n 2, 1) := by decide +kernel
theorem dX9_sends_61 : decode cX9_sends 61 = .ok (.iconst 0, 1) := by decide +kernel
theorem dX9_sends_62 : decode cX9_sends 62 = .ok (.invokevirtual 146, 3) := by decide +kernel
theorem dX9_sends_65 : decode cX9_sends 65 = .ok (.invokevirtual 192, 3) := by decide +kernel
theorem dX9_sends_68 : decode cX9_sends 68 = .ok (.aload_n 0, 1) := by decide +kernel
theorem dX9_sends_69 : decode cX9_sends 69 = .ok (.iload 6, 2) := by decide +kernel
theorem dX9_sends_71 : decode cX9_sends 71 = .ok (.iconst 4, 1) := by decide +kernel
theorem dX9_sends_72 : decode cX9_sends 72 = .ok (.iload 4, 2) := by decide +kernel
theorem dX9_sends_74 : decode cX9_sends 74 = .ok (.invokevirtual 192, 3) := by decide +kernel
theorem dX9_sends_77 : decode cX9_sends 77 = .ok (.aload_n 0, 1) := by decide +kernel
theorem dX9_sends_78 : decode cX9_sends 78 = .ok (.iload 6, 2) := by decide +kernel
theorem dX9_sends_80 : decode cX9_sends 80 = .ok (.iconst 5, 1) := by decide +kernel
theorem dX9_sends_81 : decode cX9_sends 81 = .ok (.iload 5, 2) := by decide +kernel
theorem dX9_sends_83 : decode cX9_sends 83 = .ok (.invokevirtual 192, 3) := by decide +kernel
theorem dX9_sends_86 : decode cX9_sends 86 = .ok (.iload 6, 2) := by decide +kernel
theorem dX9_sends_88 : decode cX9_sends 88 = .ok (.ireturn, 1) := by decide +kernel
theorem dX9_ask_0 : decode cX9_ask 0 = .ok (.aload_n 0, 1) := by decide +kernel
theorem dX9_ask_1 : decode cX9_ask 1 = .ok (.iload_n 1, 1) := by decide +kernel
theorem dX9_ask_2 : decode cX9_ask 2 = .ok (.invokevirtual 150, 3) := by decide +kernel
theorem dX9_ask_5 : decode cX9_ask 5 = .ok (.ifCond .eq 37, 3) := by decide +kernel
theorem dX9_ask_8 : decode cX9_ask 8 = .ok (.aload_n 0, 1) := by decide +kernel
theorem dX9_ask_9 : decode cX9_ask 9 = .ok (.iload_n 1, 1) := by decide +kernel
theorem dX9_ask_10 : decode cX9_ask 10 = .ok (.invokevirtual 166, 3) := by decide +kernel
theorem dX9_ask_13 : decode cX9_ask 13 = .ok (.ifCond .eq 29, 3) := by decide +kernel
theorem dX9_ask_16 : decode cX9_ask 16 = .ok (.aload_n 0, 1) := by decide +kernel
theorem dX9_ask_17 : decode cX9_ask 17 = .ok (.iload_n 1, 1) := by decide +kernel
theorem dX9_ask_18 : decode cX9_ask 18 = .ok (.iconst 5, 1) := by decide +kernel
theorem dX9_ask_19 : decode cX9_ask 19 = .ok (.invokevirtual 146, 3) := by decide +kernel
theorem dX9_ask_22 : decode cX9_ask 22 = .ok (.iconst 2, 1) := by decide +kernel
theorem dX9_ask_23 : decode cX9_ask 23 = .ok (.if_icmp .eq 19, 3) := by decide +kernel
theorem dX9_ask_26 : decode cX9_ask 26 = .ok (.bipush 40, 2) := by decide +kernel
theorem dX9_ask_28 : decode cX9_ask 28 = .ok (.aload_n 0, 1) := by decide +kernel
theorem dX9_ask_29 : decode cX9_ask 29 = .ok (.invokevirtual 195, 3) := by decide +kernel
theorem dX9_ask_32 : decode cX9_ask 32 = .ok (.isub, 1) := by decide +kernel
theorem dX9_ask_33 : decode cX9_ask 33 = .ok (.aload_n 0, 1) := by decide +kernel
theorem dX9_ask_34 : decode cX9_ask 34 = .ok (.invokevirtual 136, 3) := by decide +kernel
theorem dX9_ask_37 : decode cX9_ask 37 = .ok (.iconst 1, 1) := by decide +kernel
theorem dX9_ask_38 : decode cX9_ask 38 = .ok (.isub, 1) := by decide +kernel
theorem dX9_ask_39 : decode cX9_ask 39 = .ok (.if_icmp .ge 5, 3) := by decide +kernel
theorem dX9_ask_42 : decode cX9_ask 42 = .ok (.iconst (-1), 1) := by decide +kernel
theorem dX9_ask_43 : decode cX9_ask 43 = .ok (.ireturn, 1) := by decide +kernel
theorem dX9_ask_44 : decode cX9_ask 44 = .ok (.aload_n 0, 1) := by decide +kernel
theorem dX9_ask_45 : decode cX9_ask 45 = .ok (.iload_n 1, 1) := by decide +kernel
theorem dX9_ask_46 : decode cX9_ask 46 = .ok (.iconst 0, 1) := by decide +kernel
theorem dX9_ask_47 : decode cX9_ask 47 = .ok (.aload_n 0, 1) := by decide +kernel
theorem dX9_ask_48 : decode cX9_ask 48 = .ok (.iload_n 1, 1) := by decide +kernel
theorem dX9_ask_49 : decode cX9_ask 49 = .ok (.iconst 0, 1) := by decide +kernel
theorem dX9_ask_50 : decode cX9_ask 50 = .ok (.invokevirtual 146, 3) := by decide +kernel
theorem dX9_ask_53 : decode cX9_ask 53 = .ok (.iconst 1, 1) := by decide +kernel
theorem dX9_ask_54 : decode cX9_ask 54 = .ok (.iadd, 1) := by decide +kernel
theorem dX9_ask_55 : decode cX9_ask 55 = .ok (.invokevirtual 139, 3) := by decide +kernel
theorem dX9_ask_58 : decode cX9_ask 58 = .ok (.aload_n 0, 1) := by decide +kernel
theorem dX9_ask_59 : decode cX9_ask 59 = .ok (.iload_n 1, 1) := by decide +kernel
theorem dX9_ask_60 : decode cX9_ask 60 = .ok (.iconst 1, 1) := by decide +kernel
theorem dX9_ask_61 : decode cX9_ask 61 = .ok (.iload_n 1, 1) := by decide +kernel
theorem dX9_ask_62 : decode cX9_ask 62 = .ok (.invokevirtual 139, 3) := by decide +kernel
theorem dX9_ask_65 : decode cX9_ask 65 = .ok (.aload_n 0, 1) := by decide +kernel
theorem dX9_ask_66 : decode cX9_ask 66 = .ok (.iload_n 1, 1) := by decide +kernel
theorem dX9_ask_67 : decode cX9_ask 67 = .ok (.iconst 5, 1) := by decide +kernel
theorem dX9_ask_68 : decode cX9_ask 68 = .ok (.iconst 1, 1) := by decide +kernel
theorem dX9_ask_69 : decode cX9_ask 69 = .ok (.invokevirtual 139, 3) := by decide +kernel
theorem dX9_ask_72 : decode cX9_ask 72 = .ok (.aload_n 0, 1) := by decide +kernel
theorem dX9_ask_73 : decode cX9_ask 73 = .ok (.iload_n 1, 1) := by decide +kernel
theorem dX9_ask_74 : decode cX9_ask 74 = .ok (.bipush 7, 2) := by decide +kernel
theorem dX9_ask_76 : decode cX9_ask 76 = .ok (.iconst 1, 1) := by decide +kernel
theorem dX9_ask_77 : decode cX9_ask 77 = .ok (.iload_n 1, 1) := by decide +kernel
theorem dX9_ask_78 : decode cX9_ask 78 = .ok (.ishl, 1) := by decide +kernel
theorem dX9_ask_79 : decode cX9_ask 79 = .ok (.invokevirtual 139, 3) := by decide +kernel
theorem dX9_ask_82 : decode cX9_ask 82 = .ok (.iconst 0, 1) := by decide +kernel
theorem dX9_ask_83 : decode cX9_ask 83 = .ok (.istore_n 2, 1) := by decide +kernel
theorem dX9_ask_84 : decode cX9_ask 84 = .ok (.iload_n 2, 1) := by decide +kernel
theorem dX9_ask_85 : decode cX9_ask 85 = .ok (.aload_n 0, 1) := by decide +kernel
theorem dX9_ask_86 : decode cX9_ask 86 = .ok (.invokevirtual 128, 3) := by decide +kernel
theorem dX9_ask_89 : decode cX9_ask 89 = .ok (.if_icmp .ge 47, 3) := by decide +kernel
theorem dX9_ask_92 : decode cX9_ask 92 = .ok (.iload_n 2, 1) := by decide +kernel
theorem dX9_ask_93 : decode cX9_ask 93 = .ok (.iload_n 1, 1) := by decide +kernel
theorem dX9_ask_94 : decode cX9_ask 94 = .ok (.if_icmp .eq 36, 3) := by decide +kernel
theorem dX9_ask_97 : decode cX9_ask 97 = .ok (.aload_n 0, 1) := by decide +kernel
theorem dX9_ask_98 : decode cX9_ask 98 = .ok (.iload_n 2, 1) := by decide +kernel
theorem dX9_ask_99 : decode cX9_ask 99 = .ok (.invokevirtual 166, 3) := by decide +kernel
theorem dX9_ask_102 : decode cX9_ask 102 = .ok (.ifCond .eq 28, 3) := by decide +kernel
theorem dX9_ask_105 : decode cX9_ask 105 = .ok (.aload_n 0, 1) := by decide +kernel
theorem dX9_ask_106 : decode cX9_ask 106 = .ok (.iconst 0, 1) := by decide +kernel
theorem dX9_ask_107 : decode cX9_ask 107 = .ok (.iload_n 1, 1) := by decide +kernel
theorem dX9_ask_108 : decode cX9_ask 108 = .ok (.iload_n 2, 1) := by decide +kernel
theorem dX9_ask_109 : decode cX9_ask 109 = .ok (.aload_n 0, 1) := by decide +kernel
theorem dX9_ask_110 : decode cX9_ask 110 = .ok (.iload_n 1, 1) := by decide +kernel
theorem dX9_ask_111 : decode cX9_ask 111 = .ok (.iconst 4, 1) := by decide +kernel
theorem dX9_ask_112 : decode cX9_ask 112 = .ok (.invokevirtual 146, 3) := by decide +kernel
theorem dX9_ask_115 : decode cX9_ask 115 = .ok (.aload_n 0, 1) := by decide +kernel
theorem dX9_ask_116 : decode cX9_ask 116 = .ok (.iload_n 1, 1) := by decide +kernel
theorem dX9_ask_117 : decode cX9_ask 117 = .ok (.aload_n 0, 1) := by decide +kernel
theorem dX9_ask_118 : decode cX9_ask 118 = .ok (.iload_n 1, 1) := by decide +kernel
theorem dX9_ask_119 : decode cX9_ask 119 = .ok (.iconst 4, 1) := by decide +kernel
theorem dX9_ask_120 : decode cX9_ask 120 = .ok (.invokevirtual 146, 3) := by decide +kernel
theorem dX9_ask_123 : decode cX9_ask 123 = .ok (.invokevirtual 172, 3) := by decide +kernel
theorem dX9_ask_126 : decode cX9_ask 126 = .ok (.invokevirtual 198, 3) := by decide +kernel
theorem dX9_ask_129 : decode cX9_ask 129 = .ok (.pop, 1) := by decide +kernel
theorem dX9_ask_130 : decode cX9_ask 130 = .ok (.iinc 2 1, 3) := by decide +kernel
theorem dX9_ask_133 : decode cX9_ask 133 = .ok (.goto (-49), 3) := by decide +kernel
theorem dX9_ask_136 : decode cX9_ask 136 = .ok (.aload_n 0, 1) := by decide +kernel
theorem dX9_ask_137 : decode cX9_ask 137 = .ok (.iload_n 1, 1) := by decide +kernel
theorem dX9_ask_138 : decode cX9_ask 138 = .ok (.invokevirtual 202, 3) := by decide +kernel
theorem dX9_ask_141 : decode cX9_ask 141 = .ok (.aload_n 0, 1) := by decide +kernel
theorem dX9_ask_142 : decode cX9_ask 142 = .ok (.iload_n 1, 1) := by decide +kernel
theorem dX9_ask_143 : decode cX9_ask 143 = .ok (.iconst 0, 1) := by decide +kernel
theorem dX9_ask_144 : decode cX9_ask 144 = .ok (.invokevirtual 146, 3) := by decide +kernel
theorem dX9_ask_147 : decode cX9_ask 147 = .ok (.ireturn, 1) := by decide +kernel
theorem dX9_append_0 : decode cX9_append 0 = .ok (.aload_n 0, 1) := by decide +kernel
theorem dX9_append_1 : decode cX9_append 1 = .ok (.iload_n 1, 1) := by decide +kernel
theorem dX9_append_2 : decode cX9_append 2 = .ok (.invokevirtual 205, 3) := by decide +kernel
theorem dX9_append_5 : decode cX9_append 5 = .ok (.ifCond .eq 23, 3) := by decide +kernel
theorem dX9_append_8 : decode cX9_append 8 = .ok (.aload_n 0, 1) := by decide +kernel
theorem dX9_append_9 : decode cX9_append 9 = .ok (.iload_n 2, 1) := by decide +kernel
theorem dX9_append_10 : decode cX9_append 10 = .ok (.invokevirtual 143, 3) := by decide +kernel
theorem dX9_append_13 : decode cX9_append 13 = .ok (.ifCond .eq 15, 3) := by decide +kernel
theorem dX9_append_16 : decode cX9_append 16 = .ok (.iload_n 1, 1) := by decide +kernel
theorem dX9_append_17 : decode cX9_append 17 = .ok (.iload_n 2, 1) := by decide +kernel
theorem dX9_append_18 : decode cX9_append 18 = .ok (.if_icmp .eq 10, 3) := by decide +kernel
theorem dX9_append_21 : decode cX9_append 21 = .ok (.aload_n 0, 1) := by decide +kernel
theorem dX9_append_22 : decode cX9_append 22 = .ok (.invokevirtual 189, 3) := by decide +kernel
theorem dX9_append_25 : decode cX9_append 25 = .ok (.ifCond .ge 5, 3) := by decide +kernel
theorem dX9_append_28 : decode cX9_append 28 = .ok (.iconst (-1), 1) := by decide +kernel
theorem dX9_append_29 : decode cX9_append 29 = .ok (.ireturn, 1) := by decide +kernel
theorem dX9_append_30 : decode cX9_append 30 = .ok (.aload_n 0, 1) := by decide +kernel
theorem dX9_append_31 : decode cX9_append 31 = .ok (.iload_n 1, 1) := by decide +kernel
theorem dX9_append_32 : decode cX9_append 32 = .ok (.bipush 8, 2) := by decide +kernel
theorem dX9_append_34 : decode cX9_append 34 = .ok (.aload_n 0, 1) := by decide +kernel
theorem dX9_append_35 : decode cX9_append 35 = .ok (.iload_n 1, 1) := by decide +kernel
theorem dX9_append_36 : decode cX9_append 36 = .ok (.bipush 8, 2) := by decide +kernel
theorem dX9_append_38 : decode cX9_append 38 = .ok (.invokevirtual 146, 3) := by decide +kernel
theorem dX9_append_41 : decode cX9_append 41 = .ok (.iconst 1, 1) := by decide +kernel
theorem dX9_append_42 : decode cX9_append 42 = .ok (.iadd, 1) := by decide +kernel
theorem dX9_append_43 : decode cX9_append 43 = .ok (.invokevirtual 139, 3) := by decide +kernel
theorem dX9_append_46 : decode cX9_append 46 = .ok (.aload_n 0, 1) := by decide +kernel
theorem dX9_append_47 : decode cX9_append 47 = .ok (.iload_n 1, 1) := by decide +kernel
theorem dX9_append_48 : decode cX9_append 48 = .ok (.bipush 50, 2) := by decide +kernel
theorem dX9_append_50 : decode cX9_append 50 = .ok (.iload_n 2, 1) := by decide +kernel
theorem dX9_append_51 : decode cX9_append 51 = .ok (.iadd, 1) := by decide +kernel
theorem dX9_append_52 : decode cX9_append 52 = .ok (.invokevirtual 146, 3) := by decide +kernel
theorem dX9_append_55 : decode cX9_append 55 = .ok (.istore_n 3, 1) := by decide +kernel
theorem dX9_append_56 : decode cX9_append 56 = .ok (.iload_n 3, 1) := by decide +kernel
theorem dX9_append_57 : decode cX9_append 57 = .ok (.aload_n 0, 1) := by decide +kernel
theorem dX9_append_58 : decode cX9_append 58 = .ok (.iload_n 1, 1) := by decide +kernel
theorem dX9_append_59 : decode cX9_append 59 = .ok (.iconst 2, 1) := by decide +kernel
theorem dX9_append_60 : decode cX9_append 60 = .ok (.invokevirtual 146, 3) := by decide +kernel
theorem dX9_append_63 : decode cX9_append 63 = .ok (.if_icmp .gt 7, 3) := by decide +kernel
theorem dX9_append_66 : decode cX9_append 66 = .ok (.iconst 1, 1) := by decide +kernel
theorem dX9_append_67 : decode cX9_append 67 = .ok (.goto 4, 3) := by decide +kernel
theorem dX9_append_70 : decode cX9_append 70 = .ok (.iconst 0, 1) := by decide +kernel
theorem dX9_append_71 : decode cX9_append 71 = .ok (.istore 4, 2) := by decide +kernel
theorem dX9_append_73 : decode cX9_append 73 = .ok (.iload 4, 2) := by decide +kernel
theorem dX9_append_75 : decode cX9_append 75 = .ok (.ifCond .eq 25, 3) := by decide +kernel
theorem dX9_append_78 : decode cX9_append 78 = .ok (.aload_n 0, 1) := by decide +kernel
theorem dX9_append_79 : decode cX9_append 79 = .ok (.iconst 4, 1) := by decide +kernel
theorem dX9_append_80 : decode cX9_append 80 = .ok (.iload_n 1, 1) := by decide +kernel
theorem dX9_append_81 : decode cX9_append 81 = .ok (.iload_n 2, 1) := by decide +kernel
theorem dX9_append_82 : decode cX9_append 82 = .ok (.aload_n 0, 1) := by decide +kernel
theorem dX9_append_83 : decode cX9_append 83 = .ok (.iload_n 1, 1) := by decide +kernel
theorem dX9_append_84 : decode cX9_append 84 = .ok (.iconst 2, 1) := by decide +kernel
theorem dX9_append_85 : decode cX9_append 85 = .ok (.invokevirtual 146, 3) := by decide +kernel
theorem dX9_append_88 : decode cX9_append 88 = .ok (.aload_n 0, 1) := by decide +kernel
theorem dX9_append_89 : decode cX9_append 89 = .ok (.iload_n 1, 1) := by decide +kernel
theorem dX9_append_90 : decode cX9_append 90 = .ok (.iconst 3, 1) := by decide +kernel
theorem dX9_append_91 : decode cX9_append 91 = .ok (.invokevirtual 146, 3) := by decide +kernel
theorem dX9_append_94 : decode cX9_append 94 = .ok (.invokevirtual 198, 3) := by decide +kernel
theorem dX9_append_97 : decode cX9_append 97 = .ok (.goto 21, 3) := by decide +kernel
theorem dX9_append_100 : decode cX9_append 100 = .ok (.aload_n 0, 1) := by decide +kernel
theorem dX9_append_101 : decode cX9_append 101 = .ok (.iconst 2, 1) := by decide +kernel
theorem dX9_append_102 : decode cX9_append 102 = .ok (.iload_n 1, 1) := by decide +kernel
theorem dX9_append_103 : decode cX9_append 103 = .ok (.iload_n 2, 1) := by decide +kernel
theorem dX9_append_104 : decode cX9_append 104 = .ok (.iload_n 3, 1) := by decide +kernel
theorem dX9_append_105 : decode cX9_append 105 = .ok (.iconst 1, 1) := by decide +kernel
theorem dX9_append_106 : decode cX9_append 106 = .ok (.isub, 1) := by decide +kernel
theorem dX9_append_107 : decode cX9_append 107 = .ok (.aload_n 0, 1) := by decide +kernel
theorem dX9_append_108 : decode cX9_append 108 = .ok (.iload_n 1, 1) := by decide +kernel
theorem dX9_append_109 : decode cX9_append 109 = .ok (.iload_n 3, 1) := by decide +kernel
theorem dX9_append_110 : decode cX9_append 110 = .ok (.iconst 1, 1) := by decide +kernel
theorem dX9_append_111 : decode cX9_append 111 = .ok (.isub, 1) := by decide +kernel
theorem dX9_append_112 : decode cX9_append 112 = .ok (.invokevirtual 172, 3) := by decide +kernel
theorem dX9_append_115 : decode cX9_append 115 = .ok (.invokevirtual 198, 3) := by decide +kernel
theorem dX9_append_118 : decode cX9_append 118 = .ok (.istore 5, 2) := by decide +kernel
theorem dX9_append_120 : decode cX9_append 120 = .ok (.aload_n 0, 1) := by decide +kernel
theorem dX9_append_121 : decode cX9_append 121 = .ok (.iload 5, 2) := by decide +kernel
theorem dX9_append_123 : decode cX9_append 123 = .ok (.bipush 8, 2) := by decide +kernel
theorem dX9_append_125 : decode cX9_append 125 = .ok (.aload_n 0, 1) := by decide +kernel
theorem dX9_append_126 : decode cX9_append 126 = .ok (.iload_n 1, 1) := by decide +kernel
theorem dX9_append_127 : decode cX9_append 127 = .ok (.bipush 8, 2) := by decide +kernel
theorem dX9_append_129 : decode cX9_append 129 = .ok (.invokevirtual 146, 3) := by decide +kernel
theorem dX9_append_132 : decode cX9_append 132 = .ok (.invokevirtual 192, 3) := by decide +kernel
theorem dX9_append_135 : decode cX9_append 135 = .ok (.iload 4, 2) := by decide +kernel
theorem dX9_append_137 : decode cX9_append 137 = .ok (.ifCond .eq 32, 3) := by decide +kernel
theorem dX9_append_140 : decode cX9_append 140 = .ok (.aload_n 0, 1) := by decide +kernel
theorem dX9_append_141 : decode cX9_append 141 = .ok (.sipush 320, 3) := by decide +kernel
theorem dX9_append_144 : decode cX9_append 144 = .ok (.iload_n 1, 1) := by decide +kernel
theorem dX9_append_145 : decode cX9_append 145 = .ok (.imul, 1) := by decide +kernel
theorem dX9_append_146 : decode cX9_append 146 = .ok (.bipush 10, 2) := by decide +kernel
theorem dX9_append_148 : decode cX9_append 148 = .ok (.iadd, 1) := by decide +kernel
theorem dX9_append_149 : decode cX9_append 149 = .ok (.sipush 2240, 3) := by decide +kernel
theorem dX9_append_152 : decode cX9_append 152 = .ok (.bipush 64, 2) := by decide +kernel
theorem dX9_append_154 : decode cX9_append 154 = .ok (.iload 5, 2) := by decide +kernel
theorem dX9_append_156 : decode cX9_append 156 = .ok (.imul, 1) := by decide +kernel
theorem dX9_append_157 : decode cX9_append 157 = .ok (.iadd, 1) := by decide +kernel
theorem dX9_append_158 : decode cX9_append 158 = .ok (.bipush 10, 2) := by decide +kernel
theorem dX9_append_160 : decode cX9_append 160 = .ok (.iadd, 1) := by decide +kernel
theorem dX9_append_161 : decode cX9_append 161 = .ok (.bipush 20, 2) := by decide +kernel
theorem dX9_append_163 : decode cX9_append 163 = .ok (.invokevirtual 208, 3) := by decide +kernel
theorem dX9_append_166 : decode cX9_append 166 = .ok (.goto 103, 3) := by decide +kernel
theorem dX9_append_169 : decode cX9_append 169 = .ok (.aload_n 0, 1) := by decide +kernel
theorem dX9_append_170 : decode cX9_append 170 = .ok (.iload_n 1, 1) := by decide +kernel
theorem dX9_append_171 : decode cX9_append 171 = .ok (.iconst 4, 1) := by decide +kernel
theorem dX9_append_172 : decode cX9_append 172 = .ok (.invokevirtual 146, 3) := by decide +kernel
theorem dX9_append_175 : decode cX9_append 175 = .ok (.iload_n 3, 1) := by decide +kernel
theorem dX9_append_176 : decode cX9_append 176 = .ok (.isub, 1) := by decide +kernel
theorem dX9_append_177 : decode cX9_append 177 = .ok (.iconst 1, 1) := by decide +kernel
theorem dX9_append_178 : decode cX9_append 178 = .ok (.iadd, 1) := by decide +kernel
theorem dX9_append_179 : decode cX9_append 179 = .ok (.istore 6, 2) := by decide +kernel
theorem dX9_append_181 : decode cX9_append 181 = .ok (.iload 6, 2) := by decide +kernel
theorem dX9_append_183 : decode cX9_append 183 = .ok (.iconst 5, 1) := by decide +kernel
theorem dX9_append_184 : decode cX9_append 184 = .ok (.if_icmp .ge 8, 3) := by decide +kernel
theorem dX9_append_187 : decode cX9_append 187 = .ok (.iload 6, 2) := by decide +kernel
theorem dX9_append_189 : decode cX9_append 189 = .ok (.goto 4, 3) := by decide +kernel
theorem dX9_append_192 : decode cX9_append 192 = .ok (.iconst 5, 1) := by decide +kernel
theorem dX9_append_193 : decode cX9_append 193 = .ok (.istore 6, 2) := by decide +kernel
theorem dX9_append_195 : decode cX9_append 195 = .ok (.aload_n 0, 1) := by decide +kernel
theorem dX9_append_196 : decode cX9_append 196 = .ok (.iload 5, 2) := by decide +kernel
theorem dX9_append_198 : decode cX9_append 198 = .ok (.bipush 6, 2) := by decide +kernel
theorem dX9_append_200 : decode cX9_append 200 = .ok (.iload 6, 2) := by decide +kernel
theorem dX9_append_202 : decode cX9_append 202 = .ok (.invokevirtual 192, 3) := by decide +kernel
theorem dX9_append_205 : decode cX9_append 205 = .ok (.aload_n 0, 1) := by decide +kernel
theorem dX9_append_206 : decode cX9_append 206 = .ok (.iload 5, 2) := by decide +kernel
theorem dX9_append_208 : decode cX9_append 208 = .ok (.bipush 7, 2) := by decide +kernel
theorem dX9_append_210 : decode cX9_append 210 = .ok (.aload_n 0, 1) := by decide +kernel
theorem dX9_append_211 : decode cX9_append 211 = .ok (.iload_n 1, 1) := by decide +kernel
theorem dX9_append_212 : decode cX9_append 212 = .ok (.bipush 6, 2) := by decide +kernel
theorem dX9_append_214 : decode cX9_append 214 = .ok (.invokevirtual 146, 3) := by decide +kernel
theorem dX9_append_217 : decode cX9_append 217 = .ok (.invokevirtual 192, 3) := by decide +kernel
theorem dX9_append_220 : decode cX9_append 220 = .ok (.iconst 0, 1) := by decide +kernel
theorem dX9_append_221 : decode cX9_append 221 = .ok (.istore 7, 2) := by decide +kernel
theorem dX9_append_223 : decode cX9_append 223 = .ok (.iload 7, 2) := by decide +kernel
theorem dX9_append_225 : decode cX9_append 225 = .ok (.iload 6, 2) := by decide +kernel
theorem dX9_append_227 : decode cX9_append 227 = .ok (.if_icmp .ge 42, 3) := by decide +kernel
theorem dX9_append_230 : decode cX9_append 230 = .ok (.aload_n 0, 1) := by decide +kernel
theorem dX9_append_231 : decode cX9_append 231 = .ok (.aload_n 0, 1) := by decide +kernel
theorem dX9_append_232 : decode cX9_append 232 = .ok (.iload_n 1, 1) := by decide +kernel
theorem dX9_append_233 : decode cX9_append 233 = .ok (.iload_n 3, 1) := by decide +kernel
theorem dX9_append_234 : decode cX9_append 234 = .ok (.iload 7, 2) := by decide +kernel
theorem dX9_append_236 : decode cX9_append 236 = .ok (.iadd, 1) := by decide +kernel
theorem dX9_append_237 : decode cX9_append 237 = .ok (.invokevirtual 153, 3) := by decide +kernel
theorem dX9_append_240 : decode cX9_append 240 = .ok (.sipush 2240, 3) := by decide +kernel
theorem dX9_append_243 : decode cX9_append 243 = .ok (.bipush 64, 2) := by decide +kernel
theorem dX9_append_245 : decode cX9_append 245 = .ok (.iload 5, 2) := by decide +kernel
theorem dX9_append_247 : decode cX9_append 247 = .ok (.imul, 1) := by decide +kernel
theorem dX9_append_248 : decode cX9_append 248 = .ok (.iadd, 1) := by decide +kernel
theorem dX9_append_249 : decode cX9_append 249 = .ok (.bipush 10, 2) := by decide +kernel
theorem dX9_append_251 : decode cX9_append 251 = .ok (.iadd, 1) := by decide +kernel
theorem dX9_append_252 : decode cX9_append 252 = .ok (.bipush 6, 2) := by decide +kernel
theorem dX9_append_254 : decode cX9_append 254 = .ok (.iload 7, 2) := by decide +kernel
theorem dX9_append_256 : decode cX9_append 256 = .ok (.imul, 1) := by decide +kernel
theorem dX9_append_257 : decode cX9_append 257 = .ok (.iadd, 1) := by decide +kernel
theorem dX9_append_258 : decode cX9_append 258 = .ok (.bipush 6, 2) := by decide +kernel
theorem dX9_append_260 : decode cX9_append 260 = .ok (.invokevirtual 208, 3) := by decide +kernel
theorem dX9_append_263 : decode cX9_append 263 = .ok (.iinc 7 1, 3) := by decide +kernel
theorem dX9_append_266 : decode cX9_append 266 = .ok (.goto (-43), 3) := by decide +kernel
theorem dX9_append_269 : decode cX9_append 269 = .ok (.aload_n 0, 1) := by decide +kernel
theorem dX9_append_270 : decode cX9_append 270 = .ok (.iload_n 1, 1) := by decide +kernel
theorem dX9_append_271 : decode cX9_append 271 = .ok (.invokevirtual 182, 3) := by decide +kernel
theorem dX9_append_274 : decode cX9_append 274 = .ok (.iload 5, 2) := by decide +kernel
theorem dX9_append_276 : decode cX9_append 276 = .ok (.ireturn, 1) := by decide +kernel
theorem dX9_command_0 : decode cX9_command 0 = .ok (.aload_n 0, 1) := by decide +kernel
theorem dX9_command_1 : decode cX9_command 1 = .ok (.iload_n 1, 1) := by decide +kernel
theorem dX9_command_2 : decode cX9_command 2 = .ok (.invokevirtual 205, 3) := by decide +kernel
theorem dX9_command_5 : decode cX9_command 5 = .ok (.ifCond .eq 61, 3) := by decide +kernel
theorem dX9_command_8 : decode cX9_command 8 = .ok (.aload_n 0, 1) := by decide +kernel
theorem dX9_command_9 : decode cX9_command 9 = .ok (.iload_n 1, 1) := by decide +kernel
theorem dX9_command_10 : decode cX9_command 10 = .ok (.iconst 4, 1) := by decide +kernel
theorem dX9_command_11 : decode cX9_command 11 = .ok (.invokevirtual 146, 3) := by decide +kernel
theorem dX9_command_14 : decode cX9_command 14 = .ok (.aload_n 0, 1) := by decide +kernel
theorem dX9_command_15 : decode cX9_command 15 = .ok (.iload_n 1, 1) := by decide +kernel
theorem dX9_command_16 : decode cX9_command 16 = .ok (.iconst 2, 1) := by decide +kernel
theorem dX9_command_17 : decode cX9_command 17 = .ok (.invokevirtual 146, 3) := by decide +kernel
theorem dX9_command_20 : decode cX9_command 20 = .ok (.isub, 1) := by decide +kernel
theorem dX9_command_21 : decode cX9_command 21 = .ok (.bipush 40, 2) := by decide +kernel
theorem dX9_command_23 : decode cX9_command 23 = .ok (.if_icmp .ge 43, 3) := by decide +kernel
theorem dX9_command_26 : decode cX9_command 26 = .ok (.iload_n 2, 1) := by decide +kernel
theorem dX9_command_27 : decode cX9_command 27 = .ok (.iconst 0, 1) := by decide +kernel
theorem dX9_command_28 : decode cX9_command 28 = .ok (.iconst 5, 1) := by decide +kernel
theorem dX9_command_29 : decode cX9_command 29 = .ok (.invokestatic 132, 3) := by decide +kernel
theorem dX9_command_32 : decode cX9_command 32 = .ok (.ifCond .eq 34, 3) := by decide +kernel
theorem dX9_command_35 : decode cX9_command 35 = .ok (.iload_n 3, 1) := by decide +kernel
theorem dX9_command_36 : decode cX9_command 36 = .ok (.iconst 1, 1) := by decide +kernel
theorem dX9_command_37 : decode cX9_command 37 = .ok (.bipush 99, 2) := by decide +kernel
theorem dX9_command_39 : decode cX9_command 39 = .ok (.invokestatic 132, 3) := by decide +kernel
theorem dX9_command_42 : decode cX9_command 42 = .ok (.ifCond .eq 24, 3) := by decide +kernel
theorem dX9_command_45 : decode cX9_command 45 = .ok (.iload 4, 2) := by decide +kernel
theorem dX9_command_47 : decode cX9_command 47 = .ok (.iconst 0, 1) := by decide +kernel
theorem dX9_command_48 : decode cX9_command 48 = .ok (.iconst 3, 1) := by decide +kernel
theorem dX9_command_49 : decode cX9_command 49 = .ok (.invokestatic 132, 3) := by decide +kernel
theorem dX9_command_52 : decode cX9_command 52 = .ok (.ifCond .eq 14, 3) := by decide +kernel
theorem dX9_command_55 : decode cX9_command 55 = .ok (.iload 5, 2) := by decide +kernel
theorem dX9_command_57 : decode cX9_command 57 = .ok (.iconst 0, 1) := by decide +kernel
theorem dX9_command_58 : decode cX9_command 58 = .ok (.bipush 7, 2) := by decide +kernel
theorem dX9_command_60 : decode cX9_command 60 = .ok (.invokestatic 132, 3) := by decide +kernel
theorem dX9_command_63 : decode cX9_command 63 = .ok (.ifCond .ne 5, 3) := by decide +kernel
theorem dX9_command_66 : decode cX9_command 66 = .ok (.iconst (-1), 1) := by decide +kernel
theorem dX9_command_67 : decode cX9_command 67 = .ok (.ireturn, 1) := by decide +kernel
theorem dX9_command_68 : decode cX9_command 68 = .ok (.aload_n 0, 1) := by decide +kernel
theorem dX9_command_69 : decode cX9_command 69 = .ok (.iload_n 1, 1) := by decide +kernel
theorem dX9_command_70 : decode cX9_command 70 = .ok (.iconst 4, 1) := by decide +kernel
theorem dX9_command_71 : decode cX9_command 71 = .ok (.aload_n 0, 1) := by decide +kernel
theorem dX9_command_72 : decode cX9_command 72 = .ok (.iload_n 1, 1) := by decide +kernel
theorem dX9_command_73 : decode cX9_command 73 = .ok (.iconst 4, 1) := by decide +kernel
theorem dX9_command_74 : decode cX9_command 74 = .ok (.invokevirtual 146, 3) := by decide +kernel
theorem dX9_command_77 : decode cX9_command 77 = .ok (.iconst 1, 1) := by decide +kernel
theorem dX9_command_78 : decode cX9_command 78 = .ok (.iadd, 1) := by decide +kernel
theorem dX9_command_79 : decode cX9_command 79 = .ok (.invokevirtual 139, 3) := by decide +kernel
theorem dX9_command_82 : decode cX9_command 82 = .ok (.aload_n 0, 1) := by decide +kernel
theorem dX9_command_83 : decode cX9_command 83 = .ok (.iload_n 1, 1) := by decide +kernel
theorem dX9_command_84 : decode cX9_command 84 = .ok (.aload_n 0, 1) := by decide +kernel
theorem dX9_command_85 : decode cX9_command 85 = .ok (.iload_n 1, 1) := by decide +kernel
theorem dX9_command_86 : decode cX9_command 86 = .ok (.iconst 4, 1) := by decide +kernel
theorem dX9_command_87 : decode cX9_command 87 = .ok (.invokevirtual 146, 3) := by decide +kernel
theorem dX9_command_90 : decode cX9_command 90 = .ok (.invokevirtual 153, 3) := by decide +kernel
theorem dX9_command_93 : decode cX9_command 93 = .ok (.istore 7, 2) := by decide +kernel
theorem dX9_command_95 : decode cX9_command 95 = .ok (.aload_n 0, 1) := by decide +kernel
theorem dX9_command_96 : decode cX9_command 96 = .ok (.getfield 16, 3) := by decide +kernel
theorem dX9_command_99 : decode cX9_command 99 = .ok (.iload 7, 2) := by decide +kernel
theorem dX9_command_101 : decode cX9_command 101 = .ok (.aload_n 0, 1) := by decide +kernel
theorem dX9_command_102 : decode cX9_command 102 = .ok (.iload_n 1, 1) := by decide +kernel
theorem dX9_command_103 : decode cX9_command 103 = .ok (.iconst 0, 1) := by decide +kernel
theorem dX9_command_104 : decode cX9_command 104 = .ok (.invokevirtual 146, 3) := by decide +kernel
theorem dX9_command_107 : decode cX9_command 107 = .ok (.iastore, 1) := by decide +kernel
theorem dX9_command_108 : decode cX9_command 108 = .ok (.aload_n 0, 1) := by decide +kernel
theorem dX9_command_109 : decode cX9_command 109 = .ok (.getfield 16, 3) := by decide +kernel
theorem dX9_command_112 : decode cX9_command 112 = .ok (.iload 7, 2) := by decide +kernel
theorem dX9_command_114 : decode cX9_command 114 = .ok (.iconst 1, 1) := by decide +kernel
theorem dX9_command_115 : decode cX9_command 115 = .ok (.iadd, 1) := by decide +kernel
theorem dX9_command_116 : decode cX9_command 116 = .ok (.iload_n 2, 1) := by decide +kernel
theorem dX9_command_117 : decode cX9_command 117 = .ok (.iastore, 1) := by decide +kernel
theorem dX9_command_118 : decode cX9_command 118 = .ok (.aload_n 0, 1) := by decide +kernel
theorem dX9_command_119 : decode cX9_command 119 = .ok (.getfield 16, 3) := by decide +kernel
theorem dX9_command_122 : decode cX9_command 122 = .ok (.iload 7, 2) := by decide +kernel
theorem dX9_command_124 : decode cX9_command 124 = .ok (.iconst 2, 1) := by decide +kernel
theorem dX9_command_125 : decode cX9_command 125 = .ok (.iadd, 1) := by decide +kernel
theorem dX9_command_126 : decode cX9_command 126 = .ok (.iload_n 3, 1) := by decide +kernel
theorem dX9_command_127 : decode cX9_command 127 = .ok (.iastore, 1) := by decide +kernel
theorem dX9_command_128 : decode cX9_command 128 = .ok (.aload_n 0, 1) := by decide +kernel
theorem dX9_command_129 : decode cX9_command 129 = .ok (.getfield 16, 3) := by decide +kernel
theorem dX9_command_132 : decode cX9_command 132 = .ok (.iload 7, 2) := by decide +kernel
theorem dX9_command_134 : decode cX9_command 134 = .ok (.iconst 3, 1) := by decide +kernel
theorem dX9_command_135 : decode cX9_command 135 = .ok (.iadd, 1) := by decide +kernel
theorem dX9_command_136 : decode cX9_command 136 = .ok (.iload 4, 2) := by decide +kernel
theorem dX9_command_138 : decode cX9_command 138 = .ok (.iastore, 1) := by decide +kernel
theorem dX9_command_139 : decode cX9_command 139 = .ok (.aload_n 0, 1) := by decide +kernel
theorem dX9_command_140 : decode cX9_command 140 = .ok (.getfield 16, 3) := by decide +kernel
theorem dX9_command_143 : decode cX9_command 143 = .ok (.iload 7, 2) := by decide +kernel
theorem dX9_command_145 : decode cX9_command 145 = .ok (.iconst 4, 1) := by decide +kernel
theorem dX9_command_146 : decode cX9_command 146 = .ok (.iadd, 1) := by decide +kernel
theorem dX9_command_147 : decode cX9_command 147 = .ok (.iload 5, 2) := by decide +kernel
theorem dX9_command_149 : decode cX9_command 149 = .ok (.iastore, 1) := by decide +kernel
theorem dX9_command_150 : decode cX9_command 150 = .ok (.aload_n 0, 1) := by decide +kernel
theorem dX9_command_151 : decode cX9_command 151 = .ok (.getfield 16, 3) := by decide +kernel
theorem dX9_command_154 : decode cX9_command 154 = .ok (.iload 7, 2) := by decide +kernel
theorem dX9_command_156 : decode cX9_command 156 = .ok (.iconst 5, 1) := by decide +kernel
theorem dX9_command_157 : decode cX9_command 157 = .ok (.iadd, 1) := by decide +kernel
theorem dX9_command_158 : decode cX9_command 158 = .ok (.iload 6, 2) := by decide +kernel
theorem dX9_command_160 : decode cX9_command 160 = .ok (.iastore, 1) := by decide +kernel
theorem dX9_command_161 : decode cX9_command 161 = .ok (.aload_n 0, 1) := by decide +kernel
theorem dX9_command_162 : decode cX9_command 162 = .ok (.iload_n 1, 1) := by decide +kernel
theorem dX9_command_163 : decode cX9_command 163 = .ok (.invokevirtual 182, 3) := by decide +kernel
theorem dX9_command_166 : decode cX9_command 166 = .ok (.aload_n 0, 1) := by decide +kernel
theorem dX9_command_167 : decode cX9_command 167 = .ok (.iload_n 1, 1) := by decide +kernel
theorem dX9_command_168 : decode cX9_command 168 = .ok (.iconst 4, 1) := by decide +kernel
theorem dX9_command_169 : decode cX9_command 169 = .ok (.invokevirtual 146, 3) := by decide +kernel
theorem dX9_command_172 : decode cX9_command 172 = .ok (.ireturn, 1) := by decide +kernel
theorem dX9_deliver_0 : decode cX9_deliver 0 = .ok (.aload_n 0, 1) := by decide +kernel
theorem dX9_deliver_1 : decode cX9_deliver 1 = .ok (.iload_n 1, 1) := by decide +kernel
theorem dX9_deliver_2 : decode cX9_deliver 2 = .ok (.invokevirtual 211, 3) := by decide +kernel
theorem dX9_deliver_5 : decode cX9_deliver 5 = .ok (.ifCond .ne 5, 3) := by decide +kernel
theorem dX9_deliver_8 : decode cX9_deliver 8 = .ok (.iconst (-1), 1) := by decide +kernel
theorem dX9_deliver_9 : decode cX9_deliver 9 = .ok (.ireturn, 1) := by decide +kernel
theorem dX9_deliver_10 : decode cX9_deliver 10 = .ok (.iconst 0, 1) := by decide +kernel
theorem dX9_deliver_11 : decode cX9_deliver 11 = .ok (.istore_n 2, 1) := by decide +kernel
theorem dX9_deliver_12 : decode cX9_deliver 12 = .ok (.iload_n 2, 1) := by decide +kernel
theorem dX9_deliver_13 : decode cX9_deliver 13 = .ok (.bipush 64, 2) := by decide +kernel
theorem dX9_deliver_15 : decode cX9_deliver 15 = .ok (.if_icmp .ge 21, 3) := by decide +kernel
theorem dX9_deliver_18 : decode cX9_deliver 18 = .ok (.aload_n 0, 1) := by decide +kernel
theorem dX9_deliver_19 : decode cX9_deliver 19 = .ok (.getfield 41, 3) := by decide +kernel
theorem dX9_deliver_22 : decode cX9_deliver 22 = .ok (.iload_n 2, 1) := by decide +kernel
theorem dX9_deliver_23 : decode cX9_deliver 23 = .ok (.aload_n 0, 1) := by decide +kernel
theorem dX9_deliver_24 : decode cX9_deliver 24 = .ok (.iload_n 1, 1) := by decide +kernel
theorem dX9_deliver_25 : decode cX9_deliver 25 = .ok (.iload_n 2, 1) := by decide +kernel
theorem dX9_deliver_26 : decode cX9_deliver 26 = .ok (.invokevirtual 186, 3) := by decide +kernel
theorem dX9_deliver_29 : decode cX9_deliver 29 = .ok (.iastore, 1) := by decide +kernel
theorem dX9_deliver_30 : decode cX9_deliver 30 = .ok (.iinc 2 1, 3) := by decide +kernel
theorem dX9_deliver_33 : decode cX9_deliver 33 = .ok (.goto (-21), 3) := by decide +kernel
theorem dX9_deliver_36 : decode cX9_deliver 36 = .ok (.aload_n 0, 1) := by decide +kernel
theorem dX9_deliver_37 : decode cX9_deliver 37 = .ok (.iload_n 1, 1) := by decide +kernel
theorem dX9_deliver_38 : decode cX9_deliver 38 = .ok (.iconst 0, 1) := by decide +kernel
theorem dX9_deliver_39 : decode cX9_deliver 39 = .ok (.iconst (-1), 1) := by decide +kernel
theorem dX9_deliver_40 : decode cX9_deliver 40 = .ok (.invokevirtual 192, 3) := by decide +kernel
theorem dX9_deliver_43 : decode cX9_deliver 43 = .ok (.aload_n 0, 1) := by decide +kernel
theorem dX9_deliver_44 : decode cX9_deliver 44 = .ok (.getfield 41, 3) := by decide +kernel
theorem dX9_deliver_47 : decode cX9_deliver 47 = .ok (.iconst 2, 1) := by decide +kernel
theorem dX9_deliver_48 : decode cX9_deliver 48 = .ok (.iaload, 1) := by decide +kernel
theorem dX9_deliver_49 : decode cX9_deliver 49 = .ok (.istore_n 2, 1) := by decide +kernel
theorem dX9_deliver_50 : decode cX9_deliver 50 = .ok (.aload_n 0, 1) := by decide +kernel
theorem dX9_deliver_51 : decode cX9_deliver 51 = .ok (.iload_n 2, 1) := by decide +kernel
theorem dX9_deliver_52 : decode cX9_deliver 52 = .ok (.bipush 9, 2) := by decide +kernel
theorem dX9_deliver_54 : decode cX9_deliver 54 = .ok (.invokevirtual 146, 3) := by decide +kernel
theorem dX9_deliver_57 : decode cX9_deliver 57 = .ok (.iconst 1, 1) := by decide +kernel
theorem dX9_deliver_58 : decode cX9_deliver 58 = .ok (.if_icmp .ne 5, 3) := by decide +kernel
theorem dX9_deliver_61 : decode cX9_deliver 61 = .ok (.iconst 0, 1) := by decide +kernel
theorem dX9_deliver_62 : decode cX9_deliver 62 = .ok (.ireturn, 1) := by decide +kernel
theorem dX9_deliver_63 : decode cX9_deliver 63 = .ok (.aload_n 0, 1) := by decide +kernel
theorem dX9_deliver_64 : decode cX9_deliver 64 = .ok (.getfield 41, 3) := by decide +kernel
theorem dX9_deliver_67 : decode cX9_deliver 67 = .ok (.iconst 3, 1) := by decide +kernel
theorem dX9_deliver_68 : decode cX9_deliver 68 = .ok (.iaload, 1) := by decide +kernel
theorem dX9_deliver_69 : decode cX9_deliver 69 = .ok (.aload_n 0, 1) := by decide +kernel
theorem dX9_deliver_70 : decode cX9_deliver 70 = .ok (.iload_n 2, 1) := by decide +kernel
theorem dX9_deliver_71 : decode cX9_deliver 71 = .ok (.iconst 0, 1) := by decide +kernel
theorem dX9_deliver_72 : decode cX9_deliver 72 = .ok (.invokevirtual 146, 3) := by decide +kernel
theorem dX9_deliver_75 : decode cX9_deliver 75 = .ok (.if_icmp .le 29, 3) := by decide +kernel
theorem dX9_deliver_78 : decode cX9_deliver 78 = .ok (.aload_n 0, 1) := by decide +kernel
theorem dX9_deliver_79 : decode cX9_deliver 79 = .ok (.iload_n 2, 1) := by decide +kernel
theorem dX9_deliver_80 : decode cX9_deliver 80 = .ok (.iconst 0, 1) := by decide +kernel
theorem dX9_deliver_81 : decode cX9_deliver 81 = .ok (.aload_n 0, 1) := by decide +kernel
theorem dX9_deliver_82 : decode cX9_deliver 82 = .ok (.getfield 41, 3) := by decide +kernel
theorem dX9_deliver_85 : decode cX9_deliver 85 = .ok (.iconst 3, 1) := by decide +kernel
theorem dX9_deliver_86 : decode cX9_deliver 86 = .ok (.iaload, 1) := by decide +kernel
theorem dX9_deliver_87 : decode cX9_deliver 87 = .ok (.invokevirtual 139, 3) := by decide +kernel
theorem dX9_deliver_90 : decode cX9_deliver 90 = .ok (.aload_n 0, 1) := by decide +kernel
theorem dX9_deliver_91 : decode cX9_deliver 91 = .ok (.iload_n 2, 1) := by decide +kernel
theorem dX9_deliver_92 : decode cX9_deliver 92 = .ok (.iconst 1, 1) := by decide +kernel
theorem dX9_deliver_93 : decode cX9_deliver 93 = .ok (.iconst (-1), 1) := by decide +kernel
theorem dX9_deliver_94 : decode cX9_deliver 94 = .ok (.invokevirtual 139, 3) := by decide +kernel
theorem dX9_deliver_97 : decode cX9_deliver 97 = .ok (.aload_n 0, 1) := by decide +kernel
theorem dX9_deliver_98 : decode cX9_deliver 98 = .ok (.iload_n 2, 1) := by decide +kernel
theorem dX9_deliver_99 : decode cX9_deliver 99 = .ok (.iconst 5, 1) := by decide +kernel
theorem dX9_deliver_100 : decode cX9_deliver 100 = .ok (.iconst 0, 1) := by decide +kernel
theorem dX9_deliver_101 : decode cX9_deliver 101 = .ok (.invokevirtual 139, 3) := by decide +kernel
theorem dX9_deliver_104 : decode cX9_deliver 104 = .ok (.aload_n 0, 1) := by decide +kernel
theorem dX9_deliver_105 : decode cX9_deliver 105 = .ok (.getfield 41, 3) := by decide +kernel
theorem dX9_deliver_108 : decode cX9_deliver 108 = .ok (.iconst 0, 1) := by decide +kernel
theorem dX9_deliver_109 : decode cX9_deliver 109 = .ok (.iaload, 1) := by decide +kernel
theorem dX9_deliver_110 : decode cX9_deliver 110 = .ok (.tableswitch 54 0 3 #[30, 36, 42, 48], 30) := by decide +kernel
theorem dX9_deliver_140 : decode cX9_deliver 140 = .ok (.aload_n 0, 1) := by decide +kernel
theorem dX9_deliver_141 : decode cX9_deliver 141 = .ok (.iload_n 2, 1) := by decide +kernel
theorem dX9_deliver_142 : decode cX9_deliver 142 = .ok (.invokevirtual 214, 3) := by decide +kernel
theorem dX9_deliver_145 : decode cX9_deliver 145 = .ok (.ireturn, 1) := by decide +kernel
theorem dX9_deliver_146 : decode cX9_deliver 146 = .ok (.aload_n 0, 1) := by decide +kernel
theorem dX9_deliver_147 : decode cX9_deliver 147 = .ok (.iload_n 2, 1) := by decide +kernel
theorem dX9_deliver_148 : decode cX9_deliver 148 = .ok (.invokevirtual 217, 3) := by decide +kernel
theorem dX9_deliver_151 : decode cX9_deliver 151 = .ok (.ireturn, 1) := by decide +kernel
theorem dX9_deliver_152 : decode cX9_deliver 152 = .ok (.aload_n 0, 1) := by decide +kernel
theorem dX9_deliver_153 : decode cX9_deliver 153 = .ok (.iload_n 2, 1) := by decide +kernel
theorem dX9_deliver_154 : decode cX9_deliver 154 = .ok (.invokevirtual 220, 3) := by decide +kernel
theorem dX9_deliver_157 : decode cX9_deliver 157 = .ok (.ireturn, 1) := by decide +kernel
theorem dX9_deliver_158 : decode cX9_deliver 158 = .ok (.aload_n 0, 1) := by decide +kernel
theorem dX9_deliver_159 : decode cX9_deliver 159 = .ok (.iload_n 2, 1) := by decide +kernel
theorem dX9_deliver_160 : decode cX9_deliver 160 = .ok (.invokevirtual 223, 3) := by decide +kernel
theorem dX9_deliver_163 : decode cX9_deliver 163 = .ok (.ireturn, 1) := by decide +kernel
theorem dX9_deliver_164 : decode cX9_deliver 164 = .ok (.aload_n 0, 1) := by decide +kernel
theorem dX9_deliver_165 : decode cX9_deliver 165 = .ok (.iload_n 2, 1) := by decide +kernel
theorem dX9_deliver_166 : decode cX9_deliver 166 = .ok (.invokevirtual 226, 3) := by decide +kernel
theorem dX9_deliver_169 : decode cX9_deliver 169 = .ok (.ireturn, 1) := by decide +kernel
theorem dX9_getsAsk_0 : decode cX9_getsAsk 0 = .ok (.aload_n 0, 1) := by decide +kernel
theorem dX9_getsAsk_1 : decode cX9_getsAsk 1 = .ok (.getfield 41, 3) := by decide +kernel
theorem dX9_getsAsk_4 : decode cX9_getsAsk 4 = .ok (.iconst 1, 1) := by decide +kernel
theorem dX9_getsAsk_5 : decode cX9_getsAsk 5 = .ok (.iaload, 1) := by decide +kernel
theorem dX9_getsAsk_6 : decode cX9_getsAsk 6 = .ok (.istore_n 2, 1) := by decide +kernel
theorem dX9_getsAsk_7 : decode cX9_getsAsk 7 = .ok (.aload_n 0, 1) := by decide +kernel
theorem dX9_getsAsk_8 : decode cX9_getsAsk 8 = .ok (.iload_n 1, 1) := by decide +kernel
theorem dX9_getsAsk_9 : decode cX9_getsAsk 9 = .ok (.iconst 4, 1) := by decide +kernel
theorem dX9_getsAsk_10 : decode cX9_getsAsk 10 = .ok (.invokevirtual 146, 3) := by decide +kernel
theorem dX9_getsAsk_13 : decode cX9_getsAsk 13 = .ok (.istore_n 3, 1) := by decide +kernel
theorem dX9_getsAsk_14 : decode cX9_getsAsk 14 = .ok (.aload_n 0, 1) := by decide +kernel
theorem dX9_getsAsk_15 : decode cX9_getsAsk 15 = .ok (.iload_n 1, 1) := by decide +kernel
theorem dX9_getsAsk_16 : decode cX9_getsAsk 16 = .ok (.iconst 1, 1) := by decide +kernel
theorem dX9_getsAsk_17 : decode cX9_getsAsk 17 = .ok (.invokevirtual 146, 3) := by decide +kernel
theorem dX9_getsAsk_20 : decode cX9_getsAsk 20 = .ok (.iconst (-1), 1) := by decide +kernel
theorem dX9_getsAsk_21 : decode cX9_getsAsk 21 = .ok (.if_icmp .eq 13, 3) := by decide +kernel
theorem dX9_getsAsk_24 : decode cX9_getsAsk 24 = .ok (.aload_n 0, 1) := by decide +kernel
theorem dX9_getsAsk_25 : decode cX9_getsAsk 25 = .ok (.iload_n 1, 1) := by decide +kernel
theorem dX9_getsAsk_26 : decode cX9_getsAsk 26 = .ok (.iconst 1, 1) := by decide +kernel
theorem dX9_getsAsk_27 : decode cX9_getsAsk 27 = .ok (.invokevirtual 146, 3) := by decide +kernel
theorem dX9_getsAsk_30 : decode cX9_getsAsk 30 = .ok (.iload_n 2, 1) := by decide +kernel
theorem dX9_getsAsk_31 : decode cX9_getsAsk 31 = .ok (.if_icmp .ne 7, 3) := by decide +kernel
theorem dX9_getsAsk_34 : decode cX9_getsAsk 34 = .ok (.iconst 1, 1) := by decide +kernel
theorem dX9_getsAsk_35 : decode cX9_getsAsk 35 = .ok (.goto 4, 3) := by decide +kernel
theorem dX9_getsAsk_38 : decode cX9_getsAsk 38 = .ok (.iconst 0, 1) := by decide +kernel
theorem dX9_getsAsk_39 : decode cX9_getsAsk 39 = .ok (.istore 4, 2) := by decide +kernel
theorem dX9_getsAsk_41 : decode cX9_getsAsk 41 = .ok (.aload_n 0, 1) := by decide +kernel
theorem dX9_getsAsk_42 : decode cX9_getsAsk 42 = .ok (.iload_n 1, 1) := by decide +kernel
theorem dX9_getsAsk_43 : decode cX9_getsAsk 43 = .ok (.iload_n 3, 1) := by decide +kernel
theorem dX9_getsAsk_44 : decode cX9_getsAsk 44 = .ok (.invokevirtual 172, 3) := by decide +kernel
theorem dX9_getsAsk_47 : decode cX9_getsAsk 47 = .ok (.aload_n 0, 1) := by decide +kernel
theorem dX9_getsAsk_48 : decode cX9_getsAsk 48 = .ok (.getfield 41, 3) := by decide +kernel
theorem dX9_getsAsk_51 : decode cX9_getsAsk 51 = .ok (.iconst 5, 1) := by decide +kernel
theorem dX9_getsAsk_52 : decode cX9_getsAsk 52 = .ok (.iaload, 1) := by decide +kernel
theorem dX9_getsAsk_53 : decode cX9_getsAsk 53 = .ok (.if_icmp .gt 28, 3) := by decide +kernel
theorem dX9_getsAsk_56 : decode cX9_getsAsk 56 = .ok (.aload_n 0, 1) := by decide +kernel
theorem dX9_getsAsk_57 : decode cX9_getsAsk 57 = .ok (.iload_n 1, 1) := by decide +kernel
theorem dX9_getsAsk_58 : decode cX9_getsAsk 58 = .ok (.iload_n 3, 1) := by decide +kernel
theorem dX9_getsAsk_59 : decode cX9_getsAsk 59 = .ok (.invokevirtual 172, 3) := by decide +kernel
theorem dX9_getsAsk_62 : decode cX9_getsAsk 62 = .ok (.aload_n 0, 1) := by decide +kernel
theorem dX9_getsAsk_63 : decode cX9_getsAsk 63 = .ok (.getfield 41, 3) := by decide +kernel
theorem dX9_getsAsk_66 : decode cX9_getsAsk 66 = .ok (.iconst 5, 1) := by decide +kernel
theorem dX9_getsAsk_67 : decode cX9_getsAsk 67 = .ok (.iaload, 1) := by decide +kernel
theorem dX9_getsAsk_68 : decode cX9_getsAsk 68 = .ok (.if_icmp .ne 17, 3) := by decide +kernel
theorem dX9_getsAsk_71 : decode cX9_getsAsk 71 = .ok (.iload_n 3, 1) := by decide +kernel
theorem dX9_getsAsk_72 : decode cX9_getsAsk 72 = .ok (.aload_n 0, 1) := by decide +kernel
theorem dX9_getsAsk_73 : decode cX9_getsAsk 73 = .ok (.getfield 41, 3) := by decide +kernel
theorem dX9_getsAsk_76 : decode cX9_getsAsk 76 = .ok (.iconst 4, 1) := by decide +kernel
theorem dX9_getsAsk_77 : decode cX9_getsAsk 77 = .ok (.iaload, 1) := by decide +kernel
theorem dX9_getsAsk_78 : decode cX9_getsAsk 78 = .ok (.if_icmp .le 7, 3) := by decide +kernel
theorem dX9_getsAsk_81 : decode cX9_getsAsk 81 = .ok (.iconst 1, 1) := by decide +kernel
theorem dX9_getsAsk_82 : decode cX9_getsAsk 82 = .ok (.goto 4, 3) := by decide +kernel
theorem dX9_getsAsk_85 : decode cX9_getsAsk 85 = .ok (.iconst 0, 1) := by decide +kernel
theorem dX9_getsAsk_86 : decode cX9_getsAsk 86 = .ok (.istore 5, 2) := by decide +kernel
theorem dX9_getsAsk_88 : decode cX9_getsAsk 88 = .ok (.aload_n 0, 1) := by decide +kernel
theorem dX9_getsAsk_89 : decode cX9_getsAsk 89 = .ok (.iload_n 1, 1) := by decide +kernel
theorem dX9_getsAsk_90 : decode cX9_getsAsk 90 = .ok (.invokevirtual 166, 3) := by decide +kernel
theorem dX9_getsAsk_93 : decode cX9_getsAsk 93 = .ok (.ifCond .eq 32, 3) := by decide +kernel
theorem dX9_getsAsk_96 : decode cX9_getsAsk 96 = .ok (.aload_n 0, 1) := by decide +kernel
theorem dX9_getsAsk_97 : decode cX9_getsAsk 97 = .ok (.iload_n 1, 1) := by decide +kernel
theorem dX9_getsAsk_98 : decode cX9_getsAsk 98 = .ok (.iconst 0, 1) := by decide +kernel
theorem dX9_getsAsk_99 : decode cX9_getsAsk 99 = .ok (.invokevirtual 146, 3) := by decide +kernel
theorem dX9_getsAsk_102 : decode cX9_getsAsk 102 = .ok (.aload_n 0, 1) := by decide +kernel
theorem dX9_getsAsk_103 : decode cX9_getsAsk 103 = .ok (.getfield 41, 3) := by decide +kernel
theorem dX9_getsAsk_106 : decode cX9_getsAsk 106 = .ok (.iconst 3, 1) := by decide +kernel
theorem dX9_getsAsk_107 : decode cX9_getsAsk 107 = .ok (.iaload, 1) := by decide +kernel
theorem dX9_getsAsk_108 : decode cX9_getsAsk 108 = .ok (.if_icmp .ne 17, 3) := by decide +kernel
theorem dX9_getsAsk_111 : decode cX9_getsAsk 111 = .ok (.iload 4, 2) := by decide +kernel
theorem dX9_getsAsk_113 : decode cX9_getsAsk 113 = .ok (.ifCond .eq 12, 3) := by decide +kernel
theorem dX9_getsAsk_116 : decode cX9_getsAsk 116 = .ok (.iload 5, 2) := by decide +kernel
theorem dX9_getsAsk_118 : decode cX9_getsAsk 118 = .ok (.ifCond .ne 7, 3) := by decide +kernel
theorem dX9_getsAsk_121 : decode cX9_getsAsk 121 = .ok (.iconst 1, 1) := by decide +kernel
theorem dX9_getsAsk_122 : decode cX9_getsAsk 122 = .ok (.goto 4, 3) := by decide +kernel
theorem dX9_getsAsk_125 : decode cX9_getsAsk 125 = .ok (.iconst 0, 1) := by decide +kernel
theorem dX9_getsAsk_126 : decode cX9_getsAsk 126 = .ok (.istore 6, 2) := by decide +kernel
theorem dX9_getsAsk_128 : decode cX9_getsAsk 128 = .ok (.iload 6, 2) := by decide +kernel
theorem dX9_getsAsk_130 : decode cX9_getsAsk 130 = .ok (.ifCond .eq 10, 3) := by decide +kernel
theorem dX9_getsAsk_133 : decode cX9_getsAsk 133 = .ok (.aload_n 0, 1) := by decide +kernel
theorem dX9_getsAsk_134 : decode cX9_getsAsk 134 = .ok (.iload_n 1, 1) := by decide +kernel
theorem dX9_getsAsk_135 : decode cX9_getsAsk 135 = .ok (.iconst 1, 1) := by decide +kernel
theorem dX9_getsAsk_136 : decode cX9_getsAsk 136 = .ok (.iload_n 2, 1) := by decide +kernel
theorem dX9_getsAsk_137 : decode cX9_getsAsk 137 = .ok (.invokevirtual 139, 3) := by decide +kernel
theorem dX9_getsAsk_140 : decode cX9_getsAsk 140 = .ok (.aload_n 0, 1) := by decide +kernel
theorem dX9_getsAsk_141 : decode cX9_getsAsk 141 = .ok (.iconst 1, 1) := by decide +kernel
theorem dX9_getsAsk_142 : decode cX9_getsAsk 142 = .ok (.iload_n 1, 1) := by decide +kernel
theorem dX9_getsAsk_143 : decode cX9_getsAsk 143 = .ok (.iload_n 2, 1) := by decide +kernel
theorem dX9_getsAsk_144 : decode cX9_getsAsk 144 = .ok (.iload 6, 2) := by decide +kernel
theorem dX9_getsAsk_146 : decode cX9_getsAsk 146 = .ok (.ifCond .eq 7, 3) := by decide +kernel
theorem dX9_getsAsk_149 : decode cX9_getsAsk 149 = .ok (.iconst 1, 1) := by decide +kernel
theorem dX9_getsAsk_150 : decode cX9_getsAsk 150 = .ok (.goto 4, 3) := by decide +kernel
theorem dX9_getsAsk_153 : decode cX9_getsAsk 153 = .ok (.iconst 0, 1) := by decide +kernel
theorem dX9_getsAsk_154 : decode cX9_getsAsk 154 = .ok (.iconst 0, 1) := by decide +kernel
theorem dX9_getsAsk_155 : decode cX9_getsAsk 155 = .ok (.invokevirtual 198, 3) := by decide +kernel
theorem dX9_getsAsk_158 : decode cX9_getsAsk 158 = .ok (.pop, 1) := by decide +kernel
theorem dX9_getsAsk_159 : decode cX9_getsAsk 159 = .ok (.iconst 1, 1) := by decide +kernel
theorem dX9_getsAsk_160 : decode cX9_getsAsk 160 = .ok (.ireturn, 1) := by decide +kernel
theorem dX9_getsBallot_0 : decode cX9_getsBallot 0 = .ok (.aload_n 0, 1) := by decide +kernel
theorem dX9_getsBallot_1 : decode cX9_getsBallot 1 = .ok (.iload_n 1, 1) := by decide +kernel
theorem dX9_getsBallot_2 : decode cX9_getsBallot 2 = .ok (.iconst 5, 1) := by decide +kernel
theorem dX9_getsBallot_3 : decode cX9_getsBallot 3 = .ok (.invokevirtual 146, 3) := by decide +kernel
theorem dX9_getsBallot_6 : decode cX9_getsBallot 6 = .ok (.iconst 1, 1) := by decide +kernel
theorem dX9_getsBallot_7 : decode cX9_getsBallot 7 = .ok (.if_icmp .ne 27, 3) := by decide +kernel
theorem dX9_getsBallot_10 : decode cX9_getsBallot 10 = .ok (.aload_n 0, 1) := by decide +kernel
theorem dX9_getsBallot_11 : decode cX9_getsBallot 11 = .ok (.iload_n 1, 1) := by decide +kernel
theorem dX9_getsBallot_12 : decode cX9_getsBallot 12 = .ok (.iconst 0, 1) := by decide +kernel
theorem dX9_getsBallot_13 : decode cX9_getsBallot 13 = .ok (.invokevirtual 146, 3) := by decide +kernel
theorem dX9_getsBallot_16 : decode cX9_getsBallot 16 = .ok (.aload_n 0, 1) := by decide +kernel
theorem dX9_getsBallot_17 : decode cX9_getsBallot 17 = .ok (.getfield 41, 3) := by decide +kernel
theorem dX9_getsBallot_20 : decode cX9_getsBallot 20 = .ok (.iconst 3, 1) := by decide +kernel
theorem dX9_getsBallot_21 : decode cX9_getsBallot 21 = .ok (.iaload, 1) := by decide +kernel
theorem dX9_getsBallot_22 : decode cX9_getsBallot 22 = .ok (.if_icmp .ne 12, 3) := by decide +kernel
theorem dX9_getsBallot_25 : decode cX9_getsBallot 25 = .ok (.aload_n 0, 1) := by decide +kernel
theorem dX9_getsBallot_26 : decode cX9_getsBallot 26 = .ok (.getfield 41, 3) := by decide +kernel
theorem dX9_getsBallot_29 : decode cX9_getsBallot 29 = .ok (.iconst 4, 1) := by decide +kernel
theorem dX9_getsBallot_30 : decode cX9_getsBallot 30 = .ok (.iaload, 1) := by decide +kernel
theorem dX9_getsBallot_31 : decode cX9_getsBallot 31 = .ok (.ifCond .ne 5, 3) := by decide +kernel
theorem dX9_getsBallot_34 : decode cX9_getsBallot 34 = .ok (.iconst 0, 1) := by decide +kernel
theorem dX9_getsBallot_35 : decode cX9_getsBallot 35 = .ok (.ireturn, 1) := by decide +kernel
theorem dX9_getsBallot_36 : decode cX9_getsBallot 36 = .ok (.aload_n 0, 1) := by decide +kernel
theorem dX9_getsBallot_37 : decode cX9_getsBallot 37 = .ok (.iload_n 1, 1) := by decide +kernel
theorem dX9_getsBallot_38 : decode cX9_getsBallot 38 = .ok (.bipush 7, 2) := by decide +kernel
theorem dX9_getsBallot_40 : decode cX9_getsBallot 40 = .ok (.aload_n 0, 1) := by decide +kernel
theorem dX9_getsBallot_41 : decode cX9_getsBallot 41 = .ok (.iload_n 1, 1) := by decide +kernel
theorem dX9_getsBallot_42 : decode cX9_getsBallot 42 = .ok (.bipush 7, 2) := by decide +kernel
theorem dX9_getsBallot_44 : decode cX9_getsBallot 44 = .ok (.invokevirtual 146, 3) := by decide +kernel
theorem dX9_getsBallot_47 : decode cX9_getsBallot 47 = .ok (.iconst 1, 1) := by decide +kernel
theorem dX9_getsBallot_48 : decode cX9_getsBallot 48 = .ok (.aload_n 0, 1) := by decide +kernel
theorem dX9_getsBallot_49 : decode cX9_getsBallot 49 = .ok (.getfield 41, 3) := by decide +kernel
theorem dX9_getsBallot_52 : decode cX9_getsBallot 52 = .ok (.iconst 1, 1) := by decide +kernel
theorem dX9_getsBallot_53 : decode cX9_getsBallot 53 = .ok (.iaload, 1) := by decide +kernel
theorem dX9_getsBallot_54 : decode cX9_getsBallot 54 = .ok (.ishl, 1) := by decide +kernel
theorem dX9_getsBallot_55 : decode cX9_getsBallot 55 = .ok (.ior, 1) := by decide +kernel
theorem dX9_getsBallot_56 : decode cX9_getsBallot 56 = .ok (.invokevirtual 139, 3) := by decide +kernel
theorem dX9_getsBallot_59 : decode cX9_getsBallot 59 = .ok (.aload_n 0, 1) := by decide +kernel
theorem dX9_getsBallot_60 : decode cX9_getsBallot 60 = .ok (.iload_n 1, 1) := by decide +kernel
theorem dX9_getsBallot_61 : decode cX9_getsBallot 61 = .ok (.invokevirtual 202, 3) := by decide +kernel
theorem dX9_getsBallot_64 : decode cX9_getsBallot 64 = .ok (.iconst 0, 1) := by decide +kernel
theorem dX9_getsBallot_65 : decode cX9_getsBallot 65 = .ok (.ireturn, 1) := by decide +kernel
theorem dX9_answersBack_0 : decode cX9_answersBack 0 = .ok (.aload_n 0, 1) := by decide +kernel
theorem dX9_answersBack_1 : decode cX9_answersBack 1 = .ok (.iconst 3, 1) := by decide +kernel
theorem dX9_answersBack_2 : decode cX9_answersBack 2 = .ok (.iload_n 1, 1) := by decide +kernel
theorem dX9_answersBack_3 : decode cX9_answersBack 3 = .ok (.aload_n 0, 1) := by decide +kernel
theorem dX9_answersBack_4 : decode cX9_answersBack 4 = .ok (.getfield 41, 3) := by decide +kernel
theorem dX9_answersBack_7 : decode cX9_answersBack 7 = .ok (.iconst 1, 1) := by decide +kernel
theorem dX9_answersBack_8 : decode cX9_answersBack 8 = .ok (.iaload, 1) := by decide +kernel
theorem dX9_answersBack_9 : decode cX9_answersBack 9 = .ok (.iload_n 2, 1) := by decide +kernel
theorem dX9_answersBack_10 : decode cX9_answersBack 10 = .ok (.ifCond .eq 7, 3) := by decide +kernel
theorem dX9_answersBack_13 : decode cX9_answersBack 13 = .ok (.iconst 1, 1) := by decide +kernel
theorem dX9_answersBack_14 : decode cX9_answersBack 14 = .ok (.goto 4, 3) := by decide +kernel
theorem dX9_answersBack_17 : decode cX9_answersBack 17 = .ok (.iconst 0, 1) := by decide +kernel
theorem dX9_answersBack_18 : decode cX9_answersBack 18 = .ok (.iload_n 3, 1) := by decide +kernel
theorem dX9_answersBack_19 : decode cX9_answersBack 19 = .ok (.invokevirtual 198, 3) := by decide +kernel
theorem dX9_answersBack_22 : decode cX9_answersBack 22 = .ok (.istore 4, 2) := by decide +kernel
theorem dX9_answersBack_24 : decode cX9_answersBack 24 = .ok (.aload_n 0, 1) := by decide +kernel
theorem dX9_answersBack_25 : decode cX9_answersBack 25 = .ok (.iload 4, 2) := by decide +kernel
theorem dX9_answersBack_27 : decode cX9_answersBack 27 = .ok (.bipush 8, 2) := by decide +kernel
theorem dX9_answersBack_29 : decode cX9_answersBack 29 = .ok (.aload_n 0, 1) := by decide +kernel
theorem dX9_answersBack_30 : decode cX9_answersBack 30 = .ok (.getfield 41, 3) := by decide +kernel
theorem dX9_answersBack_33 : decode cX9_answersBack 33 = .ok (.bipush 8, 2) := by decide +kernel
theorem dX9_answersBack_35 : decode cX9_answersBack 35 = .ok (.iaload, 1) := by decide +kernel
theorem dX9_answersBack_36 : decode cX9_answersBack 36 = .ok (.invokevirtual 192, 3) := by decide +kernel
theorem dX9_answersBack_39 : decode cX9_answersBack 39 = .ok (.iconst 1, 1) := by decide +kernel
theorem dX9_answersBack_40 : decode cX9_answersBack 40 = .ok (.ireturn, 1) := by decide +kernel
theorem dX9_getsAppend_0 : decode cX9_getsAppend 0 = .ok (.aload_n 0, 1) := by decide +kernel
theorem dX9_getsAppend_1 : decode cX9_getsAppend 1 = .ok (.getfield 41, 3) := by decide +kernel
theorem dX9_getsAppend_4 : decode cX9_getsAppend 4 = .ok (.iconst 3, 1) := by decide +kernel
theorem dX9_getsAppend_5 : decode cX9_getsAppend 5 = .ok (.iaload, 1) := by decide +kernel
theorem dX9_getsAppend_6 : decode cX9_getsAppend 6 = .ok (.aload_n 0, 1) := by decide +kernel
theorem dX9_getsAppend_7 : decode cX9_getsAppend 7 = .ok (.iload_n 1, 1) := by decide +kernel
theorem dX9_getsAppend_8 : decode cX9_getsAppend 8 = .ok (.iconst 0, 1) := by decide +kernel
theorem dX9_getsAppend_9 : decode cX9_getsAppend 9 = .ok (.invokevirtual 146, 3) := by decide +kernel
theorem dX9_getsAppend_12 : decode cX9_getsAppend 12 = .ok (.if_icmp .ge 11, 3) := by decide +kernel
theorem dX9_getsAppend_15 : decode cX9_getsAppend 15 = .ok (.aload_n 0, 1) := by decide +kernel
theorem dX9_getsAppend_16 : decode cX9_getsAppend 16 = .ok (.iload_n 1, 1) := by decide +kernel
theorem dX9_getsAppend_17 : decode cX9_getsAppend 17 = .ok (.iconst 0, 1) := by decide +kernel
theorem dX9_getsAppend_18 : decode cX9_getsAppend 18 = .ok (.iconst 0, 1) := by decide +kernel
theorem dX9_getsAppend_19 : decode cX9_getsAppend 19 = .ok (.invokevirtual 229, 3) := by decide +kernel
theorem dX9_getsAppend_22 : decode cX9_getsAppend 22 = .ok (.ireturn, 1) := by decide +kernel
theorem dX9_getsAppend_23 : decode cX9_getsAppend 23 = .ok (.aload_n 0, 1) := by decide +kernel
theorem dX9_getsAppend_24 : decode cX9_getsAppend 24 = .ok (.iload_n 1, 1) := by decide +kernel
theorem dX9_getsAppend_25 : decode cX9_getsAppend 25 = .ok (.iconst 5, 1) := by decide +kernel
theorem dX9_getsAppend_26 : decode cX9_getsAppend 26 = .ok (.invokevirtual 146, 3) := by decide +kernel
theorem dX9_getsAppend_29 : decode cX9_getsAppend 29 = .ok (.iconst 2, 1) := by decide +kernel
theorem dX9_getsAppend_30 : decode cX9_getsAppend 30 = .ok (.if_icmp .ne 5, 3) := by decide +kernel
theorem dX9_getsAppend_33 : decode cX9_getsAppend 33 = .ok (.iconst 0, 1) := by decide +kernel
theorem dX9_getsAppend_34 : decode cX9_getsAppend 34 = .ok (.ireturn, 1) := by decide +kernel
theorem dX9_getsAppend_35 : decode cX9_getsAppend 35 = .ok (.aload_n 0, 1) := by decide +kernel
theorem dX9_getsAppend_36 : decode cX9_getsAppend 36 = .ok (.iload_n 1, 1) := by decide +kernel
theorem dX9_getsAppend_37 : decode cX9_getsAppend 37 = .ok (.iconst 5, 1) := by decide +kernel
theorem dX9_getsAppend_38 : decode cX9_getsAppend 38 = .ok (.iconst 0, 1) := by decide +kernel
theorem dX9_getsAppend_39 : decode cX9_getsAppend 39 = .ok (.invokevirtual 139, 3) := by decide +kernel
theorem dX9_getsAppend_42 : decode cX9_getsAppend 42 = .ok (.aload_n 0, 1) := by decide +kernel
theorem dX9_getsAppend_43 : decode cX9_getsAppend 43 = .ok (.getfield 41, 3) := by decide +kernel
theorem dX9_getsAppend_46 : decode cX9_getsAppend 46 = .ok (.iconst 4, 1) := by decide +kernel
theorem dX9_getsAppend_47 : decode cX9_getsAppend 47 = .ok (.iaload, 1) := by decide +kernel
theorem dX9_getsAppend_48 : decode cX9_getsAppend 48 = .ok (.istore_n 2, 1) := by decide +kernel
theorem dX9_getsAppend_49 : decode cX9_getsAppend 49 = .ok (.iload_n 2, 1) := by decide +kernel
theorem dX9_getsAppend_50 : decode cX9_getsAppend 50 = .ok (.aload_n 0, 1) := by decide +kernel
theorem dX9_getsAppend_51 : decode cX9_getsAppend 51 = .ok (.iload_n 1, 1) := by decide +kernel
theorem dX9_getsAppend_52 : decode cX9_getsAppend 52 = .ok (.iconst 4, 1) := by decide +kernel
theorem dX9_getsAppend_53 : decode cX9_getsAppend 53 = .ok (.invokevirtual 146, 3) := by decide +kernel
theorem dX9_getsAppend_56 : decode cX9_getsAppend 56 = .ok (.if_icmp .gt 28, 3) := by decide +kernel
theorem dX9_getsAppend_59 : decode cX9_getsAppend 59 = .ok (.iload_n 2, 1) := by decide +kernel
theorem dX9_getsAppend_60 : decode cX9_getsAppend 60 = .ok (.aload_n 0, 1) := by decide +kernel
theorem dX9_getsAppend_61 : decode cX9_getsAppend 61 = .ok (.iload_n 1, 1) := by decide +kernel
theorem dX9_getsAppend_62 : decode cX9_getsAppend 62 = .ok (.iconst 2, 1) := by decide +kernel
theorem dX9_getsAppend_63 : decode cX9_getsAppend 63 = .ok (.invokevirtual 146, 3) := by decide +kernel
theorem dX9_getsAppend_66 : decode cX9_getsAppend 66 = .ok (.if_icmp .le 106, 3) := by decide +kernel
theorem dX9_getsAppend_69 : decode cX9_getsAppend 69 = .ok (.aload_n 0, 1) := by decide +kernel
theorem dX9_getsAppend_70 : decode cX9_getsAppend 70 = .ok (.iload_n 1, 1) := by decide +kernel
theorem dX9_getsAppend_71 : decode cX9_getsAppend 71 = .ok (.iload_n 2, 1) := by decide +kernel
theorem dX9_getsAppend_72 : decode cX9_getsAppend 72 = .ok (.invokevirtual 172, 3) := by decide +kernel
theorem dX9_getsAppend_75 : decode cX9_getsAppend 75 = .ok (.aload_n 0, 1) := by decide +kernel
theorem dX9_getsAppend_76 : decode cX9_getsAppend 76 = .ok (.getfield 41, 3) := by decide +kernel
theorem dX9_getsAppend_79 : decode cX9_getsAppend 79 = .ok (.iconst 5, 1) := by decide +kernel
theorem dX9_getsAppend_80 : decode cX9_getsAppend 80 = .ok (.iaload, 1) := by decide +kernel
theorem dX9_getsAppend_81 : decode cX9_getsAppend 81 = .ok (.if_icmp .eq 91, 3) := by decide +kernel
theorem dX9_getsAppend_84 : decode cX9_getsAppend 84 = .ok (.iload_n 2, 1) := by decide +kernel
theorem dX9_getsAppend_85 : decode cX9_getsAppend 85 = .ok (.iconst 1, 1) := by decide +kernel
theorem dX9_getsAppend_86 : decode cX9_getsAppend 86 = .ok (.isub, 1) := by decide +kernel
theorem dX9_getsAppend_87 : decode cX9_getsAppend 87 = .ok (.aload_n 0, 1) := by decide +kernel
theorem dX9_getsAppend_88 : decode cX9_getsAppend 88 = .ok (.iload_n 1, 1) := by decide +kernel
theorem dX9_getsAppend_89 : decode cX9_getsAppend 89 = .ok (.bipush 6, 2) := by decide +kernel
theorem dX9_getsAppend_91 : decode cX9_getsAppend 91 = .ok (.invokevirtual 146, 3) := by decide +kernel
theorem dX9_getsAppend_94 : decode cX9_getsAppend 94 = .ok (.if_icmp .le 9, 3) := by decide +kernel
theorem dX9_getsAppend_97 : decode cX9_getsAppend 97 = .ok (.iload_n 2, 1) := by decide +kernel
theorem dX9_getsAppend_98 : decode cX9_getsAppend 98 = .ok (.iconst 1, 1) := by decide +kernel
theorem dX9_getsAppend_99 : decode cX9_getsAppend 99 = .ok (.isub, 1) := by decide +kernel
theorem dX9_getsAppend_100 : decode cX9_getsAppend 100 = .ok (.goto 10, 3) := by decide +kernel
theorem dX9_getsAppend_103 : decode cX9_getsAppend 103 = .ok (.aload_n 0, 1) := by decide +kernel
theorem dX9_getsAppend_104 : decode cX9_getsAppend 104 = .ok (.iload_n 1, 1) := by decide +kernel
theorem dX9_getsAppend_105 : decode cX9_getsAppend 105 = .ok (.bipush 6, 2) := by decide +kernel
theorem dX9_getsAppend_107 : decode cX9_getsAppend 107 = .ok (.invokevirtual 146, 3) := by decide +kernel
theorem dX9_getsAppend_110 : decode cX9_getsAppend 110 = .ok (.istore_n 3, 1) := by decide +kernel
theorem dX9_getsAppend_111 : decode cX9_getsAppend 111 = .ok (.iload_n 3, 1) := by decide +kernel
theorem dX9_getsAppend_112 : decode cX9_getsAppend 112 = .ok (.aload_n 0, 1) := by decide +kernel
theorem dX9_getsAppend_113 : decode cX9_getsAppend 113 = .ok (.iload_n 1, 1) := by decide +kernel
theorem dX9_getsAppend_114 : decode cX9_getsAppend 114 = .ok (.iconst 4, 1) := by decide +kernel
theorem dX9_getsAppend_115 : decode cX9_getsAppend 115 = .ok (.invokevirtual 146, 3) := by decide +kernel
theorem dX9_getsAppend_118 : decode cX9_getsAppend 118 = .ok (.if_icmp .ge 10, 3) := by decide +kernel
theorem dX9_getsAppend_121 : decode cX9_getsAppend 121 = .ok (.aload_n 0, 1) := by decide +kernel
theorem dX9_getsAppend_122 : decode cX9_getsAppend 122 = .ok (.iload_n 1, 1) := by decide +kernel
theorem dX9_getsAppend_123 : decode cX9_getsAppend 123 = .ok (.iconst 4, 1) := by decide +kernel
theorem dX9_getsAppend_124 : decode cX9_getsAppend 124 = .ok (.iload_n 3, 1) := by decide +kernel
theorem dX9_getsAppend_125 : decode cX9_getsAppend 125 = .ok (.invokevirtual 139, 3) := by decide +kernel
theorem dX9_getsAppend_128 : decode cX9_getsAppend 128 = .ok (.aload_n 0, 1) := by decide +kernel
theorem dX9_getsAppend_129 : decode cX9_getsAppend 129 = .ok (.iload_n 1, 1) := by decide +kernel
theorem dX9_getsAppend_130 : decode cX9_getsAppend 130 = .ok (.iconst 4, 1) := by decide +kernel
theorem dX9_getsAppend_131 : decode cX9_getsAppend 131 = .ok (.invokevirtual 146, 3) := by decide +kernel
theorem dX9_getsAppend_134 : decode cX9_getsAppend 134 = .ok (.iload_n 2, 1) := by decide +kernel
theorem dX9_getsAppend_135 : decode cX9_getsAppend 135 = .ok (.iconst 1, 1) := by decide +kernel
theorem dX9_getsAppend_136 : decode cX9_getsAppend 136 = .ok (.isub, 1) := by decide +kernel
theorem dX9_getsAppend_137 : decode cX9_getsAppend 137 = .ok (.if_icmp .ge 12, 3) := by decide +kernel
theorem dX9_getsAppend_140 : decode cX9_getsAppend 140 = .ok (.aload_n 0, 1) := by decide +kernel
theorem dX9_getsAppend_141 : decode cX9_getsAppend 141 = .ok (.iload_n 1, 1) := by decide +kernel
theorem dX9_getsAppend_142 : decode cX9_getsAppend 142 = .ok (.iconst 4, 1) := by decide +kernel
theorem dX9_getsAppend_143 : decode cX9_getsAppend 143 = .ok (.invokevirtual 146, 3) := by decide +kernel
theorem dX9_getsAppend_146 : decode cX9_getsAppend 146 = .ok (.goto 6, 3) := by decide +kernel
theorem dX9_getsAppend_149 : decode cX9_getsAppend 149 = .ok (.iload_n 2, 1) := by decide +kernel
theorem dX9_getsAppend_150 : decode cX9_getsAppend 150 = .ok (.iconst 1, 1) := by decide +kernel
theorem dX9_getsAppend_151 : decode cX9_getsAppend 151 = .ok (.isub, 1) := by decide +kernel
theorem dX9_getsAppend_152 : decode cX9_getsAppend 152 = .ok (.istore 4, 2) := by decide +kernel
theorem dX9_getsAppend_154 : decode cX9_getsAppend 154 = .ok (.aload_n 0, 1) := by decide +kernel
theorem dX9_getsAppend_155 : decode cX9_getsAppend 155 = .ok (.iload_n 1, 1) := by decide +kernel
theorem dX9_getsAppend_156 : decode cX9_getsAppend 156 = .ok (.iconst 0, 1) := by decide +kernel
theorem dX9_getsAppend_157 : decode cX9_getsAppend 157 = .ok (.iload 4, 2) := by decide +kernel
theorem dX9_getsAppend_159 : decode cX9_getsAppend 159 = .ok (.ifCond .ge 7, 3) := by decide +kernel
theorem dX9_getsAppend_162 : decode cX9_getsAppend 162 = .ok (.iconst 0, 1) := by decide +kernel
theorem dX9_getsAppend_163 : decode cX9_getsAppend 163 = .ok (.goto 5, 3) := by decide +kernel
theorem dX9_getsAppend_166 : decode cX9_getsAppend 166 = .ok (.iload 4, 2) := by decide +kernel
theorem dX9_getsAppend_168 : decode cX9_getsAppend 168 = .ok (.invokevirtual 229, 3) := by decide +kernel
theorem dX9_getsAppend_171 : decode cX9_getsAppend 171 = .ok (.ireturn, 1) := by decide +kernel
theorem dX9_getsAppend_172 : decode cX9_getsAppend 172 = .ok (.iload_n 2, 1) := by decide +kernel
theorem dX9_getsAppend_173 : decode cX9_getsAppend 173 = .ok (.istore_n 3, 1) := by decide +kernel
theorem dX9_getsAppend_174 : decode cX9_getsAppend 174 = .ok (.iconst 0, 1) := by decide +kernel
theorem dX9_getsAppend_175 : decode cX9_getsAppend 175 = .ok (.istore 4, 2) := by decide +kernel
theorem dX9_getsAppend_177 : decode cX9_getsAppend 177 = .ok (.iload 4, 2) := by decide +kernel
theorem dX9_getsAppend_179 : decode cX9_getsAppend 179 = .ok (.aload_n 0, 1) := by decide +kernel
theorem dX9_getsAppend_180 : decode cX9_getsAppend 180 = .ok (.getfield 41, 3) := by decide +kernel
theorem dX9_getsAppend_183 : decode cX9_getsAppend 183 = .ok (.bipush 6, 2) := by decide +kernel
theorem dX9_getsAppend_185 : decode cX9_getsAppend 185 = .ok (.iaload, 1) := by decide +kernel
theorem dX9_getsAppend_186 : decode cX9_getsAppend 186 = .ok (.if_icmp .ge 42, 3) := by decide +kernel
theorem dX9_getsAppend_189 : decode cX9_getsAppend 189 = .ok (.iload_n 3, 1) := by decide +kernel
theorem dX9_getsAppend_190 : decode cX9_getsAppend 190 = .ok (.iload_n 2, 1) := by decide +kernel
theorem dX9_getsAppend_191 : decode cX9_getsAppend 191 = .ok (.iload 4, 2) := by decide +kernel
theorem dX9_getsAppend_193 : decode cX9_getsAppend 193 = .ok (.iadd, 1) := by decide +kernel
theorem dX9_getsAppend_194 : decode cX9_getsAppend 194 = .ok (.if_icmp .ne 34, 3) := by decide +kernel
theorem dX9_getsAppend_197 : decode cX9_getsAppend 197 = .ok (.aload_n 0, 1) := by decide +kernel
theorem dX9_getsAppend_198 : decode cX9_getsAppend 198 = .ok (.iload_n 1, 1) := by decide +kernel
theorem dX9_getsAppend_199 : decode cX9_getsAppend 199 = .ok (.iload_n 2, 1) := by decide +kernel
theorem dX9_getsAppend_200 : decode cX9_getsAppend 200 = .ok (.iconst 1, 1) := by decide +kernel
theorem dX9_getsAppend_201 : decode cX9_getsAppend 201 = .ok (.iadd, 1) := by decide +kernel
theorem dX9_getsAppend_202 : decode cX9_getsAppend 202 = .ok (.iload 4, 2) := by decide +kernel
theorem dX9_getsAppend_204 : decode cX9_getsAppend 204 = .ok (.iadd, 1) := by decide +kernel
theorem dX9_getsAppend_205 : decode cX9_getsAppend 205 = .ok (.bipush 10, 2) := by decide +kernel
theorem dX9_getsAppend_207 : decode cX9_getsAppend 207 = .ok (.bipush 6, 2) := by decide +kernel
theorem dX9_getsAppend_209 : decode cX9_getsAppend 209 = .ok (.iload 4, 2) := by decide +kernel
theorem dX9_getsAppend_211 : decode cX9_getsAppend 211 = .ok (.imul, 1) := by decide +kernel
theorem dX9_getsAppend_212 : decode cX9_getsAppend 212 = .ok (.iadd, 1) := by decide +kernel
theorem dX9_getsAppend_213 : decode cX9_getsAppend 213 = .ok (.invokevirtual 233, 3) := by decide +kernel
theorem dX9_getsAppend_216 : decode cX9_getsAppend 216 = .ok (.ifCond .eq 6, 3) := by decide +kernel
theorem dX9_getsAppend_219 : decode cX9_getsAppend 219 = .ok (.iinc 3 1, 3) := by decide +kernel
theorem dX9_getsAppend_222 : decode cX9_getsAppend 222 = .ok (.iinc 4 1, 3) := by decide +kernel
theorem dX9_getsAppend_225 : decode cX9_getsAppend 225 = .ok (.goto (-48), 3) := by decide +kernel
theorem dX9_getsAppend_228 : decode cX9_getsAppend 228 = .ok (.aload_n 0, 1) := by decide +kernel
theorem dX9_getsAppend_229 : decode cX9_getsAppend 229 = .ok (.getfield 41, 3) := by decide +kernel
theorem dX9_getsAppend_232 : decode cX9_getsAppend 232 = .ok (.bipush 7, 2) := by decide +kernel
theorem dX9_getsAppend_234 : decode cX9_getsAppend 234 = .ok (.iaload, 1) := by decide +kernel
theorem dX9_getsAppend_235 : decode cX9_getsAppend 235 = .ok (.iload_n 3, 1) := by decide +kernel
theorem dX9_getsAppend_236 : decode cX9_getsAppend 236 = .ok (.if_icmp .ge 13, 3) := by decide +kernel
theorem dX9_getsAppend_239 : decode cX9_getsAppend 239 = .ok (.aload_n 0, 1) := by decide +kernel
theorem dX9_getsAppend_240 : decode cX9_getsAppend 240 = .ok (.getfield 41, 3) := by decide +kernel
theorem dX9_getsAppend_243 : decode cX9_getsAppend 243 = .ok (.bipush 7, 2) := by decide +kernel
theorem dX9_getsAppend_245 : decode cX9_getsAppend 245 = .ok (.iaload, 1) := by decide +kernel
theorem dX9_getsAppend_246 : decode cX9_getsAppend 246 = .ok (.goto 4, 3) := by decide +kernel
theorem dX9_getsAppend_249 : decode cX9_getsAppend 249 = .ok (.iload_n 3, 1) := by decide +kernel
theorem dX9_getsAppend_250 : decode cX9_getsAppend 250 = .ok (.istore 4, 2) := by decide +kernel
theorem dX9_getsAppend_252 : decode cX9_getsAppend 252 = .ok (.aload_n 0, 1) := by decide +kernel
theorem dX9_getsAppend_253 : decode cX9_getsAppend 253 = .ok (.iload_n 1, 1) := by decide +kernel
theorem dX9_getsAppend_254 : decode cX9_getsAppend 254 = .ok (.iload 4, 2) := by decide +kernel
theorem dX9_getsAppend_256 : decode cX9_getsAppend 256 = .ok (.invokevirtual 179, 3) := by decide +kernel
theorem dX9_getsAppend_259 : decode cX9_getsAppend 259 = .ok (.aload_n 0, 1) := by decide +kernel
theorem dX9_getsAppend_260 : decode cX9_getsAppend 260 = .ok (.iload_n 1, 1) := by decide +kernel
theorem dX9_getsAppend_261 : decode cX9_getsAppend 261 = .ok (.iconst 1, 1) := by decide +kernel
theorem dX9_getsAppend_262 : decode cX9_getsAppend 262 = .ok (.iload_n 3, 1) := by decide +kernel
theorem dX9_getsAppend_263 : decode cX9_getsAppend 263 = .ok (.invokevirtual 229, 3) := by decide +kernel
theorem dX9_getsAppend_266 : decode cX9_getsAppend 266 = .ok (.ireturn, 1) := by decide +kernel
theorem dX9_takes_0 : decode cX9_takes 0 = .ok (.iload_n 2, 1) := by decide +kernel
theorem dX9_takes_1 : decode cX9_takes 1 = .ok (.aload_n 0, 1) := by decide +kernel
theorem dX9_takes_2 : decode cX9_takes 2 = .ok (.iload_n 1, 1) := by decide +kernel
theorem dX9_takes_3 : decode cX9_takes 3 = .ok (.iconst 2, 1) := by decide +kernel
theorem dX9_takes_4 : decode cX9_takes 4 = .ok (.invokevirtual 146, 3) := by decide +kernel
theorem dX9_takes_7 : decode cX9_takes 7 = .ok (.if_icmp .gt 5, 3) := by decide +kernel
theorem dX9_takes_10 : decode cX9_takes 10 = .ok (.iconst 1, 1) := by decide +kernel
theorem dX9_takes_11 : decode cX9_takes 11 = .ok (.ireturn, 1) := by decide +kernel
theorem dX9_takes_12 : decode cX9_takes 12 = .ok (.iload_n 2, 1) := by decide +kernel
theorem dX9_takes_13 : decode cX9_takes 13 = .ok (.aload_n 0, 1) := by decide +kernel
theorem dX9_takes_14 : decode cX9_takes 14 = .ok (.iload_n 1, 1) := by decide +kernel
theorem dX9_takes_15 : decode cX9_takes 15 = .ok (.iconst 4, 1) := by decide +kernel
theorem dX9_takes_16 : decode cX9_takes 16 = .ok (.invokevirtual 146, 3) := by decide +kernel
theorem dX9_takes_19 : decode cX9_takes 19 = .ok (.if_icmp .gt 20, 3) := by decide +kernel
theorem dX9_takes_22 : decode cX9_takes 22 = .ok (.aload_n 0, 1) := by decide +kernel
theorem dX9_takes_23 : decode cX9_takes 23 = .ok (.iload_n 1, 1) := by decide +kernel
theorem dX9_takes_24 : decode cX9_takes 24 = .ok (.iload_n 2, 1) := by decide +kernel
theorem dX9_takes_25 : decode cX9_takes 25 = .ok (.invokevirtual 172, 3) := by decide +kernel
theorem dX9_takes_28 : decode cX9_takes 28 = .ok (.aload_n 0, 1) := by decide +kernel
theorem dX9_takes_29 : decode cX9_takes 29 = .ok (.getfield 41, 3) := by decide +kernel
theorem dX9_takes_32 : decode cX9_takes 32 = .ok (.iload_n 3, 1) := by decide +kernel
theorem dX9_takes_33 : decode cX9_takes 33 = .ok (.iaload, 1) := by decide +kernel
theorem dX9_takes_34 : decode cX9_takes 34 = .ok (.if_icmp .ne 5, 3) := by decide +kernel
theorem dX9_takes_37 : decode cX9_takes 37 = .ok (.iconst 1, 1) := by decide +kernel
theorem dX9_takes_38 : decode cX9_takes 38 = .ok (.ireturn, 1) := by decide +kernel
theorem dX9_takes_39 : decode cX9_takes 39 = .ok (.iload_n 2, 1) := by decide +kernel
theorem dX9_takes_40 : decode cX9_takes 40 = .ok (.aload_n 0, 1) := by decide +kernel
theorem dX9_takes_41 : decode cX9_takes 41 = .ok (.iload_n 1, 1) := by decide +kernel
theorem dX9_takes_42 : decode cX9_takes 42 = .ok (.iconst 4, 1) := by decide +kernel
theorem dX9_takes_43 : decode cX9_takes 43 = .ok (.invokevirtual 146, 3) := by decide +kernel
theorem dX9_takes_46 : decode cX9_takes 46 = .ok (.if_icmp .gt 12, 3) := by decide +kernel
theorem dX9_takes_49 : decode cX9_takes 49 = .ok (.aload_n 0, 1) := by decide +kernel
theorem dX9_takes_50 : decode cX9_takes 50 = .ok (.iload_n 1, 1) := by decide +kernel
theorem dX9_takes_51 : decode cX9_takes 51 = .ok (.iconst 4, 1) := by decide +kernel
theorem dX9_takes_52 : decode cX9_takes 52 = .ok (.iload_n 2, 1) := by decide +kernel
theorem dX9_takes_53 : decode cX9_takes 53 = .ok (.iconst 1, 1) := by decide +kernel
theorem dX9_takes_54 : decode cX9_takes 54 = .ok (.isub, 1) := by decide +kernel
theorem dX9_takes_55 : decode cX9_takes 55 = .ok (.invokevirtual 139, 3) := by decide +kernel
theorem dX9_takes_58 : decode cX9_takes 58 = .ok (.aload_n 0, 1) := by decide +kernel
theorem dX9_takes_59 : decode cX9_takes 59 = .ok (.iload_n 1, 1) := by decide +kernel
theorem dX9_takes_60 : decode cX9_takes 60 = .ok (.iconst 4, 1) := by decide +kernel
theorem dX9_takes_61 : decode cX9_takes 61 = .ok (.invokevirtual 146, 3) := by decide +kernel
theorem dX9_takes_64 : decode cX9_takes 64 = .ok (.aload_n 0, 1) := by decide +kernel
theorem dX9_takes_65 : decode cX9_takes 65 = .ok (.iload_n 1, 1) := by decide +kernel
theorem dX9_takes_66 : decode cX9_takes 66 = .ok (.iconst 2, 1) := by decide +kernel
theorem dX9_takes_67 : decode cX9_takes 67 = .ok (.invokevirtual 146, 3) := by decide +kernel
theorem dX9_takes_70 : decode cX9_takes 70 = .ok (.isub, 1) := by decide +kernel
theorem dX9_takes_71 : decode cX9_takes 71 = .ok (.bipush 40, 2) := by decide +kernel
theorem dX9_takes_73 : decode cX9_takes 73 = .ok (.if_icmp .lt 5, 3) := by decide +kernel
theorem dX9_takes_76 : decode cX9_takes 76 = .ok (.iconst 0, 1) := by decide +kernel
theorem dX9_takes_77 : decode cX9_takes 77 = .ok (.ireturn, 1) := by decide +kernel
theorem dX9_takes_78 : decode cX9_takes 78 = .ok (.aload_n 0, 1) := by decide +kernel
theorem dX9_takes_79 : decode cX9_takes 79 = .ok (.iload_n 1, 1) := by decide +kernel
theorem dX9_takes_80 : decode cX9_takes 80 = .ok (.iconst 4, 1) := by decide +kernel
theorem dX9_takes_81 : decode cX9_takes 81 = .ok (.iload_n 2, 1) := by decide +kernel
theorem dX9_takes_82 : decode cX9_takes 82 = .ok (.invokevirtual 139, 3) := by decide +kernel
theorem dX9_takes_85 : decode cX9_takes 85 = .ok (.iconst 0, 1) := by decide +kernel
theorem dX9_takes_86 : decode cX9_takes 86 = .ok (.istore 4, 2) := by decide +kernel
theorem dX9_takes_88 : decode cX9_takes 88 = .ok (.iload 4, 2) := by decide +kernel
theorem dX9_takes_90 : decode cX9_takes 90 = .ok (.bipush 6, 2) := by decide +kernel
theorem dX9_takes_92 : decode cX9_takes 92 = .ok (.if_icmp .ge 32, 3) := by decide +kernel
theorem dX9_takes_95 : decode cX9_takes 95 = .ok (.aload_n 0, 1) := by decide +kernel
theorem dX9_takes_96 : decode cX9_takes 96 = .ok (.getfield 16, 3) := by decide +kernel
theorem dX9_takes_99 : decode cX9_takes 99 = .ok (.aload_n 0, 1) := by decide +kernel
theorem dX9_takes_100 : decode cX9_takes 100 = .ok (.iload_n 1, 1) := by decide +kernel
theorem dX9_takes_101 : decode cX9_takes 101 = .ok (.iload_n 2, 1) := by decide +kernel
theorem dX9_takes_102 : decode cX9_takes 102 = .ok (.invokevirtual 153, 3) := by decide +kernel
theorem dX9_takes_105 : decode cX9_takes 105 = .ok (.iload 4, 2) := by decide +kernel
theorem dX9_takes_107 : decode cX9_takes 107 = .ok (.iadd, 1) := by decide +kernel
theorem dX9_takes_108 : decode cX9_takes 108 = .ok (.aload_n 0, 1) := by decide +kernel
theorem dX9_takes_109 : decode cX9_takes 109 = .ok (.getfield 41, 3) := by decide +kernel
theorem dX9_takes_112 : decode cX9_takes 112 = .ok (.iload_n 3, 1) := by decide +kernel
theorem dX9_takes_113 : decode cX9_takes 113 = .ok (.iload 4, 2) := by decide +kernel
theorem dX9_takes_115 : decode cX9_takes 115 = .ok (.iadd, 1) := by decide +kernel
theorem dX9_takes_116 : decode cX9_takes 116 = .ok (.iaload, 1) := by decide +kernel
theorem dX9_takes_117 : decode cX9_takes 117 = .ok (.iastore, 1) := by decide +kernel
theorem dX9_takes_118 : decode cX9_takes 118 = .ok (.iinc 4 1, 3) := by decide +kernel
theorem dX9_takes_121 : decode cX9_takes 121 = .ok (.goto (-33), 3) := by decide +kernel
theorem dX9_takes_124 : decode cX9_takes 124 = .ok (.iconst 1, 1) := by decide +kernel
theorem dX9_takes_125 : decode cX9_takes 125 = .ok (.ireturn, 1) := by decide +kernel
theorem dX9_getsFolding_0 : decode cX9_getsFolding 0 = .ok (.aload_n 0, 1) := by decide +kernel
theorem dX9_getsFolding_1 : decode cX9_getsFolding 1 = .ok (.getfield 41, 3) := by decide +kernel
theorem dX9_getsFolding_4 : decode cX9_getsFolding 4 = .ok (.iconst 3, 1) := by decide +kernel
theorem dX9_getsFolding_5 : decode cX9_getsFolding 5 = .ok (.iaload, 1) := by decide +kernel
theorem dX9_getsFolding_6 : decode cX9_getsFolding 6 = .ok (.aload_n 0, 1) := by decide +kernel
theorem dX9_getsFolding_7 : decode cX9_getsFolding 7 = .ok (.iload_n 1, 1) := by decide +kernel
theorem dX9_getsFolding_8 : decode cX9_getsFolding 8 = .ok (.iconst 0, 1) := by decide +kernel
theorem dX9_getsFolding_9 : decode cX9_getsFolding 9 = .ok (.invokevirtual 146, 3) := by decide +kernel
theorem dX9_getsFolding_12 : decode cX9_getsFolding 12 = .ok (.if_icmp .ge 11, 3) := by decide +kernel
theorem dX9_getsFolding_15 : decode cX9_getsFolding 15 = .ok (.aload_n 0, 1) := by decide +kernel
theorem dX9_getsFolding_16 : decode cX9_getsFolding 16 = .ok (.iload_n 1, 1) := by decide +kernel
theorem dX9_getsFolding_17 : decode cX9_getsFolding 17 = .ok (.iconst 0, 1) := by decide +kernel
theorem dX9_getsFolding_18 : decode cX9_getsFolding 18 = .ok (.iconst 0, 1) := by decide +kernel
theorem dX9_getsFolding_19 : decode cX9_getsFolding 19 = .ok (.invokevirtual 229, 3) := by decide +kernel
theorem dX9_getsFolding_22 : decode cX9_getsFolding 22 = .ok (.ireturn, 1) := by decide +kernel
theorem dX9_getsFolding_23 : decode cX9_getsFolding 23 = .ok (.aload_n 0, 1) := by decide +kernel
theorem dX9_getsFolding_24 : decode cX9_getsFolding 24 = .ok (.iload_n 1, 1) := by decide +kernel
theorem dX9_getsFolding_25 : decode cX9_getsFolding 25 = .ok (.iconst 5, 1) := by decide +kernel
theorem dX9_getsFolding_26 : decode cX9_getsFolding 26 = .ok (.invokevirtual 146, 3) := by decide +kernel
theorem dX9_getsFolding_29 : decode cX9_getsFolding 29 = .ok (.iconst 2, 1) := by decide +kernel
theorem dX9_getsFolding_30 : decode cX9_getsFolding 30 = .ok (.if_icmp .ne 5, 3) := by decide +kernel
theorem dX9_getsFolding_33 : decode cX9_getsFolding 33 = .ok (.iconst 0, 1) := by decide +kernel
theorem dX9_getsFolding_34 : decode cX9_getsFolding 34 = .ok (.ireturn, 1) := by decide +kernel
theorem dX9_getsFolding_35 : decode cX9_getsFolding 35 = .ok (.aload_n 0, 1) := by decide +kernel
theorem dX9_getsFolding_36 : decode cX9_getsFolding 36 = .ok (.iload_n 1, 1) := by decide +kernel
theorem dX9_getsFolding_37 : decode cX9_getsFolding 37 = .ok (.iconst 5, 1) := by decide +kernel
theorem dX9_getsFolding_38 : decode cX9_getsFolding 38 = .ok (.iconst 0, 1) := by decide +kernel
theorem dX9_getsFolding_39 : decode cX9_getsFolding 39 = .ok (.invokevirtual 139, 3) := by decide +kernel
theorem dX9_getsFolding_42 : decode cX9_getsFolding 42 = .ok (.aload_n 0, 1) := by decide +kernel
theorem dX9_getsFolding_43 : decode cX9_getsFolding 43 = .ok (.getfield 41, 3) := by decide +kernel
theorem dX9_getsFolding_46 : decode cX9_getsFolding 46 = .ok (.iconst 4, 1) := by decide +kernel
theorem dX9_getsFolding_47 : decode cX9_getsFolding 47 = .ok (.iaload, 1) := by decide +kernel
theorem dX9_getsFolding_48 : decode cX9_getsFolding 48 = .ok (.istore_n 2, 1) := by decide +kernel
theorem dX9_getsFolding_49 : decode cX9_getsFolding 49 = .ok (.iload_n 2, 1) := by decide +kernel
theorem dX9_getsFolding_50 : decode cX9_getsFolding 50 = .ok (.aload_n 0, 1) := by decide +kernel
theorem dX9_getsFolding_51 : decode cX9_getsFolding 51 = .ok (.iload_n 1, 1) := by decide +kernel
theorem dX9_getsFolding_52 : decode cX9_getsFolding 52 = .ok (.bipush 6, 2) := by decide +kernel
theorem dX9_getsFolding_54 : decode cX9_getsFolding 54 = .ok (.invokevirtual 146, 3) := by decide +kernel
theorem dX9_getsFolding_57 : decode cX9_getsFolding 57 = .ok (.if_icmp .le 185, 3) := by decide +kernel
theorem dX9_getsFolding_60 : decode cX9_getsFolding 60 = .ok (.iload_n 2, 1) := by decide +kernel
theorem dX9_getsFolding_61 : decode cX9_getsFolding 61 = .ok (.aload_n 0, 1) := by decide +kernel
theorem dX9_getsFolding_62 : decode cX9_getsFolding 62 = .ok (.iload_n 1, 1) := by decide +kernel
theorem dX9_getsFolding_63 : decode cX9_getsFolding 63 = .ok (.iconst 4, 1) := by decide +kernel
theorem dX9_getsFolding_64 : decode cX9_getsFolding 64 = .ok (.invokevirtual 146, 3) := by decide +kernel
theorem dX9_getsFolding_67 : decode cX9_getsFolding 67 = .ok (.if_icmp .gt 32, 3) := by decide +kernel
theorem dX9_getsFolding_70 : decode cX9_getsFolding 70 = .ok (.iload_n 2, 1) := by decide +kernel
theorem dX9_getsFolding_71 : decode cX9_getsFolding 71 = .ok (.aload_n 0, 1) := by decide +kernel
theorem dX9_getsFolding_72 : decode cX9_getsFolding 72 = .ok (.iload_n 1, 1) := by decide +kernel
theorem dX9_getsFolding_73 : decode cX9_getsFolding 73 = .ok (.iconst 2, 1) := by decide +kernel
theorem dX9_getsFolding_74 : decode cX9_getsFolding 74 = .ok (.invokevirtual 146, 3) := by decide +kernel
theorem dX9_getsFolding_77 : decode cX9_getsFolding 77 = .ok (.if_icmp .le 22, 3) := by decide +kernel
theorem dX9_getsFolding_80 : decode cX9_getsFolding 80 = .ok (.aload_n 0, 1) := by decide +kernel
theorem dX9_getsFolding_81 : decode cX9_getsFolding 81 = .ok (.iload_n 1, 1) := by decide +kernel
theorem dX9_getsFolding_82 : decode cX9_getsFolding 82 = .ok (.iload_n 2, 1) := by decide +kernel
theorem dX9_getsFolding_83 : decode cX9_getsFolding 83 = .ok (.invokevirtual 172, 3) := by decide +kernel
theorem dX9_getsFolding_86 : decode cX9_getsFolding 86 = .ok (.aload_n 0, 1) := by decide +kernel
theorem dX9_getsFolding_87 : decode cX9_getsFolding 87 = .ok (.getfield 41, 3) := by decide +kernel
theorem dX9_getsFolding_90 : decode cX9_getsFolding 90 = .ok (.iconst 5, 1) := by decide +kernel
theorem dX9_getsFolding_91 : decode cX9_getsFolding 91 = .ok (.iaload, 1) := by decide +kernel
theorem dX9_getsFolding_92 : decode cX9_getsFolding 92 = .ok (.if_icmp .ne 7, 3) := by decide +kernel
theorem dX9_getsFolding_95 : decode cX9_getsFolding 95 = .ok (.iconst 1, 1) := by decide +kernel
theorem dX9_getsFolding_96 : decode cX9_getsFolding 96 = .ok (.goto 4, 3) := by decide +kernel
theorem dX9_getsFolding_99 : decode cX9_getsFolding 99 = .ok (.iconst 0, 1) := by decide +kernel
theorem dX9_getsFolding_100 : decode cX9_getsFolding 100 = .ok (.istore_n 3, 1) := by decide +kernel
theorem dX9_getsFolding_101 : decode cX9_getsFolding 101 = .ok (.iload_n 3, 1) := by decide +kernel
theorem dX9_getsFolding_102 : decode cX9_getsFolding 102 = .ok (.ifCond .eq 14, 3) := by decide +kernel
theorem dX9_getsFolding_105 : decode cX9_getsFolding 105 = .ok (.aload_n 0, 1) := by decide +kernel
theorem dX9_getsFolding_106 : decode cX9_getsFolding 106 = .ok (.iload_n 1, 1) := by decide +kernel
theorem dX9_getsFolding_107 : decode cX9_getsFolding 107 = .ok (.iconst 4, 1) := by decide +kernel
theorem dX9_getsFolding_108 : decode cX9_getsFolding 108 = .ok (.invokevirtual 146, 3) := by decide +kernel
theorem dX9_getsFolding_111 : decode cX9_getsFolding 111 = .ok (.iload_n 2, 1) := by decide +kernel
theorem dX9_getsFolding_112 : decode cX9_getsFolding 112 = .ok (.isub, 1) := by decide +kernel
theorem dX9_getsFolding_113 : decode cX9_getsFolding 113 = .ok (.goto 4, 3) := by decide +kernel
theorem dX9_getsFolding_116 : decode cX9_getsFolding 116 = .ok (.iconst 0, 1) := by decide +kernel
theorem dX9_getsFolding_117 : decode cX9_getsFolding 117 = .ok (.istore 4, 2) := by decide +kernel
theorem dX9_getsFolding_119 : decode cX9_getsFolding 119 = .ok (.iload_n 3, 1) := by decide +kernel
theorem dX9_getsFolding_120 : decode cX9_getsFolding 120 = .ok (.ifCond .eq 29, 3) := by decide +kernel
theorem dX9_getsFolding_123 : decode cX9_getsFolding 123 = .ok (.aload_n 0, 1) := by decide +kernel
theorem dX9_getsFolding_124 : decode cX9_getsFolding 124 = .ok (.aload_n 0, 1) := by decide +kernel
theorem dX9_getsFolding_125 : decode cX9_getsFolding 125 = .ok (.iload_n 1, 1) := by decide +kernel
theorem dX9_getsFolding_126 : decode cX9_getsFolding 126 = .ok (.iload_n 2, 1) := by decide +kernel
theorem dX9_getsFolding_127 : decode cX9_getsFolding 127 = .ok (.invokevirtual 153, 3) := by decide +kernel
theorem dX9_getsFolding_130 : decode cX9_getsFolding 130 = .ok (.bipush 6, 2) := by decide +kernel
theorem dX9_getsFolding_132 : decode cX9_getsFolding 132 = .ok (.iadd, 1) := by decide +kernel
theorem dX9_getsFolding_133 : decode cX9_getsFolding 133 = .ok (.sipush 320, 3) := by decide +kernel
theorem dX9_getsFolding_136 : decode cX9_getsFolding 136 = .ok (.iload_n 1, 1) := by decide +kernel
theorem dX9_getsFolding_137 : decode cX9_getsFolding 137 = .ok (.imul, 1) := by decide +kernel
theorem dX9_getsFolding_138 : decode cX9_getsFolding 138 = .ok (.bipush 80, 2) := by decide +kernel
theorem dX9_getsFolding_140 : decode cX9_getsFolding 140 = .ok (.iadd, 1) := by decide +kernel
theorem dX9_getsFolding_141 : decode cX9_getsFolding 141 = .ok (.bipush 6, 2) := by decide +kernel
theorem dX9_getsFolding_143 : decode cX9_getsFolding 143 = .ok (.iload 4, 2) := by decide +kernel
theorem dX9_getsFolding_145 : decode cX9_getsFolding 145 = .ok (.imul, 1) := by decide +kernel
theorem dX9_getsFolding_146 : decode cX9_getsFolding 146 = .ok (.invokevirtual 208, 3) := by decide +kernel
theorem dX9_getsFolding_149 : decode cX9_getsFolding 149 = .ok (.aload_n 0, 1) := by decide +kernel
theorem dX9_getsFolding_150 : decode cX9_getsFolding 150 = .ok (.iload_n 1, 1) := by decide +kernel
theorem dX9_getsFolding_151 : decode cX9_getsFolding 151 = .ok (.iconst 2, 1) := by decide +kernel
theorem dX9_getsFolding_152 : decode cX9_getsFolding 152 = .ok (.iload_n 2, 1) := by decide +kernel
theorem dX9_getsFolding_153 : decode cX9_getsFolding 153 = .ok (.invokevirtual 139, 3) := by decide +kernel
theorem dX9_getsFolding_156 : decode cX9_getsFolding 156 = .ok (.aload_n 0, 1) := by decide +kernel
theorem dX9_getsFolding_157 : decode cX9_getsFolding 157 = .ok (.iload_n 1, 1) := by decide +kernel
theorem dX9_getsFolding_158 : decode cX9_getsFolding 158 = .ok (.iconst 3, 1) := by decide +kernel
theorem dX9_getsFolding_159 : decode cX9_getsFolding 159 = .ok (.aload_n 0, 1) := by decide +kernel
theorem dX9_getsFolding_160 : decode cX9_getsFolding 160 = .ok (.getfield 41, 3) := by decide +kernel
theorem dX9_getsFolding_163 : decode cX9_getsFolding 163 = .ok (.iconst 5, 1) := by decide +kernel
theorem dX9_getsFolding_164 : decode cX9_getsFolding 164 = .ok (.iaload, 1) := by decide +kernel
theorem dX9_getsFolding_165 : decode cX9_getsFolding 165 = .ok (.invokevirtual 139, 3) := by decide +kernel
theorem dX9_getsFolding_168 : decode cX9_getsFolding 168 = .ok (.aload_n 0, 1) := by decide +kernel
theorem dX9_getsFolding_169 : decode cX9_getsFolding 169 = .ok (.iload_n 1, 1) := by decide +kernel
theorem dX9_getsFolding_170 : decode cX9_getsFolding 170 = .ok (.iconst 4, 1) := by decide +kernel
theorem dX9_getsFolding_171 : decode cX9_getsFolding 171 = .ok (.iload_n 2, 1) := by decide +kernel
theorem dX9_getsFolding_172 : decode cX9_getsFolding 172 = .ok (.iload 4, 2) := by decide +kernel
theorem dX9_getsFolding_174 : decode cX9_getsFolding 174 = .ok (.iadd, 1) := by decide +kernel
theorem dX9_getsFolding_175 : decode cX9_getsFolding 175 = .ok (.invokevirtual 139, 3) := by decide +kernel
theorem dX9_getsFolding_178 : decode cX9_getsFolding 178 = .ok (.aload_n 0, 1) := by decide +kernel
theorem dX9_getsFolding_179 : decode cX9_getsFolding 179 = .ok (.iload_n 1, 1) := by decide +kernel
theorem dX9_getsFolding_180 : decode cX9_getsFolding 180 = .ok (.bipush 6, 2) := by decide +kernel
theorem dX9_getsFolding_182 : decode cX9_getsFolding 182 = .ok (.iload_n 2, 1) := by decide +kernel
theorem dX9_getsFolding_183 : decode cX9_getsFolding 183 = .ok (.invokevirtual 139, 3) := by decide +kernel
theorem dX9_getsFolding_186 : decode cX9_getsFolding 186 = .ok (.iconst 0, 1) := by decide +kernel
theorem dX9_getsFolding_187 : decode cX9_getsFolding 187 = .ok (.istore 5, 2) := by decide +kernel
theorem dX9_getsFolding_189 : decode cX9_getsFolding 189 = .ok (.iload 5, 2) := by decide +kernel
theorem dX9_getsFolding_191 : decode cX9_getsFolding 191 = .ok (.bipush 20, 2) := by decide +kernel
theorem dX9_getsFolding_193 : decode cX9_getsFolding 193 = .ok (.if_icmp .ge 49, 3) := by decide +kernel
theorem dX9_getsFolding_196 : decode cX9_getsFolding 196 = .ok (.aload_n 0, 1) := by decide +kernel
theorem dX9_getsFolding_197 : decode cX9_getsFolding 197 = .ok (.iload_n 1, 1) := by decide +kernel
theorem dX9_getsFolding_198 : decode cX9_getsFolding 198 = .ok (.bipush 10, 2) := by decide +kernel
theorem dX9_getsFolding_200 : decode cX9_getsFolding 200 = .ok (.iload 5, 2) := by decide +kernel
theorem dX9_getsFolding_202 : decode cX9_getsFolding 202 = .ok (.iadd, 1) := by decide +kernel
theorem dX9_getsFolding_203 : decode cX9_getsFolding 203 = .ok (.aload_n 0, 1) := by decide +kernel
theorem dX9_getsFolding_204 : decode cX9_getsFolding 204 = .ok (.getfield 41, 3) := by decide +kernel
theorem dX9_getsFolding_207 : decode cX9_getsFolding 207 = .ok (.bipush 10, 2) := by decide +kernel
theorem dX9_getsFolding_209 : decode cX9_getsFolding 209 = .ok (.iload 5, 2) := by decide +kernel
theorem dX9_getsFolding_211 : decode cX9_getsFolding 211 = .ok (.iadd, 1) := by decide +kernel
theorem dX9_getsFolding_212 : decode cX9_getsFolding 212 = .ok (.iaload, 1) := by decide +kernel
theorem dX9_getsFolding_213 : decode cX9_getsFolding 213 = .ok (.invokevirtual 139, 3) := by decide +kernel
theorem dX9_getsFolding_216 : decode cX9_getsFolding 216 = .ok (.aload_n 0, 1) := by decide +kernel
theorem dX9_getsFolding_217 : decode cX9_getsFolding 217 = .ok (.iload_n 1, 1) := by decide +kernel
theorem dX9_getsFolding_218 : decode cX9_getsFolding 218 = .ok (.bipush 30, 2) := by decide +kernel
theorem dX9_getsFolding_220 : decode cX9_getsFolding 220 = .ok (.iload 5, 2) := by decide +kernel
theorem dX9_getsFolding_222 : decode cX9_getsFolding 222 = .ok (.iadd, 1) := by decide +kernel
theorem dX9_getsFolding_223 : decode cX9_getsFolding 223 = .ok (.aload_n 0, 1) := by decide +kernel
theorem dX9_getsFolding_224 : decode cX9_getsFolding 224 = .ok (.getfield 41, 3) := by decide +kernel
theorem dX9_getsFolding_227 : decode cX9_getsFolding 227 = .ok (.bipush 10, 2) := by decide +kernel
theorem dX9_getsFolding_229 : decode cX9_getsFolding 229 = .ok (.iload 5, 2) := by decide +kernel
theorem dX9_getsFolding_231 : decode cX9_getsFolding 231 = .ok (.iadd, 1) := by decide +kernel
theorem dX9_getsFolding_232 : decode cX9_getsFolding 232 = .ok (.iaload, 1) := by decide +kernel
theorem dX9_getsFolding_233 : decode cX9_getsFolding 233 = .ok (.invokevirtual 139, 3) := by decide +kernel
theorem dX9_getsFolding_236 : decode cX9_getsFolding 236 = .ok (.iinc 5 1, 3) := by decide +kernel
theorem dX9_getsFolding_239 : decode cX9_getsFolding 239 = .ok (.goto (-50), 3) := by decide +kernel
theorem dX9_getsFolding_242 : decode cX9_getsFolding 242 = .ok (.aload_n 0, 1) := by decide +kernel
theorem dX9_getsFolding_243 : decode cX9_getsFolding 243 = .ok (.iload_n 1, 1) := by decide +kernel
theorem dX9_getsFolding_244 : decode cX9_getsFolding 244 = .ok (.iconst 1, 1) := by decide +kernel
theorem dX9_getsFolding_245 : decode cX9_getsFolding 245 = .ok (.iload_n 2, 1) := by decide +kernel
theorem dX9_getsFolding_246 : decode cX9_getsFolding 246 = .ok (.invokevirtual 229, 3) := by decide +kernel
theorem dX9_getsFolding_249 : decode cX9_getsFolding 249 = .ok (.ireturn, 1) := by decide +kernel
theorem dX9_getsAnswer_0 : decode cX9_getsAnswer 0 = .ok (.aload_n 0, 1) := by decide +kernel
theorem dX9_getsAnswer_1 : decode cX9_getsAnswer 1 = .ok (.iload_n 1, 1) := by decide +kernel
theorem dX9_getsAnswer_2 : decode cX9_getsAnswer 2 = .ok (.iconst 5, 1) := by decide +kernel
theorem dX9_getsAnswer_3 : decode cX9_getsAnswer 3 = .ok (.invokevirtual 146, 3) := by decide +kernel
theorem dX9_getsAnswer_6 : decode cX9_getsAnswer 6 = .ok (.iconst 2, 1) := by decide +kernel
theorem dX9_getsAnswer_7 : decode cX9_getsAnswer 7 = .ok (.if_icmp .ne 18, 3) := by decide +kernel
theorem dX9_getsAnswer_10 : decode cX9_getsAnswer 10 = .ok (.aload_n 0, 1) := by decide +kernel
theorem dX9_getsAnswer_11 : decode cX9_getsAnswer 11 = .ok (.iload_n 1, 1) := by decide +kernel
theorem dX9_getsAnswer_12 : decode cX9_getsAnswer 12 = .ok (.iconst 0, 1) := by decide +kernel
theorem dX9_getsAnswer_13 : decode cX9_getsAnswer 13 = .ok (.invokevirtual 146, 3) := by decide +kernel
theorem dX9_getsAnswer_16 : decode cX9_getsAnswer 16 = .ok (.aload_n 0, 1) := by decide +kernel
theorem dX9_getsAnswer_17 : decode cX9_getsAnswer 17 = .ok (.getfield 41, 3) := by decide +kernel
theorem dX9_getsAnswer_20 : decode cX9_getsAnswer 20 = .ok (.iconst 3, 1) := by decide +kernel
theorem dX9_getsAnswer_21 : decode cX9_getsAnswer 21 = .ok (.iaload, 1) := by decide +kernel
theorem dX9_getsAnswer_22 : decode cX9_getsAnswer 22 = .ok (.if_icmp .eq 5, 3) := by decide +kernel
theorem dX9_getsAnswer_25 : decode cX9_getsAnswer 25 = .ok (.iconst 0, 1) := by decide +kernel
theorem dX9_getsAnswer_26 : decode cX9_getsAnswer 26 = .ok (.ireturn, 1) := by decide +kernel
theorem dX9_getsAnswer_27 : decode cX9_getsAnswer 27 = .ok (.aload_n 0, 1) := by decide +kernel
theorem dX9_getsAnswer_28 : decode cX9_getsAnswer 28 = .ok (.getfield 41, 3) := by decide +kernel
theorem dX9_getsAnswer_31 : decode cX9_getsAnswer 31 = .ok (.iconst 1, 1) := by decide +kernel
theorem dX9_getsAnswer_32 : decode cX9_getsAnswer 32 = .ok (.iaload, 1) := by decide +kernel
theorem dX9_getsAnswer_33 : decode cX9_getsAnswer 33 = .ok (.istore_n 2, 1) := by decide +kernel
theorem dX9_getsAnswer_34 : decode cX9_getsAnswer 34 = .ok (.aload_n 0, 1) := by decide +kernel
theorem dX9_getsAnswer_35 : decode cX9_getsAnswer 35 = .ok (.getfield 41, 3) := by decide +kernel
theorem dX9_getsAnswer_38 : decode cX9_getsAnswer 38 = .ok (.bipush 8, 2) := by decide +kernel
theorem dX9_getsAnswer_40 : decode cX9_getsAnswer 40 = .ok (.iaload, 1) := by decide +kernel
theorem dX9_getsAnswer_41 : decode cX9_getsAnswer 41 = .ok (.aload_n 0, 1) := by decide +kernel
theorem dX9_getsAnswer_42 : decode cX9_getsAnswer 42 = .ok (.iload_n 1, 1) := by decide +kernel
theorem dX9_getsAnswer_43 : decode cX9_getsAnswer 43 = .ok (.bipush 64, 2) := by decide +kernel
theorem dX9_getsAnswer_45 : decode cX9_getsAnswer 45 = .ok (.iload_n 2, 1) := by decide +kernel
theorem dX9_getsAnswer_46 : decode cX9_getsAnswer 46 = .ok (.iadd, 1) := by decide +kernel
theorem dX9_getsAnswer_47 : decode cX9_getsAnswer 47 = .ok (.invokevirtual 146, 3) := by decide +kernel
theorem dX9_getsAnswer_50 : decode cX9_getsAnswer 50 = .ok (.if_icmp .le 19, 3) := by decide +kernel
theorem dX9_getsAnswer_53 : decode cX9_getsAnswer 53 = .ok (.aload_n 0, 1) := by decide +kernel
theorem dX9_getsAnswer_54 : decode cX9_getsAnswer 54 = .ok (.iload_n 1, 1) := by decide +kernel
theorem dX9_getsAnswer_55 : decode cX9_getsAnswer 55 = .ok (.bipush 64, 2) := by decide +kernel
theorem dX9_getsAnswer_57 : decode cX9_getsAnswer 57 = .ok (.iload_n 2, 1) := by decide +kernel
theorem dX9_getsAnswer_58 : decode cX9_getsAnswer 58 = .ok (.iadd, 1) := by decide +kernel
theorem dX9_getsAnswer_59 : decode cX9_getsAnswer 59 = .ok (.aload_n 0, 1) := by decide +kernel
theorem dX9_getsAnswer_60 : decode cX9_getsAnswer 60 = .ok (.getfield 41, 3) := by decide +kernel
theorem dX9_getsAnswer_63 : decode cX9_getsAnswer 63 = .ok (.bipush 8, 2) := by decide +kernel
theorem dX9_getsAnswer_65 : decode cX9_getsAnswer 65 = .ok (.iaload, 1) := by decide +kernel
theorem dX9_getsAnswer_66 : decode cX9_getsAnswer 66 = .ok (.invokevirtual 139, 3) := by decide +kernel
theorem dX9_getsAnswer_69 : decode cX9_getsAnswer 69 = .ok (.aload_n 0, 1) := by decide +kernel
theorem dX9_getsAnswer_70 : decode cX9_getsAnswer 70 = .ok (.getfield 41, 3) := by decide +kernel
theorem dX9_getsAnswer_73 : decode cX9_getsAnswer 73 = .ok (.iconst 4, 1) := by decide +kernel
theorem dX9_getsAnswer_74 : decode cX9_getsAnswer 74 = .ok (.iaload, 1) := by decide +kernel
theorem dX9_getsAnswer_75 : decode cX9_getsAnswer 75 = .ok (.iconst 1, 1) := by decide +kernel
theorem dX9_getsAnswer_76 : decode cX9_getsAnswer 76 = .ok (.if_icmp .ne 59, 3) := by decide +kernel
theorem dX9_getsAnswer_79 : decode cX9_getsAnswer 79 = .ok (.aload_n 0, 1) := by decide +kernel
theorem dX9_getsAnswer_80 : decode cX9_getsAnswer 80 = .ok (.getfield 41, 3) := by decide +kernel
theorem dX9_getsAnswer_83 : decode cX9_getsAnswer 83 = .ok (.iconst 5, 1) := by decide +kernel
theorem dX9_getsAnswer_84 : decode cX9_getsAnswer 84 = .ok (.iaload, 1) := by decide +kernel
theorem dX9_getsAnswer_85 : decode cX9_getsAnswer 85 = .ok (.aload_n 0, 1) := by decide +kernel
theorem dX9_getsAnswer_86 : decode cX9_getsAnswer 86 = .ok (.iload_n 1, 1) := by decide +kernel
theorem dX9_getsAnswer_87 : decode cX9_getsAnswer 87 = .ok (.bipush 57, 2) := by decide +kernel
theorem dX9_getsAnswer_89 : decode cX9_getsAnswer 89 = .ok (.iload_n 2, 1) := by decide +kernel
theorem dX9_getsAnswer_90 : decode cX9_getsAnswer 90 = .ok (.iadd, 1) := by decide +kernel
theorem dX9_getsAnswer_91 : decode cX9_getsAnswer 91 = .ok (.invokevirtual 146, 3) := by decide +kernel
theorem dX9_getsAnswer_94 : decode cX9_getsAnswer 94 = .ok (.if_icmp .le 18, 3) := by decide +kernel
theorem dX9_getsAnswer_97 : decode cX9_getsAnswer 97 = .ok (.aload_n 0, 1) := by decide +kernel
theorem dX9_getsAnswer_98 : decode cX9_getsAnswer 98 = .ok (.iload_n 1, 1) := by decide +kernel
theorem dX9_getsAnswer_99 : decode cX9_getsAnswer 99 = .ok (.bipush 57, 2) := by decide +kernel
theorem dX9_getsAnswer_101 : decode cX9_getsAnswer 101 = .ok (.iload_n 2, 1) := by decide +kernel
theorem dX9_getsAnswer_102 : decode cX9_getsAnswer 102 = .ok (.iadd, 1) := by decide +kernel
theorem dX9_getsAnswer_103 : decode cX9_getsAnswer 103 = .ok (.aload_n 0, 1) := by decide +kernel
theorem dX9_getsAnswer_104 : decode cX9_getsAnswer 104 = .ok (.getfield 41, 3) := by decide +kernel
theorem dX9_getsAnswer_107 : decode cX9_getsAnswer 107 = .ok (.iconst 5, 1) := by decide +kernel

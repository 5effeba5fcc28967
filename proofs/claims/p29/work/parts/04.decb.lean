theorem dX6_init_0 : decode cX6_init 0 = .ok (.aload_n 0, 1) := by decide +kernel
theorem dX6_init_1 : decode cX6_init 1 = .ok (.invokespecial 3, 3) := by decide +kernel
theorem dX6_init_4 : decode cX6_init 4 = .ok (.aload_n 0, 1) := by decide +kernel
theorem dX6_init_5 : decode cX6_init 5 = .ok (.sipush 400, 3) := by decide +kernel
theorem dX6_init_8 : decode cX6_init 8 = .ok (.newarray .byte, 2) := by decide +kernel
theorem dX6_init_10 : decode cX6_init 10 = .ok (.putfield 11, 3) := by decide +kernel
theorem dX6_init_13 : decode cX6_init 13 = .ok (.aload_n 0, 1) := by decide +kernel
theorem dX6_init_14 : decode cX6_init 14 = .ok (.bipush 7, 2) := by decide +kernel
theorem dX6_init_16 : decode cX6_init 16 = .ok (.newarray .int, 2) := by decide +kernel
theorem dX6_init_18 : decode cX6_init 18 = .ok (.putfield 15, 3) := by decide +kernel
theorem dX6_init_21 : decode cX6_init 21 = .ok (.aload_n 0, 1) := by decide +kernel
theorem dX6_init_22 : decode cX6_init 22 = .ok (.bipush 7, 2) := by decide +kernel
theorem dX6_init_24 : decode cX6_init 24 = .ok (.newarray .int, 2) := by decide +kernel
theorem dX6_init_26 : decode cX6_init 26 = .ok (.putfield 19, 3) := by decide +kernel
theorem dX6_init_29 : decode cX6_init 29 = .ok (.aload_n 0, 1) := by decide +kernel
theorem dX6_init_30 : decode cX6_init 30 = .ok (.bipush 7, 2) := by decide +kernel
theorem dX6_init_32 : decode cX6_init 32 = .ok (.newarray .boolean, 2) := by decide +kernel
theorem dX6_init_34 : decode cX6_init 34 = .ok (.putfield 22, 3) := by decide +kernel
theorem dX6_init_37 : decode cX6_init 37 = .ok (.aload_n 0, 1) := by decide +kernel
theorem dX6_init_38 : decode cX6_init 38 = .ok (.iconst (-1), 1) := by decide +kernel
theorem dX6_init_39 : decode cX6_init 39 = .ok (.putfield 26, 3) := by decide +kernel
theorem dX6_init_42 : decode cX6_init 42 = .ok (.return_, 1) := by decide +kernel
theorem dX6_hasRoomFor_0 : decode cX6_hasRoomFor 0 = .ok (.aload_n 0, 1) := by decide +kernel
theorem dX6_hasRoomFor_1 : decode cX6_hasRoomFor 1 = .ok (.getfield 30, 3) := by decide +kernel
theorem dX6_hasRoomFor_4 : decode cX6_hasRoomFor 4 = .ok (.iload_n 1, 1) := by decide +kernel
theorem dX6_hasRoomFor_5 : decode cX6_hasRoomFor 5 = .ok (.iadd, 1) := by decide +kernel
theorem dX6_hasRoomFor_6 : decode cX6_hasRoomFor 6 = .ok (.sipush 400, 3) := by decide +kernel
theorem dX6_hasRoomFor_9 : decode cX6_hasRoomFor 9 = .ok (.if_icmp .gt 7, 3) := by decide +kernel
theorem dX6_hasRoomFor_12 : decode cX6_hasRoomFor 12 = .ok (.iconst 1, 1) := by decide +kernel
theorem dX6_hasRoomFor_13 : decode cX6_hasRoomFor 13 = .ok (.goto 4, 3) := by decide +kernel
theorem dX6_hasRoomFor_16 : decode cX6_hasRoomFor 16 = .ok (.iconst 0, 1) := by decide +kernel
theorem dX6_hasRoomFor_17 : decode cX6_hasRoomFor 17 = .ok (.ireturn, 1) := by decide +kernel
theorem dX6_put_0 : decode cX6_put 0 = .ok (.bipush 24, 2) := by decide +kernel
theorem dX6_put_2 : decode cX6_put 2 = .ok (.istore_n 2, 1) := by decide +kernel
theorem dX6_put_3 : decode cX6_put 3 = .ok (.iload_n 2, 1) := by decide +kernel
theorem dX6_put_4 : decode cX6_put 4 = .ok (.ifCond .lt 42, 3) := by decide +kernel
theorem dX6_put_7 : decode cX6_put 7 = .ok (.aload_n 0, 1) := by decide +kernel
theorem dX6_put_8 : decode cX6_put 8 = .ok (.getfield 30, 3) := by decide +kernel
theorem dX6_put_11 : decode cX6_put 11 = .ok (.sipush 400, 3) := by decide +kernel
theorem dX6_put_14 : decode cX6_put 14 = .ok (.if_icmp .ge 26, 3) := by decide +kernel
theorem dX6_put_17 : decode cX6_put 17 = .ok (.aload_n 0, 1) := by decide +kernel
theorem dX6_put_18 : decode cX6_put 18 = .ok (.getfield 11, 3) := by decide +kernel
theorem dX6_put_21 : decode cX6_put 21 = .ok (.aload_n 0, 1) := by decide +kernel
theorem dX6_put_22 : decode cX6_put 22 = .ok (.getfield 30, 3) := by decide +kernel
theorem dX6_put_25 : decode cX6_put 25 = .ok (.iload_n 1, 1) := by decide +kernel
theorem dX6_put_26 : decode cX6_put 26 = .ok (.iload_n 2, 1) := by decide +kernel
theorem dX6_put_27 : decode cX6_put 27 = .ok (.ishr, 1) := by decide +kernel
theorem dX6_put_28 : decode cX6_put 28 = .ok (.i2b, 1) := by decide +kernel
theorem dX6_put_29 : decode cX6_put 29 = .ok (.bastore, 1) := by decide +kernel
theorem dX6_put_30 : decode cX6_put 30 = .ok (.aload_n 0, 1) := by decide +kernel
theorem dX6_put_31 : decode cX6_put 31 = .ok (.dup, 1) := by decide +kernel
theorem dX6_put_32 : decode cX6_put 32 = .ok (.getfield 30, 3) := by decide +kernel
theorem dX6_put_35 : decode cX6_put 35 = .ok (.iconst 1, 1) := by decide +kernel
theorem dX6_put_36 : decode cX6_put 36 = .ok (.iadd, 1) := by decide +kernel
theorem dX6_put_37 : decode cX6_put 37 = .ok (.putfield 30, 3) := by decide +kernel
theorem dX6_put_40 : decode cX6_put 40 = .ok (.iinc 2 (-8), 3) := by decide +kernel
theorem dX6_put_43 : decode cX6_put 43 = .ok (.goto (-40), 3) := by decide +kernel
theorem dX6_put_46 : decode cX6_put 46 = .ok (.return_, 1) := by decide +kernel
theorem dX6_parse_0 : decode cX6_parse 0 = .ok (.aload_n 0, 1) := by decide +kernel
theorem dX6_parse_1 : decode cX6_parse 1 = .ok (.iconst 0, 1) := by decide +kernel
theorem dX6_parse_2 : decode cX6_parse 2 = .ok (.putfield 33, 3) := by decide +kernel
theorem dX6_parse_5 : decode cX6_parse 5 = .ok (.aload_n 0, 1) := by decide +kernel
theorem dX6_parse_6 : decode cX6_parse 6 = .ok (.iconst 0, 1) := by decide +kernel
theorem dX6_parse_7 : decode cX6_parse 7 = .ok (.putfield 36, 3) := by decide +kernel
theorem dX6_parse_10 : decode cX6_parse 10 = .ok (.aload_n 0, 1) := by decide +kernel
theorem dX6_parse_11 : decode cX6_parse 11 = .ok (.iconst (-1), 1) := by decide +kernel
theorem dX6_parse_12 : decode cX6_parse 12 = .ok (.putfield 26, 3) := by decide +kernel
theorem dX6_parse_15 : decode cX6_parse 15 = .ok (.aload_n 0, 1) := by decide +kernel
theorem dX6_parse_16 : decode cX6_parse 16 = .ok (.iconst 0, 1) := by decide +kernel
theorem dX6_parse_17 : decode cX6_parse 17 = .ok (.putfield 39, 3) := by decide +kernel
theorem dX6_parse_20 : decode cX6_parse 20 = .ok (.iconst 0, 1) := by decide +kernel
theorem dX6_parse_21 : decode cX6_parse 21 = .ok (.istore_n 1, 1) := by decide +kernel
theorem dX6_parse_22 : decode cX6_parse 22 = .ok (.iconst 0, 1) := by decide +kernel
theorem dX6_parse_23 : decode cX6_parse 23 = .ok (.istore_n 2, 1) := by decide +kernel
theorem dX6_parse_24 : decode cX6_parse 24 = .ok (.iload_n 2, 1) := by decide +kernel
theorem dX6_parse_25 : decode cX6_parse 25 = .ok (.sipush 400, 3) := by decide +kernel
theorem dX6_parse_28 : decode cX6_parse 28 = .ok (.if_icmp .ge 29, 3) := by decide +kernel
theorem dX6_parse_31 : decode cX6_parse 31 = .ok (.aload_n 0, 1) := by decide +kernel
theorem dX6_parse_32 : decode cX6_parse 32 = .ok (.getfield 36, 3) := by decide +kernel
theorem dX6_parse_35 : decode cX6_parse 35 = .ok (.ifCond .ne 22, 3) := by decide +kernel
theorem dX6_parse_38 : decode cX6_parse 38 = .ok (.aload_n 0, 1) := by decide +kernel
theorem dX6_parse_39 : decode cX6_parse 39 = .ok (.invokevirtual 42, 3) := by decide +kernel
theorem dX6_parse_42 : decode cX6_parse 42 = .ok (.ifCond .eq 15, 3) := by decide +kernel
theorem dX6_parse_45 : decode cX6_parse 45 = .ok (.aload_n 0, 1) := by decide +kernel
theorem dX6_parse_46 : decode cX6_parse 46 = .ok (.iload_n 1, 1) := by decide +kernel
theorem dX6_parse_47 : decode cX6_parse 47 = .ok (.invokevirtual 46, 3) := by decide +kernel
theorem dX6_parse_50 : decode cX6_parse 50 = .ok (.istore_n 1, 1) := by decide +kernel
theorem dX6_parse_51 : decode cX6_parse 51 = .ok (.iinc 2 1, 3) := by decide +kernel
theorem dX6_parse_54 : decode cX6_parse 54 = .ok (.goto (-30), 3) := by decide +kernel
theorem dX6_parse_57 : decode cX6_parse 57 = .ok (.aload_n 0, 1) := by decide +kernel
theorem dX6_parse_58 : decode cX6_parse 58 = .ok (.getfield 36, 3) := by decide +kernel
theorem dX6_parse_61 : decode cX6_parse 61 = .ok (.ifCond .ne 16, 3) := by decide +kernel
theorem dX6_parse_64 : decode cX6_parse 64 = .ok (.iload_n 1, 1) := by decide +kernel
theorem dX6_parse_65 : decode cX6_parse 65 = .ok (.ifCond .eq 12, 3) := by decide +kernel
theorem dX6_parse_68 : decode cX6_parse 68 = .ok (.aload_n 0, 1) := by decide +kernel
theorem dX6_parse_69 : decode cX6_parse 69 = .ok (.iconst 2, 1) := by decide +kernel
theorem dX6_parse_70 : decode cX6_parse 70 = .ok (.aload_n 0, 1) := by decide +kernel
theorem dX6_parse_71 : decode cX6_parse 71 = .ok (.getfield 30, 3) := by decide +kernel
theorem dX6_parse_74 : decode cX6_parse 74 = .ok (.invokevirtual 50, 3) := by decide +kernel
theorem dX6_parse_77 : decode cX6_parse 77 = .ok (.aload_n 0, 1) := by decide +kernel
theorem dX6_parse_78 : decode cX6_parse 78 = .ok (.getfield 36, 3) := by decide +kernel
theorem dX6_parse_81 : decode cX6_parse 81 = .ok (.ifCond .ne 19, 3) := by decide +kernel
theorem dX6_parse_84 : decode cX6_parse 84 = .ok (.aload_n 0, 1) := by decide +kernel
theorem dX6_parse_85 : decode cX6_parse 85 = .ok (.invokevirtual 54, 3) := by decide +kernel
theorem dX6_parse_88 : decode cX6_parse 88 = .ok (.ifCond .ne 12, 3) := by decide +kernel
theorem dX6_parse_91 : decode cX6_parse 91 = .ok (.aload_n 0, 1) := by decide +kernel
theorem dX6_parse_92 : decode cX6_parse 92 = .ok (.iconst 4, 1) := by decide +kernel
theorem dX6_parse_93 : decode cX6_parse 93 = .ok (.aload_n 0, 1) := by decide +kernel
theorem dX6_parse_94 : decode cX6_parse 94 = .ok (.getfield 30, 3) := by decide +kernel
theorem dX6_parse_97 : decode cX6_parse 97 = .ok (.invokevirtual 50, 3) := by decide +kernel
theorem dX6_parse_100 : decode cX6_parse 100 = .ok (.aload_n 0, 1) := by decide +kernel
theorem dX6_parse_101 : decode cX6_parse 101 = .ok (.iconst 0, 1) := by decide +kernel
theorem dX6_parse_102 : decode cX6_parse 102 = .ok (.putfield 30, 3) := by decide +kernel
theorem dX6_parse_105 : decode cX6_parse 105 = .ok (.return_, 1) := by decide +kernel
theorem dX6_blame_0 : decode cX6_blame 0 = .ok (.aload_n 0, 1) := by decide +kernel
theorem dX6_blame_1 : decode cX6_blame 1 = .ok (.iload_n 1, 1) := by decide +kernel
theorem dX6_blame_2 : decode cX6_blame 2 = .ok (.putfield 36, 3) := by decide +kernel
theorem dX6_blame_5 : decode cX6_blame 5 = .ok (.aload_n 0, 1) := by decide +kernel
theorem dX6_blame_6 : decode cX6_blame 6 = .ok (.iload_n 2, 1) := by decide +kernel
theorem dX6_blame_7 : decode cX6_blame 7 = .ok (.putfield 26, 3) := by decide +kernel
theorem dX6_blame_10 : decode cX6_blame 10 = .ok (.return_, 1) := by decide +kernel
theorem dX6_countVoters_0 : decode cX6_countVoters 0 = .ok (.iconst 0, 1) := by decide +kernel
theorem dX6_countVoters_1 : decode cX6_countVoters 1 = .ok (.istore_n 1, 1) := by decide +kernel
theorem dX6_countVoters_2 : decode cX6_countVoters 2 = .ok (.iconst 0, 1) := by decide +kernel
theorem dX6_countVoters_3 : decode cX6_countVoters 3 = .ok (.istore_n 2, 1) := by decide +kernel
theorem dX6_countVoters_4 : decode cX6_countVoters 4 = .ok (.iload_n 2, 1) := by decide +kernel
theorem dX6_countVoters_5 : decode cX6_countVoters 5 = .ok (.aload_n 0, 1) := by decide +kernel
theorem dX6_countVoters_6 : decode cX6_countVoters 6 = .ok (.getfield 33, 3) := by decide +kernel
theorem dX6_countVoters_9 : decode cX6_countVoters 9 = .ok (.if_icmp .ge 26, 3) := by decide +kernel
theorem dX6_countVoters_12 : decode cX6_countVoters 12 = .ok (.iload_n 1, 1) := by decide +kernel
theorem dX6_countVoters_13 : decode cX6_countVoters 13 = .ok (.aload_n 0, 1) := by decide +kernel
theorem dX6_countVoters_14 : decode cX6_countVoters 14 = .ok (.getfield 22, 3) := by decide +kernel
theorem dX6_countVoters_17 : decode cX6_countVoters 17 = .ok (.iload_n 2, 1) := by decide +kernel
theorem dX6_countVoters_18 : decode cX6_countVoters 18 = .ok (.baload, 1) := by decide +kernel
theorem dX6_countVoters_19 : decode cX6_countVoters 19 = .ok (.ifCond .eq 7, 3) := by decide +kernel
theorem dX6_countVoters_22 : decode cX6_countVoters 22 = .ok (.iconst 0, 1) := by decide +kernel
theorem dX6_countVoters_23 : decode cX6_countVoters 23 = .ok (.goto 4, 3) := by decide +kernel
theorem dX6_countVoters_26 : decode cX6_countVoters 26 = .ok (.iconst 1, 1) := by decide +kernel
theorem dX6_countVoters_27 : decode cX6_countVoters 27 = .ok (.iadd, 1) := by decide +kernel
theorem dX6_countVoters_28 : decode cX6_countVoters 28 = .ok (.istore_n 1, 1) := by decide +kernel
theorem dX6_countVoters_29 : decode cX6_countVoters 29 = .ok (.iinc 2 1, 3) := by decide +kernel
theorem dX6_countVoters_32 : decode cX6_countVoters 32 = .ok (.goto (-28), 3) := by decide +kernel
theorem dX6_countVoters_35 : decode cX6_countVoters 35 = .ok (.iload_n 1, 1) := by decide +kernel
theorem dX6_countVoters_36 : decode cX6_countVoters 36 = .ok (.ireturn, 1) := by decide +kernel
theorem dX6_byteAt_0 : decode cX6_byteAt 0 = .ok (.iload_n 1, 1) := by decide +kernel
theorem dX6_byteAt_1 : decode cX6_byteAt 1 = .ok (.ifCond .lt 31, 3) := by decide +kernel
theorem dX6_byteAt_4 : decode cX6_byteAt 4 = .ok (.iload_n 1, 1) := by decide +kernel
theorem dX6_byteAt_5 : decode cX6_byteAt 5 = .ok (.aload_n 0, 1) := by decide +kernel
theorem dX6_byteAt_6 : decode cX6_byteAt 6 = .ok (.getfield 30, 3) := by decide +kernel
theorem dX6_byteAt_9 : decode cX6_byteAt 9 = .ok (.if_icmp .ge 23, 3) := by decide +kernel
theorem dX6_byteAt_12 : decode cX6_byteAt 12 = .ok (.iload_n 1, 1) := by decide +kernel
theorem dX6_byteAt_13 : decode cX6_byteAt 13 = .ok (.sipush 400, 3) := by decide +kernel
theorem dX6_byteAt_16 : decode cX6_byteAt 16 = .ok (.if_icmp .ge 16, 3) := by decide +kernel
theorem dX6_byteAt_19 : decode cX6_byteAt 19 = .ok (.aload_n 0, 1) := by decide +kernel
theorem dX6_byteAt_20 : decode cX6_byteAt 20 = .ok (.getfield 11, 3) := by decide +kernel
theorem dX6_byteAt_23 : decode cX6_byteAt 23 = .ok (.iload_n 1, 1) := by decide +kernel
theorem dX6_byteAt_24 : decode cX6_byteAt 24 = .ok (.baload, 1) := by decide +kernel
theorem dX6_byteAt_25 : decode cX6_byteAt 25 = .ok (.sipush 255, 3) := by decide +kernel
theorem dX6_byteAt_28 : decode cX6_byteAt 28 = .ok (.iand, 1) := by decide +kernel
theorem dX6_byteAt_29 : decode cX6_byteAt 29 = .ok (.goto 4, 3) := by decide +kernel
theorem dX6_byteAt_32 : decode cX6_byteAt 32 = .ok (.iconst (-1), 1) := by decide +kernel
theorem dX6_byteAt_33 : decode cX6_byteAt 33 = .ok (.ireturn, 1) := by decide +kernel
theorem dX6_isLetter_0 : decode cX6_isLetter 0 = .ok (.aload_n 0, 1) := by decide +kernel
theorem dX6_isLetter_1 : decode cX6_isLetter 1 = .ok (.iload_n 1, 1) := by decide +kernel
theorem dX6_isLetter_2 : decode cX6_isLetter 2 = .ok (.invokevirtual 58, 3) := by decide +kernel
theorem dX6_isLetter_5 : decode cX6_isLetter 5 = .ok (.istore_n 2, 1) := by decide +kernel
theorem dX6_isLetter_6 : decode cX6_isLetter 6 = .ok (.iload_n 2, 1) := by decide +kernel
theorem dX6_isLetter_7 : decode cX6_isLetter 7 = .ok (.bipush 97, 2) := by decide +kernel
theorem dX6_isLetter_9 : decode cX6_isLetter 9 = .ok (.if_icmp .lt 13, 3) := by decide +kernel
theorem dX6_isLetter_12 : decode cX6_isLetter 12 = .ok (.iload_n 2, 1) := by decide +kernel
theorem dX6_isLetter_13 : decode cX6_isLetter 13 = .ok (.bipush 122, 2) := by decide +kernel
theorem dX6_isLetter_15 : decode cX6_isLetter 15 = .ok (.if_icmp .gt 7, 3) := by decide +kernel
theorem dX6_isLetter_18 : decode cX6_isLetter 18 = .ok (.iconst 1, 1) := by decide +kernel
theorem dX6_isLetter_19 : decode cX6_isLetter 19 = .ok (.goto 4, 3) := by decide +kernel
theorem dX6_isLetter_22 : decode cX6_isLetter 22 = .ok (.iconst 0, 1) := by decide +kernel
theorem dX6_isLetter_23 : decode cX6_isLetter 23 = .ok (.ireturn, 1) := by decide +kernel
theorem dX6_isBlank_0 : decode cX6_isBlank 0 = .ok (.aload_n 0, 1) := by decide +kernel
theorem dX6_isBlank_1 : decode cX6_isBlank 1 = .ok (.iload_n 1, 1) := by decide +kernel
theorem dX6_isBlank_2 : decode cX6_isBlank 2 = .ok (.invokevirtual 58, 3) := by decide +kernel
theorem dX6_isBlank_5 : decode cX6_isBlank 5 = .ok (.istore_n 2, 1) := by decide +kernel
theorem dX6_isBlank_6 : decode cX6_isBlank 6 = .ok (.iload_n 2, 1) := by decide +kernel
theorem dX6_isBlank_7 : decode cX6_isBlank 7 = .ok (.bipush 32, 2) := by decide +kernel
theorem dX6_isBlank_9 : decode cX6_isBlank 9 = .ok (.if_icmp .eq 9, 3) := by decide +kernel
theorem dX6_isBlank_12 : decode cX6_isBlank 12 = .ok (.iload_n 2, 1) := by decide +kernel
theorem dX6_isBlank_13 : decode cX6_isBlank 13 = .ok (.bipush 10, 2) := by decide +kernel
theorem dX6_isBlank_15 : decode cX6_isBlank 15 = .ok (.if_icmp .ne 7, 3) := by decide +kernel
theorem dX6_isBlank_18 : decode cX6_isBlank 18 = .ok (.iconst 1, 1) := by decide +kernel
theorem dX6_isBlank_19 : decode cX6_isBlank 19 = .ok (.goto 4, 3) := by decide +kernel
theorem dX6_isBlank_22 : decode cX6_isBlank 22 = .ok (.iconst 0, 1) := by decide +kernel
theorem dX6_isBlank_23 : decode cX6_isBlank 23 = .ok (.ireturn, 1) := by decide +kernel
theorem dX6_findToken_0 : decode cX6_findToken 0 = .ok (.aload_n 0, 1) := by decide +kernel
theorem dX6_findToken_1 : decode cX6_findToken 1 = .ok (.aload_n 0, 1) := by decide +kernel
theorem dX6_findToken_2 : decode cX6_findToken 2 = .ok (.getfield 39, 3) := by decide +kernel
theorem dX6_findToken_5 : decode cX6_findToken 5 = .ok (.putfield 61, 3) := by decide +kernel
theorem dX6_findToken_8 : decode cX6_findToken 8 = .ok (.aload_n 0, 1) := by decide +kernel
theorem dX6_findToken_9 : decode cX6_findToken 9 = .ok (.getfield 61, 3) := by decide +kernel
theorem dX6_findToken_12 : decode cX6_findToken 12 = .ok (.aload_n 0, 1) := by decide +kernel
theorem dX6_findToken_13 : decode cX6_findToken 13 = .ok (.getfield 30, 3) := by decide +kernel
theorem dX6_findToken_16 : decode cX6_findToken 16 = .ok (.if_icmp .ge 27, 3) := by decide +kernel
theorem dX6_findToken_19 : decode cX6_findToken 19 = .ok (.aload_n 0, 1) := by decide +kernel
theorem dX6_findToken_20 : decode cX6_findToken 20 = .ok (.aload_n 0, 1) := by decide +kernel
theorem dX6_findToken_21 : decode cX6_findToken 21 = .ok (.getfield 61, 3) := by decide +kernel
theorem dX6_findToken_24 : decode cX6_findToken 24 = .ok (.invokevirtual 64, 3) := by decide +kernel
theorem dX6_findToken_27 : decode cX6_findToken 27 = .ok (.ifCond .eq 16, 3) := by decide +kernel
theorem dX6_findToken_30 : decode cX6_findToken 30 = .ok (.aload_n 0, 1) := by decide +kernel
theorem dX6_findToken_31 : decode cX6_findToken 31 = .ok (.dup, 1) := by decide +kernel
theorem dX6_findToken_32 : decode cX6_findToken 32 = .ok (.getfield 61, 3) := by decide +kernel
theorem dX6_findToken_35 : decode cX6_findToken 35 = .ok (.iconst 1, 1) := by decide +kernel
theorem dX6_findToken_36 : decode cX6_findToken 36 = .ok (.iadd, 1) := by decide +kernel
theorem dX6_findToken_37 : decode cX6_findToken 37 = .ok (.putfield 61, 3) := by decide +kernel
theorem dX6_findToken_40 : decode cX6_findToken 40 = .ok (.goto (-32), 3) := by decide +kernel
theorem dX6_findToken_43 : decode cX6_findToken 43 = .ok (.aload_n 0, 1) := by decide +kernel
theorem dX6_findToken_44 : decode cX6_findToken 44 = .ok (.getfield 61, 3) := by decide +kernel
theorem dX6_findToken_47 : decode cX6_findToken 47 = .ok (.aload_n 0, 1) := by decide +kernel
theorem dX6_findToken_48 : decode cX6_findToken 48 = .ok (.getfield 30, 3) := by decide +kernel
theorem dX6_findToken_51 : decode cX6_findToken 51 = .ok (.if_icmp .lt 5, 3) := by decide +kernel
theorem dX6_findToken_54 : decode cX6_findToken 54 = .ok (.iconst 0, 1) := by decide +kernel
theorem dX6_findToken_55 : decode cX6_findToken 55 = .ok (.ireturn, 1) := by decide +kernel
theorem dX6_findToken_56 : decode cX6_findToken 56 = .ok (.aload_n 0, 1) := by decide +kernel
theorem dX6_findToken_57 : decode cX6_findToken 57 = .ok (.aload_n 0, 1) := by decide +kernel
theorem dX6_findToken_58 : decode cX6_findToken 58 = .ok (.aload_n 0, 1) := by decide +kernel
theorem dX6_findToken_59 : decode cX6_findToken 59 = .ok (.getfield 61, 3) := by decide +kernel
theorem dX6_findToken_62 : decode cX6_findToken 62 = .ok (.invokevirtual 58, 3) := by decide +kernel
theorem dX6_findToken_65 : decode cX6_findToken 65 = .ok (.bipush 59, 2) := by decide +kernel
theorem dX6_findToken_67 : decode cX6_findToken 67 = .ok (.if_icmp .ne 12, 3) := by decide +kernel
theorem dX6_findToken_70 : decode cX6_findToken 70 = .ok (.aload_n 0, 1) := by decide +kernel
theorem dX6_findToken_71 : decode cX6_findToken 71 = .ok (.getfield 61, 3) := by decide +kernel
theorem dX6_findToken_74 : decode cX6_findToken 74 = .ok (.iconst 1, 1) := by decide +kernel
theorem dX6_findToken_75 : decode cX6_findToken 75 = .ok (.iadd, 1) := by decide +kernel
theorem dX6_findToken_76 : decode cX6_findToken 76 = .ok (.goto 11, 3) := by decide +kernel
theorem dX6_findToken_79 : decode cX6_findToken 79 = .ok (.aload_n 0, 1) := by decide +kernel
theorem dX6_findToken_80 : decode cX6_findToken 80 = .ok (.aload_n 0, 1) := by decide +kernel
theorem dX6_findToken_81 : decode cX6_findToken 81 = .ok (.getfield 61, 3) := by decide +kernel
theorem dX6_findToken_84 : decode cX6_findToken 84 = .ok (.invokevirtual 68, 3) := by decide +kernel
theorem dX6_findToken_87 : decode cX6_findToken 87 = .ok (.putfield 39, 3) := by decide +kernel
theorem dX6_findToken_90 : decode cX6_findToken 90 = .ok (.aload_n 0, 1) := by decide +kernel
theorem dX6_findToken_91 : decode cX6_findToken 91 = .ok (.getfield 39, 3) := by decide +kernel
theorem dX6_findToken_94 : decode cX6_findToken 94 = .ok (.aload_n 0, 1) := by decide +kernel
theorem dX6_findToken_95 : decode cX6_findToken 95 = .ok (.getfield 61, 3) := by decide +kernel
theorem dX6_findToken_98 : decode cX6_findToken 98 = .ok (.if_icmp .eq 17, 3) := by decide +kernel
theorem dX6_findToken_101 : decode cX6_findToken 101 = .ok (.aload_n 0, 1) := by decide +kernel
theorem dX6_findToken_102 : decode cX6_findToken 102 = .ok (.getfield 39, 3) := by decide +kernel
theorem dX6_findToken_105 : decode cX6_findToken 105 = .ok (.aload_n 0, 1) := by decide +kernel
theorem dX6_findToken_106 : decode cX6_findToken 106 = .ok (.getfield 61, 3) := by decide +kernel
theorem dX6_findToken_109 : decode cX6_findToken 109 = .ok (.isub, 1) := by decide +kernel
theorem dX6_findToken_110 : decode cX6_findToken 110 = .ok (.bipush 8, 2) := by decide +kernel
theorem dX6_findToken_112 : decode cX6_findToken 112 = .ok (.if_icmp .le 14, 3) := by decide +kernel
theorem dX6_findToken_115 : decode cX6_findToken 115 = .ok (.aload_n 0, 1) := by decide +kernel
theorem dX6_findToken_116 : decode cX6_findToken 116 = .ok (.iconst 1, 1) := by decide +kernel
theorem dX6_findToken_117 : decode cX6_findToken 117 = .ok (.aload_n 0, 1) := by decide +kernel
theorem dX6_findToken_118 : decode cX6_findToken 118 = .ok (.getfield 61, 3) := by decide +kernel
theorem dX6_findToken_121 : decode cX6_findToken 121 = .ok (.invokevirtual 50, 3) := by decide +kernel
theorem dX6_findToken_124 : decode cX6_findToken 124 = .ok (.iconst 0, 1) := by decide +kernel
theorem dX6_findToken_125 : decode cX6_findToken 125 = .ok (.ireturn, 1) := by decide +kernel
theorem dX6_findToken_126 : decode cX6_findToken 126 = .ok (.iconst 1, 1) := by decide +kernel
theorem dX6_findToken_127 : decode cX6_findToken 127 = .ok (.ireturn, 1) := by decide +kernel
theorem dX6_endOfLetters_0 : decode cX6_endOfLetters 0 = .ok (.iload_n 1, 1) := by decide +kernel
theorem dX6_endOfLetters_1 : decode cX6_endOfLetters 1 = .ok (.istore_n 2, 1) := by decide +kernel
theorem dX6_endOfLetters_2 : decode cX6_endOfLetters 2 = .ok (.iload_n 2, 1) := by decide +kernel
theorem dX6_endOfLetters_3 : decode cX6_endOfLetters 3 = .ok (.aload_n 0, 1) := by decide +kernel
theorem dX6_endOfLetters_4 : decode cX6_endOfLetters 4 = .ok (.getfield 30, 3) := by decide +kernel
theorem dX6_endOfLetters_7 : decode cX6_endOfLetters 7 = .ok (.if_icmp .ge 17, 3) := by decide +kernel
theorem dX6_endOfLetters_10 : decode cX6_endOfLetters 10 = .ok (.aload_n 0, 1) := by decide +kernel
theorem dX6_endOfLetters_11 : decode cX6_endOfLetters 11 = .ok (.iload_n 2, 1) := by decide +kernel
theorem dX6_endOfLetters_12 : decode cX6_endOfLetters 12 = .ok (.invokevirtual 71, 3) := by decide +kernel
theorem dX6_endOfLetters_15 : decode cX6_endOfLetters 15 = .ok (.ifCond .eq 9, 3) := by decide +kernel
theorem dX6_endOfLetters_18 : decode cX6_endOfLetters 18 = .ok (.iinc 2 1, 3) := by decide +kernel
theorem dX6_endOfLetters_21 : decode cX6_endOfLetters 21 = .ok (.goto (-19), 3) := by decide +kernel
theorem dX6_endOfLetters_24 : decode cX6_endOfLetters 24 = .ok (.iload_n 2, 1) := by decide +kernel
theorem dX6_endOfLetters_25 : decode cX6_endOfLetters 25 = .ok (.ireturn, 1) := by decide +kernel
theorem dX6_takeToken_0 : decode cX6_takeToken 0 = .ok (.iload_n 1, 1) := by decide +kernel
theorem dX6_takeToken_1 : decode cX6_takeToken 1 = .ok (.lookupswitch 82 #[(0, 27), (1, 47)], 27) := by decide +kernel
theorem dX6_takeToken_28 : decode cX6_takeToken 28 = .ok (.aload_n 0, 1) := by decide +kernel
theorem dX6_takeToken_29 : decode cX6_takeToken 29 = .ok (.ldc 74, 2) := by decide +kernel
theorem dX6_takeToken_31 : decode cX6_takeToken 31 = .ok (.invokevirtual 76, 3) := by decide +kernel
theorem dX6_takeToken_34 : decode cX6_takeToken 34 = .ok (.ifCond .eq 80, 3) := by decide +kernel
theorem dX6_takeToken_37 : decode cX6_takeToken 37 = .ok (.aload_n 0, 1) := by decide +kernel
theorem dX6_takeToken_38 : decode cX6_takeToken 38 = .ok (.getfield 33, 3) := by decide +kernel
theorem dX6_takeToken_41 : decode cX6_takeToken 41 = .ok (.bipush 7, 2) := by decide +kernel
theorem dX6_takeToken_43 : decode cX6_takeToken 43 = .ok (.if_icmp .ge 71, 3) := by decide +kernel
theorem dX6_takeToken_46 : decode cX6_takeToken 46 = .ok (.iconst 1, 1) := by decide +kernel
theorem dX6_takeToken_47 : decode cX6_takeToken 47 = .ok (.ireturn, 1) := by decide +kernel
theorem dX6_takeToken_48 : decode cX6_takeToken 48 = .ok (.aload_n 0, 1) := by decide +kernel
theorem dX6_takeToken_49 : decode cX6_takeToken 49 = .ok (.aload_n 0, 1) := by decide +kernel
theorem dX6_takeToken_50 : decode cX6_takeToken 50 = .ok (.getfield 61, 3) := by decide +kernel
theorem dX6_takeToken_53 : decode cX6_takeToken 53 = .ok (.invokevirtual 71, 3) := by decide +kernel
theorem dX6_takeToken_56 : decode cX6_takeToken 56 = .ok (.ifCond .eq 58, 3) := by decide +kernel
theorem dX6_takeToken_59 : decode cX6_takeToken 59 = .ok (.aload_n 0, 1) := by decide +kernel
theorem dX6_takeToken_60 : decode cX6_takeToken 60 = .ok (.ldc 74, 2) := by decide +kernel
theorem dX6_takeToken_62 : decode cX6_takeToken 62 = .ok (.invokevirtual 76, 3) := by decide +kernel
theorem dX6_takeToken_65 : decode cX6_takeToken 65 = .ok (.ifCond .ne 49, 3) := by decide +kernel
theorem dX6_takeToken_68 : decode cX6_takeToken 68 = .ok (.aload_n 0, 1) := by decide +kernel
theorem dX6_takeToken_69 : decode cX6_takeToken 69 = .ok (.ldc 80, 2) := by decide +kernel
theorem dX6_takeToken_71 : decode cX6_takeToken 71 = .ok (.invokevirtual 76, 3) := by decide +kernel
theorem dX6_takeToken_74 : decode cX6_takeToken 74 = .ok (.ifCond .ne 40, 3) := by decide +kernel
theorem dX6_takeToken_77 : decode cX6_takeToken 77 = .ok (.aload_n 0, 1) := by decide +kernel
theorem dX6_takeToken_78 : decode cX6_takeToken 78 = .ok (.invokevirtual 81, 3) := by decide +kernel
theorem dX6_takeToken_81 : decode cX6_takeToken 81 = .ok (.iconst 2, 1) := by decide +kernel
theorem dX6_takeToken_82 : decode cX6_takeToken 82 = .ok (.ireturn, 1) := by decide +kernel
theorem dX6_takeToken_83 : decode cX6_takeToken 83 = .ok (.aload_n 0, 1) := by decide +kernel
theorem dX6_takeToken_84 : decode cX6_takeToken 84 = .ok (.ldc 84, 2) := by decide +kernel
theorem dX6_takeToken_86 : decode cX6_takeToken 86 = .ok (.invokevirtual 76, 3) := by decide +kernel
theorem dX6_takeToken_89 : decode cX6_takeToken 89 = .ok (.ifCond .eq 5, 3) := by decide +kernel
theorem dX6_takeToken_92 : decode cX6_takeToken 92 = .ok (.iconst 0, 1) := by decide +kernel
theorem dX6_takeToken_93 : decode cX6_takeToken 93 = .ok (.ireturn, 1) := by decide +kernel
theorem dX6_takeToken_94 : decode cX6_takeToken 94 = .ok (.iload_n 1, 1) := by decide +kernel
theorem dX6_takeToken_95 : decode cX6_takeToken 95 = .ok (.iconst 2, 1) := by decide +kernel
theorem dX6_takeToken_96 : decode cX6_takeToken 96 = .ok (.if_icmp .ne 18, 3) := by decide +kernel
theorem dX6_takeToken_99 : decode cX6_takeToken 99 = .ok (.aload_n 0, 1) := by decide +kernel
theorem dX6_takeToken_100 : decode cX6_takeToken 100 = .ok (.ldc 80, 2) := by decide +kernel
theorem dX6_takeToken_102 : decode cX6_takeToken 102 = .ok (.invokevirtual 76, 3) := by decide +kernel
theorem dX6_takeToken_105 : decode cX6_takeToken 105 = .ok (.ifCond .eq 9, 3) := by decide +kernel
theorem dX6_takeToken_108 : decode cX6_takeToken 108 = .ok (.aload_n 0, 1) := by decide +kernel
theorem dX6_takeToken_109 : decode cX6_takeToken 109 = .ok (.invokevirtual 86, 3) := by decide +kernel
theorem dX6_takeToken_112 : decode cX6_takeToken 112 = .ok (.iconst 3, 1) := by decide +kernel
theorem dX6_takeToken_113 : decode cX6_takeToken 113 = .ok (.ireturn, 1) := by decide +kernel
theorem dX6_takeToken_114 : decode cX6_takeToken 114 = .ok (.aload_n 0, 1) := by decide +kernel
theorem dX6_takeToken_115 : decode cX6_takeToken 115 = .ok (.iconst 2, 1) := by decide +kernel
theorem dX6_takeToken_116 : decode cX6_takeToken 116 = .ok (.aload_n 0, 1) := by decide +kernel
theorem dX6_takeToken_117 : decode cX6_takeToken 117 = .ok (.getfield 61, 3) := by decide +kernel
theorem dX6_takeToken_120 : decode cX6_takeToken 120 = .ok (.invokevirtual 50, 3) := by decide +kernel
theorem dX6_takeToken_123 : decode cX6_takeToken 123 = .ok (.iload_n 1, 1) := by decide +kernel
theorem dX6_takeToken_124 : decode cX6_takeToken 124 = .ok (.ireturn, 1) := by decide +kernel
theorem dX6_takeName_0 : decode cX6_takeName 0 = .ok (.iconst 0, 1) := by decide +kernel
theorem dX6_takeName_1 : decode cX6_takeName 1 = .ok (.istore_n 1, 1) := by decide +kernel
theorem dX6_takeName_2 : decode cX6_takeName 2 = .ok (.iload_n 1, 1) := by decide +kernel
theorem dX6_takeName_3 : decode cX6_takeName 3 = .ok (.aload_n 0, 1) := by decide +kernel
theorem dX6_takeName_4 : decode cX6_takeName 4 = .ok (.getfield 33, 3) := by decide +kernel
theorem dX6_takeName_7 : decode cX6_takeName 7 = .ok (.if_icmp .ge 27, 3) := by decide +kernel
theorem dX6_takeName_10 : decode cX6_takeName 10 = .ok (.aload_n 0, 1) := by decide +kernel
theorem dX6_takeName_11 : decode cX6_takeName 11 = .ok (.iload_n 1, 1) := by decide +kernel
theorem dX6_takeName_12 : decode cX6_takeName 12 = .ok (.invokevirtual 89, 3) := by decide +kernel
theorem dX6_takeName_15 : decode cX6_takeName 15 = .ok (.ifCond .eq 13, 3) := by decide +kernel
theorem dX6_takeName_18 : decode cX6_takeName 18 = .ok (.aload_n 0, 1) := by decide +kernel
theorem dX6_takeName_19 : decode cX6_takeName 19 = .ok (.iconst 3, 1) := by decide +kernel
theorem dX6_takeName_20 : decode cX6_takeName 20 = .ok (.aload_n 0, 1) := by decide +kernel
theorem dX6_takeName_21 : decode cX6_takeName 21 = .ok (.getfield 61, 3) := by decide +kernel
theorem dX6_takeName_24 : decode cX6_takeName 24 = .ok (.invokevirtual 50, 3) := by decide +kernel
theorem dX6_takeName_27 : decode cX6_takeName 27 = .ok (.return_, 1) := by decide +kernel
theorem dX6_takeName_28 : decode cX6_takeName 28 = .ok (.iinc 1 1, 3) := by decide +kernel
theorem dX6_takeName_31 : decode cX6_takeName 31 = .ok (.goto (-29), 3) := by decide +kernel
theorem dX6_takeName_34 : decode cX6_takeName 34 = .ok (.aload_n 0, 1) := by decide +kernel
theorem dX6_takeName_35 : decode cX6_takeName 35 = .ok (.getfield 33, 3) := by decide +kernel
theorem dX6_takeName_38 : decode cX6_takeName 38 = .ok (.bipush 7, 2) := by decide +kernel
theorem dX6_takeName_40 : decode cX6_takeName 40 = .ok (.if_icmp .ge 54, 3) := by decide +kernel
theorem dX6_takeName_43 : decode cX6_takeName 43 = .ok (.aload_n 0, 1) := by decide +kernel
theorem dX6_takeName_44 : decode cX6_takeName 44 = .ok (.getfield 15, 3) := by decide +kernel
theorem dX6_takeName_47 : decode cX6_takeName 47 = .ok (.aload_n 0, 1) := by decide +kernel
theorem dX6_takeName_48 : decode cX6_takeName 48 = .ok (.getfield 33, 3) := by decide +kernel
theorem dX6_takeName_51 : decode cX6_takeName 51 = .ok (.aload_n 0, 1) := by decide +kernel
theorem dX6_takeName_52 : decode cX6_takeName 52 = .ok (.getfield 61, 3) := by decide +kernel
theorem dX6_takeName_55 : decode cX6_takeName 55 = .ok (.iastore, 1) := by decide +kernel
theorem dX6_takeName_56 : decode cX6_takeName 56 = .ok (.aload_n 0, 1) := by decide +kernel
theorem dX6_takeName_57 : decode cX6_takeName 57 = .ok (.getfield 19, 3) := by decide +kernel
theorem dX6_takeName_60 : decode cX6_takeName 60 = .ok (.aload_n 0, 1) := by decide +kernel
theorem dX6_takeName_61 : decode cX6_takeName 61 = .ok (.getfield 33, 3) := by decide +kernel
theorem dX6_takeName_64 : decode cX6_takeName 64 = .ok (.aload_n 0, 1) := by decide +kernel
theorem dX6_takeName_65 : decode cX6_takeName 65 = .ok (.getfield 39, 3) := by decide +kernel
theorem dX6_takeName_68 : decode cX6_takeName 68 = .ok (.aload_n 0, 1) := by decide +kernel
theorem dX6_takeName_69 : decode cX6_takeName 69 = .ok (.getfield 61, 3) := by decide +kernel
theorem dX6_takeName_72 : decode cX6_takeName 72 = .ok (.isub, 1) := by decide +kernel
theorem dX6_takeName_73 : decode cX6_takeName 73 = .ok (.iastore, 1) := by decide +kernel
theorem dX6_takeName_74 : decode cX6_takeName 74 = .ok (.aload_n 0, 1) := by decide +kernel
theorem dX6_takeName_75 : decode cX6_takeName 75 = .ok (.getfield 22, 3) := by decide +kernel
theorem dX6_takeName_78 : decode cX6_takeName 78 = .ok (.aload_n 0, 1) := by decide +kernel
theorem dX6_takeName_79 : decode cX6_takeName 79 = .ok (.getfield 33, 3) := by decide +kernel
theorem dX6_takeName_82 : decode cX6_takeName 82 = .ok (.iconst 0, 1) := by decide +kernel
theorem dX6_takeName_83 : decode cX6_takeName 83 = .ok (.bastore, 1) := by decide +kernel
theorem dX6_takeName_84 : decode cX6_takeName 84 = .ok (.aload_n 0, 1) := by decide +kernel
theorem dX6_takeName_85 : decode cX6_takeName 85 = .ok (.dup, 1) := by decide +kernel
theorem dX6_takeName_86 : decode cX6_takeName 86 = .ok (.getfield 33, 3) := by decide +kernel
theorem dX6_takeName_89 : decode cX6_takeName 89 = .ok (.iconst 1, 1) := by decide +kernel
theorem dX6_takeName_90 : decode cX6_takeName 90 = .ok (.iadd, 1) := by decide +kernel
theorem dX6_takeName_91 : decode cX6_takeName 91 = .ok (.putfield 33, 3) := by decide +kernel
theorem dX6_takeName_94 : decode cX6_takeName 94 = .ok (.return_, 1) := by decide +kernel
theorem dX6_markSilent_0 : decode cX6_markSilent 0 = .ok (.aload_n 0, 1) := by decide +kernel
theorem dX6_markSilent_1 : decode cX6_markSilent 1 = .ok (.getfield 33, 3) := by decide +kernel
theorem dX6_markSilent_4 : decode cX6_markSilent 4 = .ok (.ifCond .le 24, 3) := by decide +kernel
theorem dX6_markSilent_7 : decode cX6_markSilent 7 = .ok (.aload_n 0, 1) := by decide +kernel
theorem dX6_markSilent_8 : decode cX6_markSilent 8 = .ok (.getfield 33, 3) := by decide +kernel
theorem dX6_markSilent_11 : decode cX6_markSilent 11 = .ok (.bipush 7, 2) := by decide +kernel
theorem dX6_markSilent_13 : decode cX6_markSilent 13 = .ok (.if_icmp .gt 15, 3) := by decide +kernel
theorem dX6_markSilent_16 : decode cX6_markSilent 16 = .ok (.aload_n 0, 1) := by decide +kernel
theorem dX6_markSilent_17 : decode cX6_markSilent 17 = .ok (.getfield 22, 3) := by decide +kernel
theorem dX6_markSilent_20 : decode cX6_markSilent 20 = .ok (.aload_n 0, 1) := by decide +kernel
theorem dX6_markSilent_21 : decode cX6_markSilent 21 = .ok (.getfield 33, 3) := by decide +kernel
theorem dX6_markSilent_24 : decode cX6_markSilent 24 = .ok (.iconst 1, 1) := by decide +kernel
theorem dX6_markSilent_25 : decode cX6_markSilent 25 = .ok (.isub, 1) := by decide +kernel
theorem dX6_markSilent_26 : decode cX6_markSilent 26 = .ok (.iconst 1, 1) := by decide +kernel
theorem dX6_markSilent_27 : decode cX6_markSilent 27 = .ok (.bastore, 1) := by decide +kernel
theorem dX6_markSilent_28 : decode cX6_markSilent 28 = .ok (.return_, 1) := by decide +kernel
theorem dX6_tokenIs_0 : decode cX6_tokenIs 0 = .ok (.aload_n 1, 1) := by decide +kernel
theorem dX6_tokenIs_1 : decode cX6_tokenIs 1 = .ok (.invokevirtual 92, 3) := by decide +kernel
theorem dX6_tokenIs_4 : decode cX6_tokenIs 4 = .ok (.aload_n 0, 1) := by decide +kernel
theorem dX6_tokenIs_5 : decode cX6_tokenIs 5 = .ok (.getfield 39, 3) := by decide +kernel
theorem dX6_tokenIs_8 : decode cX6_tokenIs 8 = .ok (.aload_n 0, 1) := by decide +kernel
theorem dX6_tokenIs_9 : decode cX6_tokenIs 9 = .ok (.getfield 61, 3) := by decide +kernel
theorem dX6_tokenIs_12 : decode cX6_tokenIs 12 = .ok (.isub, 1) := by decide +kernel
theorem dX6_tokenIs_13 : decode cX6_tokenIs 13 = .ok (.if_icmp .ne 7, 3) := by decide +kernel
theorem dX6_tokenIs_16 : decode cX6_tokenIs 16 = .ok (.iconst 1, 1) := by decide +kernel
theorem dX6_tokenIs_17 : decode cX6_tokenIs 17 = .ok (.goto 4, 3) := by decide +kernel
theorem dX6_tokenIs_20 : decode cX6_tokenIs 20 = .ok (.iconst 0, 1) := by decide +kernel
theorem dX6_tokenIs_21 : decode cX6_tokenIs 21 = .ok (.istore_n 2, 1) := by decide +kernel
theorem dX6_tokenIs_22 : decode cX6_tokenIs 22 = .ok (.iconst 0, 1) := by decide +kernel
theorem dX6_tokenIs_23 : decode cX6_tokenIs 23 = .ok (.istore_n 3, 1) := by decide +kernel
theorem dX6_tokenIs_24 : decode cX6_tokenIs 24 = .ok (.iload_n 2, 1) := by decide +kernel
theorem dX6_tokenIs_25 : decode cX6_tokenIs 25 = .ok (.ifCond .eq 41, 3) := by decide +kernel
theorem dX6_tokenIs_28 : decode cX6_tokenIs 28 = .ok (.iload_n 3, 1) := by decide +kernel
theorem dX6_tokenIs_29 : decode cX6_tokenIs 29 = .ok (.aload_n 1, 1) := by decide +kernel
theorem dX6_tokenIs_30 : decode cX6_tokenIs 30 = .ok (.invokevirtual 92, 3) := by decide +kernel
theorem dX6_tokenIs_33 : decode cX6_tokenIs 33 = .ok (.if_icmp .ge 33, 3) := by decide +kernel
theorem dX6_tokenIs_36 : decode cX6_tokenIs 36 = .ok (.aload_n 0, 1) := by decide +kernel
theorem dX6_tokenIs_37 : decode cX6_tokenIs 37 = .ok (.aload_n 0, 1) := by decide +kernel
theorem dX6_tokenIs_38 : decode cX6_tokenIs 38 = .ok (.getfield 61, 3) := by decide +kernel
theorem dX6_tokenIs_41 : decode cX6_tokenIs 41 = .ok (.iload_n 3, 1) := by decide +kernel
theorem dX6_tokenIs_42 : decode cX6_tokenIs 42 = .ok (.iadd, 1) := by decide +kernel
theorem dX6_tokenIs_43 : decode cX6_tokenIs 43 = .ok (.invokevirtual 58, 3) := by decide +kernel
theorem dX6_tokenIs_46 : decode cX6_tokenIs 46 = .ok (.aload_n 1, 1) := by decide +kernel
theorem dX6_tokenIs_47 : decode cX6_tokenIs 47 = .ok (.iload_n 3, 1) := by decide +kernel
theorem dX6_tokenIs_48 : decode cX6_tokenIs 48 = .ok (.invokevirtual 96, 3) := by decide +kernel
theorem dX6_tokenIs_51 : decode cX6_tokenIs 51 = .ok (.if_icmp .ne 7, 3) := by decide +kernel
theorem dX6_tokenIs_54 : decode cX6_tokenIs 54 = .ok (.iconst 1, 1) := by decide +kernel
theorem dX6_tokenIs_55 : decode cX6_tokenIs 55 = .ok (.goto 4, 3) := by decide +kernel
theorem dX6_tokenIs_58 : decode cX6_tokenIs 58 = .ok (.iconst 0, 1) := by decide +kernel
theorem dX6_tokenIs_59 : decode cX6_tokenIs 59 = .ok (.istore_n 2, 1) := by decide +kernel
theorem dX6_tokenIs_60 : decode cX6_tokenIs 60 = .ok (.iinc 3 1, 3) := by decide +kernel
theorem dX6_tokenIs_63 : decode cX6_tokenIs 63 = .ok (.goto (-39), 3) := by decide +kernel
theorem dX6_tokenIs_66 : decode cX6_tokenIs 66 = .ok (.iload_n 2, 1) := by decide +kernel
theorem dX6_tokenIs_67 : decode cX6_tokenIs 67 = .ok (.ireturn, 1) := by decide +kernel
theorem dX6_tokenIsName_0 : decode cX6_tokenIsName 0 = .ok (.aload_n 0, 1) := by decide +kernel
theorem dX6_tokenIsName_1 : decode cX6_tokenIsName 1 = .ok (.getfield 19, 3) := by decide +kernel
theorem dX6_tokenIsName_4 : decode cX6_tokenIsName 4 = .ok (.iload_n 1, 1) := by decide +kernel
theorem dX6_tokenIsName_5 : decode cX6_tokenIsName 5 = .ok (.iaload, 1) := by decide +kernel
theorem dX6_tokenIsName_6 : decode cX6_tokenIsName 6 = .ok (.aload_n 0, 1) := by decide +kernel
theorem dX6_tokenIsName_7 : decode cX6_tokenIsName 7 = .ok (.getfield 39, 3) := by decide +kernel
theorem dX6_tokenIsName_10 : decode cX6_tokenIsName 10 = .ok (.aload_n 0, 1) := by decide +kernel
theorem dX6_tokenIsName_11 : decode cX6_tokenIsName 11 = .ok (.getfield 61, 3) := by decide +kernel
theorem dX6_tokenIsName_14 : decode cX6_tokenIsName 14 = .ok (.isub, 1) := by decide +kernel
theorem dX6_tokenIsName_15 : decode cX6_tokenIsName 15 = .ok (.if_icmp .ne 7, 3) := by decide +kernel
theorem dX6_tokenIsName_18 : decode cX6_tokenIsName 18 = .ok (.iconst 1, 1) := by decide +kernel
theorem dX6_tokenIsName_19 : decode cX6_tokenIsName 19 = .ok (.goto 4, 3) := by decide +kernel
theorem dX6_tokenIsName_22 : decode cX6_tokenIsName 22 = .ok (.iconst 0, 1) := by decide +kernel
theorem dX6_tokenIsName_23 : decode cX6_tokenIsName 23 = .ok (.istore_n 2, 1) := by decide +kernel
theorem dX6_tokenIsName_24 : decode cX6_tokenIsName 24 = .ok (.iconst 0, 1) := by decide +kernel
theorem dX6_tokenIsName_25 : decode cX6_tokenIsName 25 = .ok (.istore_n 3, 1) := by decide +kernel
theorem dX6_tokenIsName_26 : decode cX6_tokenIsName 26 = .ok (.iload_n 2, 1) := by decide +kernel
theorem dX6_tokenIsName_27 : decode cX6_tokenIsName 27 = .ok (.ifCond .eq 50, 3) := by decide +kernel
theorem dX6_tokenIsName_30 : decode cX6_tokenIsName 30 = .ok (.iload_n 3, 1) := by decide +kernel
theorem dX6_tokenIsName_31 : decode cX6_tokenIsName 31 = .ok (.aload_n 0, 1) := by decide +kernel
theorem dX6_tokenIsName_32 : decode cX6_tokenIsName 32 = .ok (.getfield 19, 3) := by decide +kernel
theorem dX6_tokenIsName_35 : decode cX6_tokenIsName 35 = .ok (.iload_n 1, 1) := by decide +kernel
theorem dX6_tokenIsName_36 : decode cX6_tokenIsName 36 = .ok (.iaload, 1) := by decide +kernel
theorem dX6_tokenIsName_37 : decode cX6_tokenIsName 37 = .ok (.if_icmp .ge 40, 3) := by decide +kernel
theorem dX6_tokenIsName_40 : decode cX6_tokenIsName 40 = .ok (.aload_n 0, 1) := by decide +kernel
theorem dX6_tokenIsName_41 : decode cX6_tokenIsName 41 = .ok (.aload_n 0, 1) := by decide +kernel
theorem dX6_tokenIsName_42 : decode cX6_tokenIsName 42 = .ok (.getfield 61, 3) := by decide +kernel
theorem dX6_tokenIsName_45 : decode cX6_tokenIsName 45 = .ok (.iload_n 3, 1) := by decide +kernel
theorem dX6_tokenIsName_46 : decode cX6_tokenIsName 46 = .ok (.iadd, 1) := by decide +kernel
theorem dX6_tokenIsName_47 : decode cX6_tokenIsName 47 = .ok (.invokevirtual 58, 3) := by decide +kernel
theorem dX6_tokenIsName_50 : decode cX6_tokenIsName 50 = .ok (.aload_n 0, 1) := by decide +kernel
theorem dX6_tokenIsName_51 : decode cX6_tokenIsName 51 = .ok (.aload_n 0, 1) := by decide +kernel
theorem dX6_tokenIsName_52 : decode cX6_tokenIsName 52 = .ok (.getfield 15, 3) := by decide +kernel
theorem dX6_tokenIsName_55 : decode cX6_tokenIsName 55 = .ok (.iload_n 1, 1) := by decide +kernel
theorem dX6_tokenIsName_56 : decode cX6_tokenIsName 56 = .ok (.iaload, 1) := by decide +kernel
theorem dX6_tokenIsName_57 : decode cX6_tokenIsName 57 = .ok (.iload_n 3, 1) := by decide +kernel
theorem dX6_tokenIsName_58 : decode cX6_tokenIsName 58 = .ok (.iadd, 1) := by decide +kernel
theorem dX6_tokenIsName_59 : decode cX6_tokenIsName 59 = .ok (.invokevirtual 58, 3) := by decide +kernel
theorem dX6_tokenIsName_62 : decode cX6_tokenIsName 62 = .ok (.if_icmp .ne 7, 3) := by decide +kernel
theorem dX6_tokenIsName_65 : decode cX6_tokenIsName 65 = .ok (.iconst 1, 1) := by decide +kernel
theorem dX6_tokenIsName_66 : decode cX6_tokenIsName 66 = .ok (.goto 4, 3) := by decide +kernel
theorem dX6_tokenIsName_69 : decode cX6_tokenIsName 69 = .ok (.iconst 0, 1) := by decide +kernel
theorem dX6_tokenIsName_70 : decode cX6_tokenIsName 70 = .ok (.istore_n 2, 1) := by decide +kernel
theorem dX6_tokenIsName_71 : decode cX6_tokenIsName 71 = .ok (.iinc 3 1, 3) := by decide +kernel
theorem dX6_tokenIsName_74 : decode cX6_tokenIsName 74 = .ok (.goto (-48), 3) := by decide +kernel
theorem dX6_tokenIsName_77 : decode cX6_tokenIsName 77 = .ok (.iload_n 2, 1) := by decide +kernel
theorem dX6_tokenIsName_78 : decode cX6_tokenIsName 78 = .ok (.ireturn, 1) := by decide +kernel
theorem dX7_init_0 : decode cX7_init 0 = .ok (.aload_n 0, 1) := by decide +kernel
theorem dX7_init_1 : decode cX7_init 1 = .ok (.invokespecial 3, 3) := by decide +kernel
theorem dX7_init_4 : decode cX7_init 4 = .ok (.aload_n 0, 1) := by decide +kernel
theorem dX7_init_5 : decode cX7_init 5 = .ok (.bipush 7, 2) := by decide +kernel
theorem dX7_init_7 : decode cX7_init 7 = .ok (.anewarray 9, 3) := by decide +kernel
theorem dX7_init_10 : decode cX7_init 10 = .ok (.putfield 11, 3) := by decide +kernel
theorem dX7_init_13 : decode cX7_init 13 = .ok (.iconst 0, 1) := by decide +kernel
theorem dX7_init_14 : decode cX7_init 14 = .ok (.istore_n 1, 1) := by decide +kernel
theorem dX7_init_15 : decode cX7_init 15 = .ok (.iload_n 1, 1) := by decide +kernel
theorem dX7_init_16 : decode cX7_init 16 = .ok (.bipush 7, 2) := by decide +kernel
theorem dX7_init_18 : decode cX7_init 18 = .ok (.if_icmp .ge 22, 3) := by decide +kernel
theorem dX7_init_21 : decode cX7_init 21 = .ok (.aload_n 0, 1) := by decide +kernel
theorem dX7_init_22 : decode cX7_init 22 = .ok (.getfield 11, 3) := by decide +kernel
theorem dX7_init_25 : decode cX7_init 25 = .ok (.iload_n 1, 1) := by decide +kernel
theorem dX7_init_26 : decode cX7_init 26 = .ok (.new 9, 3) := by decide +kernel
theorem dX7_init_29 : decode cX7_init 29 = .ok (.dup, 1) := by decide +kernel
theorem dX7_init_30 : decode cX7_init 30 = .ok (.invokespecial 17, 3) := by decide +kernel
theorem dX7_init_33 : decode cX7_init 33 = .ok (.aastore, 1) := by decide +kernel
theorem dX7_init_34 : decode cX7_init 34 = .ok (.iinc 1 1, 3) := by decide +kernel
theorem dX7_init_37 : decode cX7_init 37 = .ok (.goto (-22), 3) := by decide +kernel
theorem dX7_init_40 : decode cX7_init 40 = .ok (.aload_n 0, 1) := by decide +kernel
theorem dX7_init_41 : decode cX7_init 41 = .ok (.new 18, 3) := by decide +kernel
theorem dX7_init_44 : decode cX7_init 44 = .ok (.dup, 1) := by decide +kernel
theorem dX7_init_45 : decode cX7_init 45 = .ok (.invokespecial 20, 3) := by decide +kernel
theorem dX7_init_48 : decode cX7_init 48 = .ok (.putfield 21, 3) := by decide +kernel
theorem dX7_init_51 : decode cX7_init 51 = .ok (.aload_n 0, 1) := by decide +kernel
theorem dX7_init_52 : decode cX7_init 52 = .ok (.new 25, 3) := by decide +kernel
theorem dX7_init_55 : decode cX7_init 55 = .ok (.dup, 1) := by decide +kernel
theorem dX7_init_56 : decode cX7_init 56 = .ok (.invokespecial 27, 3) := by decide +kernel
theorem dX7_init_59 : decode cX7_init 59 = .ok (.putfield 28, 3) := by decide +kernel
theorem dX7_init_62 : decode cX7_init 62 = .ok (.return_, 1) := by decide +kernel
theorem dX7_begin_0 : decode cX7_begin 0 = .ok (.aload_n 0, 1) := by decide +kernel
theorem dX7_begin_1 : decode cX7_begin 1 = .ok (.aload_n 1, 1) := by decide +kernel
theorem dX7_begin_2 : decode cX7_begin 2 = .ok (.getfield 32, 3) := by decide +kernel
theorem dX7_begin_5 : decode cX7_begin 5 = .ok (.bipush 7, 2) := by decide +kernel
theorem dX7_begin_7 : decode cX7_begin 7 = .ok (.invokestatic 38, 3) := by decide +kernel
theorem dX7_begin_10 : decode cX7_begin 10 = .ok (.putfield 44, 3) := by decide +kernel
theorem dX7_begin_13 : decode cX7_begin 13 = .ok (.aload_n 0, 1) := by decide +kernel
theorem dX7_begin_14 : decode cX7_begin 14 = .ok (.aload_n 1, 1) := by decide +kernel
theorem dX7_begin_15 : decode cX7_begin 15 = .ok (.invokevirtual 47, 3) := by decide +kernel
theorem dX7_begin_18 : decode cX7_begin 18 = .ok (.putfield 51, 3) := by decide +kernel
theorem dX7_begin_21 : decode cX7_begin 21 = .ok (.iconst 0, 1) := by decide +kernel
theorem dX7_begin_22 : decode cX7_begin 22 = .ok (.istore_n 2, 1) := by decide +kernel
theorem dX7_begin_23 : decode cX7_begin 23 = .ok (.iload_n 2, 1) := by decide +kernel
theorem dX7_begin_24 : decode cX7_begin 24 = .ok (.aload_n 0, 1) := by decide +kernel
theorem dX7_begin_25 : decode cX7_begin 25 = .ok (.getfield 44, 3) := by decide +kernel
theorem dX7_begin_28 : decode cX7_begin 28 = .ok (.if_icmp .ge 32, 3) := by decide +kernel
theorem dX7_begin_31 : decode cX7_begin 31 = .ok (.aload_n 0, 1) := by decide +kernel
theorem dX7_begin_32 : decode cX7_begin 32 = .ok (.getfield 11, 3) := by decide +kernel
theorem dX7_begin_35 : decode cX7_begin 35 = .ok (.iload_n 2, 1) := by decide +kernel
theorem dX7_begin_36 : decode cX7_begin 36 = .ok (.aaload, 1) := by decide +kernel
theorem dX7_begin_37 : decode cX7_begin 37 = .ok (.aload_n 1, 1) := by decide +kernel
theorem dX7_begin_38 : decode cX7_begin 38 = .ok (.getfield 54, 3) := by decide +kernel
theorem dX7_begin_41 : decode cX7_begin 41 = .ok (.iload_n 2, 1) := by decide +kernel
theorem dX7_begin_42 : decode cX7_begin 42 = .ok (.baload, 1) := by decide +kernel
theorem dX7_begin_43 : decode cX7_begin 43 = .ok (.ifCond .ne 7, 3) := by decide +kernel
theorem dX7_begin_46 : decode cX7_begin 46 = .ok (.iconst 1, 1) := by decide +kernel
theorem dX7_begin_47 : decode cX7_begin 47 = .ok (.goto 4, 3) := by decide +kernel
theorem dX7_begin_50 : decode cX7_begin 50 = .ok (.iconst 0, 1) := by decide +kernel
theorem dX7_begin_51 : decode cX7_begin 51 = .ok (.invokevirtual 58, 3) := by decide +kernel
theorem dX7_begin_54 : decode cX7_begin 54 = .ok (.iinc 2 1, 3) := by decide +kernel
theorem dX7_begin_57 : decode cX7_begin 57 = .ok (.goto (-34), 3) := by decide +kernel
theorem dX7_begin_60 : decode cX7_begin 60 = .ok (.aload_n 0, 1) := by decide +kernel
theorem dX7_begin_61 : decode cX7_begin 61 = .ok (.getfield 21, 3) := by decide +kernel
theorem dX7_begin_64 : decode cX7_begin 64 = .ok (.invokevirtual 62, 3) := by decide +kernel
theorem dX7_begin_67 : decode cX7_begin 67 = .ok (.aload_n 0, 1) := by decide +kernel
theorem dX7_begin_68 : decode cX7_begin 68 = .ok (.getfield 28, 3) := by decide +kernel
theorem dX7_begin_71 : decode cX7_begin 71 = .ok (.iconst 0, 1) := by decide +kernel
theorem dX7_begin_72 : decode cX7_begin 72 = .ok (.putfield 65, 3) := by decide +kernel
theorem dX7_begin_75 : decode cX7_begin 75 = .ok (.return_, 1) := by decide +kernel
theorem dX7_copyFrom_0 : decode cX7_copyFrom 0 = .ok (.aload_n 0, 1) := by decide +kernel
theorem dX7_copyFrom_1 : decode cX7_copyFrom 1 = .ok (.aload_n 1, 1) := by decide +kernel
theorem dX7_copyFrom_2 : decode cX7_copyFrom 2 = .ok (.getfield 44, 3) := by decide +kernel
theorem dX7_copyFrom_5 : decode cX7_copyFrom 5 = .ok (.putfield 44, 3) := by decide +kernel
theorem dX7_copyFrom_8 : decode cX7_copyFrom 8 = .ok (.aload_n 0, 1) := by decide +kernel
theorem dX7_copyFrom_9 : decode cX7_copyFrom 9 = .ok (.aload_n 1, 1) := by decide +kernel
theorem dX7_copyFrom_10 : decode cX7_copyFrom 10 = .ok (.getfield 51, 3) := by decide +kernel
theorem dX7_copyFrom_13 : decode cX7_copyFrom 13 = .ok (.putfield 51, 3) := by decide +kernel
theorem dX7_copyFrom_16 : decode cX7_copyFrom 16 = .ok (.iconst 0, 1) := by decide +kernel
theorem dX7_copyFrom_17 : decode cX7_copyFrom 17 = .ok (.istore_n 2, 1) := by decide +kernel
theorem dX7_copyFrom_18 : decode cX7_copyFrom 18 = .ok (.iload_n 2, 1) := by decide +kernel
theorem dX7_copyFrom_19 : decode cX7_copyFrom 19 = .ok (.bipush 7, 2) := by decide +kernel
theorem dX7_copyFrom_21 : decode cX7_copyFrom 21 = .ok (.if_icmp .ge 24, 3) := by decide +kernel
theorem dX7_copyFrom_24 : decode cX7_copyFrom 24 = .ok (.aload_n 0, 1) := by decide +kernel
theorem dX7_copyFrom_25 : decode cX7_copyFrom 25 = .ok (.getfield 11, 3) := by decide +kernel
theorem dX7_copyFrom_28 : decode cX7_copyFrom 28 = .ok (.iload_n 2, 1) := by decide +kernel
theorem dX7_copyFrom_29 : decode cX7_copyFrom 29 = .ok (.aaload, 1) := by decide +kernel
theorem dX7_copyFrom_30 : decode cX7_copyFrom 30 = .ok (.aload_n 1, 1) := by decide +kernel
theorem dX7_copyFrom_31 : decode cX7_copyFrom 31 = .ok (.getfield 11, 3) := by decide +kernel
theorem dX7_copyFrom_34 : decode cX7_copyFrom 34 = .ok (.iload_n 2, 1) := by decide +kernel
theorem dX7_copyFrom_35 : decode cX7_copyFrom 35 = .ok (.aaload, 1) := by decide +kernel
theorem dX7_copyFrom_36 : decode cX7_copyFrom 36 = .ok (.invokevirtual 68, 3) := by decide +kernel
theorem dX7_copyFrom_39 : decode cX7_copyFrom 39 = .ok (.iinc 2 1, 3) := by decide +kernel
theorem dX7_copyFrom_42 : decode cX7_copyFrom 42 = .ok (.goto (-24), 3) := by decide +kernel
theorem dX7_copyFrom_45 : decode cX7_copyFrom 45 = .ok (.aload_n 0, 1) := by decide +kernel
theorem dX7_copyFrom_46 : decode cX7_copyFrom 46 = .ok (.getfield 21, 3) := by decide +kernel
theorem dX7_copyFrom_49 : decode cX7_copyFrom 49 = .ok (.aload_n 1, 1) := by decide +kernel
theorem dX7_copyFrom_50 : decode cX7_copyFrom 50 = .ok (.getfield 21, 3) := by decide +kernel
theorem dX7_copyFrom_53 : decode cX7_copyFrom 53 = .ok (.invokevirtual 72, 3) := by decide +kernel
theorem dX7_copyFrom_56 : decode cX7_copyFrom 56 = .ok (.aload_n 0, 1) := by decide +kernel
theorem dX7_copyFrom_57 : decode cX7_copyFrom 57 = .ok (.getfield 28, 3) := by decide +kernel
theorem dX7_copyFrom_60 : decode cX7_copyFrom 60 = .ok (.aload_n 1, 1) := by decide +kernel
theorem dX7_copyFrom_61 : decode cX7_copyFrom 61 = .ok (.getfield 28, 3) := by decide +kernel
theorem dX7_copyFrom_64 : decode cX7_copyFrom 64 = .ok (.invokevirtual 75, 3) := by decide +kernel
theorem dX7_copyFrom_67 : decode cX7_copyFrom 67 = .ok (.return_, 1) := by decide +kernel
theorem dX7_isKeeper_0 : decode cX7_isKeeper 0 = .ok (.iload_n 1, 1) := by decide +kernel
theorem dX7_isKeeper_1 : decode cX7_isKeeper 1 = .ok (.ifCond .lt 21, 3) := by decide +kernel
theorem dX7_isKeeper_4 : decode cX7_isKeeper 4 = .ok (.iload_n 1, 1) := by decide +kernel
theorem dX7_isKeeper_5 : decode cX7_isKeeper 5 = .ok (.aload_n 0, 1) := by decide +kernel
theorem dX7_isKeeper_6 : decode cX7_isKeeper 6 = .ok (.getfield 44, 3) := by decide +kernel
theorem dX7_isKeeper_9 : decode cX7_isKeeper 9 = .ok (.if_icmp .ge 13, 3) := by decide +kernel
theorem dX7_isKeeper_12 : decode cX7_isKeeper 12 = .ok (.iload_n 1, 1) := by decide +kernel
theorem dX7_isKeeper_13 : decode cX7_isKeeper 13 = .ok (.bipush 7, 2) := by decide +kernel
theorem dX7_isKeeper_15 : decode cX7_isKeeper 15 = .ok (.if_icmp .ge 7, 3) := by decide +kernel
theorem dX7_isKeeper_18 : decode cX7_isKeeper 18 = .ok (.iconst 1, 1) := by decide +kernel
theorem dX7_isKeeper_19 : decode cX7_isKeeper 19 = .ok (.goto 4, 3) := by decide +kernel
theorem dX7_isKeeper_22 : decode cX7_isKeeper 22 = .ok (.iconst 0, 1) := by decide +kernel
theorem dX7_isKeeper_23 : decode cX7_isKeeper 23 = .ok (.ireturn, 1) := by decide +kernel
theorem dX7_isUp_0 : decode cX7_isUp 0 = .ok (.aload_n 0, 1) := by decide +kernel
theorem dX7_isUp_1 : decode cX7_isUp 1 = .ok (.iload_n 1, 1) := by decide +kernel
theorem dX7_isUp_2 : decode cX7_isUp 2 = .ok (.invokevirtual 78, 3) := by decide +kernel
theorem dX7_isUp_5 : decode cX7_isUp 5 = .ok (.ifCond .eq 19, 3) := by decide +kernel
theorem dX7_isUp_8 : decode cX7_isUp 8 = .ok (.aload_n 0, 1) := by decide +kernel
theorem dX7_isUp_9 : decode cX7_isUp 9 = .ok (.getfield 11, 3) := by decide +kernel
theorem dX7_isUp_12 : decode cX7_isUp 12 = .ok (.iload_n 1, 1) := by decide +kernel
theorem dX7_isUp_13 : decode cX7_isUp 13 = .ok (.aaload, 1) := by decide +kernel
theorem dX7_isUp_14 : decode cX7_isUp 14 = .ok (.getfield 82, 3) := by decide +kernel
theorem dX7_isUp_17 : decode cX7_isUp 17 = .ok (.ifCond .ne 7, 3) := by decide +kernel
theorem dX7_isUp_20 : decode cX7_isUp 20 = .ok (.iconst 1, 1) := by decide +kernel
theorem dX7_isUp_21 : decode cX7_isUp 21 = .ok (.goto 4, 3) := by decide +kernel
theorem dX7_isUp_24 : decode cX7_isUp 24 = .ok (.iconst 0, 1) := by decide +kernel
theorem dX7_isUp_25 : decode cX7_isUp 25 = .ok (.ireturn, 1) := by decide +kernel
theorem dX7_isLeading_0 : decode cX7_isLeading 0 = .ok (.aload_n 0, 1) := by decide +kernel
theorem dX7_isLeading_1 : decode cX7_isLeading 1 = .ok (.iload_n 1, 1) := by decide +kernel
theorem dX7_isLeading_2 : decode cX7_isLeading 2 = .ok (.invokevirtual 86, 3) := by decide +kernel
theorem dX7_isLeading_5 : decode cX7_isLeading 5 = .ok (.ifCond .eq 20, 3) := by decide +kernel
theorem dX7_isLeading_8 : decode cX7_isLeading 8 = .ok (.aload_n 0, 1) := by decide +kernel
theorem dX7_isLeading_9 : decode cX7_isLeading 9 = .ok (.getfield 11, 3) := by decide +kernel
theorem dX7_isLeading_12 : decode cX7_isLeading 12 = .ok (.iload_n 1, 1) := by decide +kernel
theorem dX7_isLeading_13 : decode cX7_isLeading 13 = .ok (.aaload, 1) := by decide +kernel
theorem dX7_isLeading_14 : decode cX7_isLeading 14 = .ok (.getfield 89, 3) := by decide +kernel
theorem dX7_isLeading_17 : decode cX7_isLeading 17 = .ok (.iconst 2, 1) := by decide +kernel
theorem dX7_isLeading_18 : decode cX7_isLeading 18 = .ok (.if_icmp .ne 7, 3) := by decide +kernel
theorem dX7_isLeading_21 : decode cX7_isLeading 21 = .ok (.iconst 1, 1) := by decide +kernel
theorem dX7_isLeading_22 : decode cX7_isLeading 22 = .ok (.goto 4, 3) := by decide +kernel
theorem dX7_isLeading_25 : decode cX7_isLeading 25 = .ok (.iconst 0, 1) := by decide +kernel
theorem dX7_isLeading_26 : decode cX7_isLeading 26 = .ok (.ireturn, 1) := by decide +kernel
theorem dX7_most_0 : decode cX7_most 0 = .ok (.aload_n 0, 1) := by decide +kernel
theorem dX7_most_1 : decode cX7_most 1 = .ok (.getfield 51, 3) := by decide +kernel
theorem dX7_most_4 : decode cX7_most 4 = .ok (.ifCond .ne 7, 3) := by decide +kernel
theorem dX7_most_7 : decode cX7_most 7 = .ok (.iconst 0, 1) := by decide +kernel
theorem dX7_most_8 : decode cX7_most 8 = .ok (.goto 11, 3) := by decide +kernel
theorem dX7_most_11 : decode cX7_most 11 = .ok (.aload_n 0, 1) := by decide +kernel
theorem dX7_most_12 : decode cX7_most 12 = .ok (.getfield 51, 3) := by decide +kernel
theorem dX7_most_15 : decode cX7_most 15 = .ok (.iconst 2, 1) := by decide +kernel
theorem dX7_most_16 : decode cX7_most 16 = .ok (.idiv, 1) := by decide +kernel
theorem dX7_most_17 : decode cX7_most 17 = .ok (.iconst 1, 1) := by decide +kernel
theorem dX7_most_18 : decode cX7_most 18 = .ok (.iadd, 1) := by decide +kernel
theorem dX7_most_19 : decode cX7_most 19 = .ok (.ireturn, 1) := by decide +kernel
theorem dX7_countUp_0 : decode cX7_countUp 0 = .ok (.iconst 0, 1) := by decide +kernel
theorem dX7_countUp_1 : decode cX7_countUp 1 = .ok (.istore_n 1, 1) := by decide +kernel
theorem dX7_countUp_2 : decode cX7_countUp 2 = .ok (.iconst 0, 1) := by decide +kernel
theorem dX7_countUp_3 : decode cX7_countUp 3 = .ok (.istore_n 2, 1) := by decide +kernel
theorem dX7_countUp_4 : decode cX7_countUp 4 = .ok (.iload_n 2, 1) := by decide +kernel
theorem dX7_countUp_5 : decode cX7_countUp 5 = .ok (.aload_n 0, 1) := by decide +kernel
theorem dX7_countUp_6 : decode cX7_countUp 6 = .ok (.getfield 44, 3) := by decide +kernel
theorem dX7_countUp_9 : decode cX7_countUp 9 = .ok (.if_icmp .ge 25, 3) := by decide +kernel
theorem dX7_countUp_12 : decode cX7_countUp 12 = .ok (.iload_n 1, 1) := by decide +kernel
theorem dX7_countUp_13 : decode cX7_countUp 13 = .ok (.aload_n 0, 1) := by decide +kernel
theorem dX7_countUp_14 : decode cX7_countUp 14 = .ok (.iload_n 2, 1) := by decide +kernel
theorem dX7_countUp_15 : decode cX7_countUp 15 = .ok (.invokevirtual 86, 3) := by decide +kernel
theorem dX7_countUp_18 : decode cX7_countUp 18 = .ok (.ifCond .eq 7, 3) := by decide +kernel
theorem dX7_countUp_21 : decode cX7_countUp 21 = .ok (.iconst 1, 1) := by decide +kernel
theorem dX7_countUp_22 : decode cX7_countUp 22 = .ok (.goto 4, 3) := by decide +kernel
theorem dX7_countUp_25 : decode cX7_countUp 25 = .ok (.iconst 0, 1) := by decide +kernel
theorem dX7_countUp_26 : decode cX7_countUp 26 = .ok (.iadd, 1) := by decide +kernel
theorem dX7_countUp_27 : decode cX7_countUp 27 = .ok (.istore_n 1, 1) := by decide +kernel
theorem dX7_countUp_28 : decode cX7_countUp 28 = .ok (.iinc 2 1, 3) := by decide +kernel
theorem dX7_countUp_31 : decode cX7_countUp 31 = .ok (.goto (-27), 3) := by decide +kernel
theorem dX7_countUp_34 : decode cX7_countUp 34 = .ok (.iload_n 1, 1) := by decide +kernel
theorem dX7_countUp_35 : decode cX7_countUp 35 = .ok (.ireturn, 1) := by decide +kernel
theorem dX7_askBy_0 : decode cX7_askBy 0 = .ok (.aload_n 0, 1) := by decide +kernel
theorem dX7_askBy_1 : decode cX7_askBy 1 = .ok (.getfield 11, 3) := by decide +kernel
theorem dX7_askBy_4 : decode cX7_askBy 4 = .ok (.iload_n 1, 1) := by decide +kernel
theorem dX7_askBy_5 : decode cX7_askBy 5 = .ok (.aaload, 1) := by decide +kernel
theorem dX7_askBy_6 : decode cX7_askBy 6 = .ok (.astore_n 2, 1) := by decide +kernel
theorem dX7_askBy_7 : decode cX7_askBy 7 = .ok (.bipush 40, 2) := by decide +kernel
theorem dX7_askBy_9 : decode cX7_askBy 9 = .ok (.aload_n 0, 1) := by decide +kernel
theorem dX7_askBy_10 : decode cX7_askBy 10 = .ok (.getfield 21, 3) := by decide +kernel
theorem dX7_askBy_13 : decode cX7_askBy 13 = .ok (.invokevirtual 92, 3) := by decide +kernel
theorem dX7_askBy_16 : decode cX7_askBy 16 = .ok (.isub, 1) := by decide +kernel
theorem dX7_askBy_17 : decode cX7_askBy 17 = .ok (.istore_n 3, 1) := by decide +kernel
theorem dX7_askBy_18 : decode cX7_askBy 18 = .ok (.aload_n 2, 1) := by decide +kernel
theorem dX7_askBy_19 : decode cX7_askBy 19 = .ok (.getfield 82, 3) := by decide +kernel
theorem dX7_askBy_22 : decode cX7_askBy 22 = .ok (.ifCond .ne 28, 3) := by decide +kernel
theorem dX7_askBy_25 : decode cX7_askBy 25 = .ok (.aload_n 2, 1) := by decide +kernel
theorem dX7_askBy_26 : decode cX7_askBy 26 = .ok (.getfield 95, 3) := by decide +kernel
theorem dX7_askBy_29 : decode cX7_askBy 29 = .ok (.ifCond .eq 21, 3) := by decide +kernel
theorem dX7_askBy_32 : decode cX7_askBy 32 = .ok (.aload_n 2, 1) := by decide +kernel
theorem dX7_askBy_33 : decode cX7_askBy 33 = .ok (.getfield 89, 3) := by decide +kernel
theorem dX7_askBy_36 : decode cX7_askBy 36 = .ok (.iconst 2, 1) := by decide +kernel
theorem dX7_askBy_37 : decode cX7_askBy 37 = .ok (.if_icmp .eq 13, 3) := by decide +kernel
theorem dX7_askBy_40 : decode cX7_askBy 40 = .ok (.iload_n 3, 1) := by decide +kernel
theorem dX7_askBy_41 : decode cX7_askBy 41 = .ok (.aload_n 0, 1) := by decide +kernel
theorem dX7_askBy_42 : decode cX7_askBy 42 = .ok (.getfield 51, 3) := by decide +kernel
theorem dX7_askBy_45 : decode cX7_askBy 45 = .ok (.iconst 1, 1) := by decide +kernel
theorem dX7_askBy_46 : decode cX7_askBy 46 = .ok (.isub, 1) := by decide +kernel
theorem dX7_askBy_47 : decode cX7_askBy 47 = .ok (.if_icmp .ge 5, 3) := by decide +kernel
theorem dX7_askBy_50 : decode cX7_askBy 50 = .ok (.iconst (-1), 1) := by decide +kernel
theorem dX7_askBy_51 : decode cX7_askBy 51 = .ok (.ireturn, 1) := by decide +kernel
theorem dX7_askBy_52 : decode cX7_askBy 52 = .ok (.aload_n 2, 1) := by decide +kernel
theorem dX7_askBy_53 : decode cX7_askBy 53 = .ok (.aload_n 2, 1) := by decide +kernel
theorem dX7_askBy_54 : decode cX7_askBy 54 = .ok (.getfield 98, 3) := by decide +kernel
theorem dX7_askBy_57 : decode cX7_askBy 57 = .ok (.iconst 1, 1) := by decide +kernel
theorem dX7_askBy_58 : decode cX7_askBy 58 = .ok (.iadd, 1) := by decide +kernel
theorem dX7_askBy_59 : decode cX7_askBy 59 = .ok (.invokevirtual 101, 3) := by decide +kernel
theorem dX7_askBy_62 : decode cX7_askBy 62 = .ok (.aload_n 2, 1) := by decide +kernel
theorem dX7_askBy_63 : decode cX7_askBy 63 = .ok (.iload_n 1, 1) := by decide +kernel
theorem dX7_askBy_64 : decode cX7_askBy 64 = .ok (.putfield 105, 3) := by decide +kernel
theorem dX7_askBy_67 : decode cX7_askBy 67 = .ok (.aload_n 2, 1) := by decide +kernel
theorem dX7_askBy_68 : decode cX7_askBy 68 = .ok (.iconst 1, 1) := by decide +kernel
theorem dX7_askBy_69 : decode cX7_askBy 69 = .ok (.putfield 89, 3) := by decide +kernel
theorem dX7_askBy_72 : decode cX7_askBy 72 = .ok (.aload_n 2, 1) := by decide +kernel
theorem dX7_askBy_73 : decode cX7_askBy 73 = .ok (.iconst 1, 1) := by decide +kernel
theorem dX7_askBy_74 : decode cX7_askBy 74 = .ok (.iload_n 1, 1) := by decide +kernel
theorem dX7_askBy_75 : decode cX7_askBy 75 = .ok (.ishl, 1) := by decide +kernel
theorem dX7_askBy_76 : decode cX7_askBy 76 = .ok (.putfield 108, 3) := by decide +kernel
theorem dX7_askBy_79 : decode cX7_askBy 79 = .ok (.iconst 0, 1) := by decide +kernel
theorem dX7_askBy_80 : decode cX7_askBy 80 = .ok (.istore 4, 2) := by decide +kernel
theorem dX7_askBy_82 : decode cX7_askBy 82 = .ok (.iload 4, 2) := by decide +kernel
theorem dX7_askBy_84 : decode cX7_askBy 84 = .ok (.aload_n 0, 1) := by decide +kernel
theorem dX7_askBy_85 : decode cX7_askBy 85 = .ok (.getfield 44, 3) := by decide +kernel
theorem dX7_askBy_88 : decode cX7_askBy 88 = .ok (.if_icmp .ge 35, 3) := by decide +kernel
theorem dX7_askBy_91 : decode cX7_askBy 91 = .ok (.iload 4, 2) := by decide +kernel
theorem dX7_askBy_93 : decode cX7_askBy 93 = .ok (.iload_n 1, 1) := by decide +kernel
theorem dX7_askBy_94 : decode cX7_askBy 94 = .ok (.if_icmp .eq 23, 3) := by decide +kernel
theorem dX7_askBy_97 : decode cX7_askBy 97 = .ok (.aload_n 0, 1) := by decide +kernel
theorem dX7_askBy_98 : decode cX7_askBy 98 = .ok (.getfield 11, 3) := by decide +kernel
theorem dX7_askBy_101 : decode cX7_askBy 101 = .ok (.iload 4, 2) := by decide +kernel
theorem dX7_askBy_103 : decode cX7_askBy 103 = .ok (.aaload, 1) := by decide +kernel
theorem dX7_askBy_104 : decode cX7_askBy 104 = .ok (.getfield 95, 3) := by decide +kernel
theorem dX7_askBy_107 : decode cX7_askBy 107 = .ok (.ifCond .eq 10, 3) := by decide +kernel
theorem dX7_askBy_110 : decode cX7_askBy 110 = .ok (.aload_n 0, 1) := by decide +kernel
theorem dX7_askBy_111 : decode cX7_askBy 111 = .ok (.iload_n 1, 1) := by decide +kernel
theorem dX7_askBy_112 : decode cX7_askBy 112 = .ok (.iload 4, 2) := by decide +kernel
theorem dX7_askBy_114 : decode cX7_askBy 114 = .ok (.invokevirtual 111, 3) := by decide +kernel
theorem dX7_askBy_117 : decode cX7_askBy 117 = .ok (.iinc 4 1, 3) := by decide +kernel
theorem dX7_askBy_120 : decode cX7_askBy 120 = .ok (.goto (-38), 3) := by decide +kernel
theorem dX7_askBy_123 : decode cX7_askBy 123 = .ok (.aload_n 0, 1) := by decide +kernel
theorem dX7_askBy_124 : decode cX7_askBy 124 = .ok (.aload_n 2, 1) := by decide +kernel
theorem dX7_askBy_125 : decode cX7_askBy 125 = .ok (.invokevirtual 115, 3) := by decide +kernel
theorem dX7_askBy_128 : decode cX7_askBy 128 = .ok (.aload_n 2, 1) := by decide +kernel
theorem dX7_askBy_129 : decode cX7_askBy 129 = .ok (.getfield 98, 3) := by decide +kernel
theorem dX7_askBy_132 : decode cX7_askBy 132 = .ok (.ireturn, 1) := by decide +kernel
theorem dX7_sendAsk_0 : decode cX7_sendAsk 0 = .ok (.aload_n 0, 1) := by decide +kernel
theorem dX7_sendAsk_1 : decode cX7_sendAsk 1 = .ok (.iconst 0, 1) := by decide +kernel
theorem dX7_sendAsk_2 : decode cX7_sendAsk 2 = .ok (.iload_n 1, 1) := by decide +kernel
theorem dX7_sendAsk_3 : decode cX7_sendAsk 3 = .ok (.iload_n 2, 1) := by decide +kernel
theorem dX7_sendAsk_4 : decode cX7_sendAsk 4 = .ok (.invokevirtual 118, 3) := by decide +kernel
theorem dX7_sendAsk_7 : decode cX7_sendAsk 7 = .ok (.astore_n 3, 1) := by decide +kernel
theorem dX7_sendAsk_8 : decode cX7_sendAsk 8 = .ok (.aload_n 3, 1) := by decide +kernel
theorem dX7_sendAsk_9 : decode cX7_sendAsk 9 = .ok (.ifnull 34, 3) := by decide +kernel
theorem dX7_sendAsk_12 : decode cX7_sendAsk 12 = .ok (.aload_n 0, 1) := by decide +kernel
theorem dX7_sendAsk_13 : decode cX7_sendAsk 13 = .ok (.getfield 11, 3) := by decide +kernel
theorem dX7_sendAsk_16 : decode cX7_sendAsk 16 = .ok (.iload_n 1, 1) := by decide +kernel
theorem dX7_sendAsk_17 : decode cX7_sendAsk 17 = .ok (.aaload, 1) := by decide +kernel
theorem dX7_sendAsk_18 : decode cX7_sendAsk 18 = .ok (.astore 4, 2) := by decide +kernel
theorem dX7_sendAsk_20 : decode cX7_sendAsk 20 = .ok (.aload_n 3, 1) := by decide +kernel
theorem dX7_sendAsk_21 : decode cX7_sendAsk 21 = .ok (.aload 4, 2) := by decide +kernel
theorem dX7_sendAsk_23 : decode cX7_sendAsk 23 = .ok (.getfield 122, 3) := by decide +kernel
theorem dX7_sendAsk_26 : decode cX7_sendAsk 26 = .ok (.putfield 125, 3) := by decide +kernel
theorem dX7_sendAsk_29 : decode cX7_sendAsk 29 = .ok (.aload_n 3, 1) := by decide +kernel
theorem dX7_sendAsk_30 : decode cX7_sendAsk 30 = .ok (.aload 4, 2) := by decide +kernel
theorem dX7_sendAsk_32 : decode cX7_sendAsk 32 = .ok (.aload 4, 2) := by decide +kernel
theorem dX7_sendAsk_34 : decode cX7_sendAsk 34 = .ok (.getfield 122, 3) := by decide +kernel
theorem dX7_sendAsk_37 : decode cX7_sendAsk 37 = .ok (.invokevirtual 130, 3) := by decide +kernel
theorem dX7_sendAsk_40 : decode cX7_sendAsk 40 = .ok (.putfield 134, 3) := by decide +kernel
theorem dX7_sendAsk_43 : decode cX7_sendAsk 43 = .ok (.return_, 1) := by decide +kernel
theorem dX7_leadIfChosen_0 : decode cX7_leadIfChosen 0 = .ok (.aload_n 1, 1) := by decide +kernel
theorem dX7_leadIfChosen_1 : decode cX7_leadIfChosen 1 = .ok (.getfield 89, 3) := by decide +kernel
theorem dX7_leadIfChosen_4 : decode cX7_leadIfChosen 4 = .ok (.iconst 1, 1) := by decide +kernel
theorem dX7_leadIfChosen_5 : decode cX7_leadIfChosen 5 = .ok (.if_icmp .ne 21, 3) := by decide +kernel
theorem dX7_leadIfChosen_8 : decode cX7_leadIfChosen 8 = .ok (.aload_n 1, 1) := by decide +kernel
theorem dX7_leadIfChosen_9 : decode cX7_leadIfChosen 9 = .ok (.getfield 108, 3) := by decide +kernel
theorem dX7_leadIfChosen_12 : decode cX7_leadIfChosen 12 = .ok (.invokestatic 137, 3) := by decide +kernel
theorem dX7_leadIfChosen_15 : decode cX7_leadIfChosen 15 = .ok (.aload_n 0, 1) := by decide +kernel
theorem dX7_leadIfChosen_16 : decode cX7_leadIfChosen 16 = .ok (.invokevirtual 142, 3) := by decide +kernel
theorem dX7_leadIfChosen_19 : decode cX7_leadIfChosen 19 = .ok (.if_icmp .lt 7, 3) := by decide +kernel
theorem dX7_leadIfChosen_22 : decode cX7_leadIfChosen 22 = .ok (.aload_n 1, 1) := by decide +kernel
theorem dX7_leadIfChosen_23 : decode cX7_leadIfChosen 23 = .ok (.invokevirtual 145, 3) := by decide +kernel
theorem dX7_leadIfChosen_26 : decode cX7_leadIfChosen 26 = .ok (.return_, 1) := by decide +kernel
theorem dX7_send_0 : decode cX7_send 0 = .ok (.aload_n 0, 1) := by decide +kernel
theorem dX7_send_1 : decode cX7_send 1 = .ok (.getfield 21, 3) := by decide +kernel
theorem dX7_send_4 : decode cX7_send 4 = .ok (.invokevirtual 148, 3) := by decide +kernel
theorem dX7_send_7 : decode cX7_send 7 = .ok (.istore 4, 2) := by decide +kernel
theorem dX7_send_9 : decode cX7_send 9 = .ok (.iload 4, 2) := by decide +kernel
theorem dX7_send_11 : decode cX7_send 11 = .ok (.iconst (-1), 1) := by decide +kernel
theorem dX7_send_12 : decode cX7_send 12 = .ok (.if_icmp .ne 5, 3) := by decide +kernel
theorem dX7_send_15 : decode cX7_send 15 = .ok (.aconst_null, 1) := by decide +kernel
theorem dX7_send_16 : decode cX7_send 16 = .ok (.areturn, 1) := by decide +kernel
theorem dX7_send_17 : decode cX7_send 17 = .ok (.aload_n 0, 1) := by decide +kernel
theorem dX7_send_18 : decode cX7_send 18 = .ok (.getfield 21, 3) := by decide +kernel
theorem dX7_send_21 : decode cX7_send 21 = .ok (.getfield 151, 3) := by decide +kernel
theorem dX7_send_24 : decode cX7_send 24 = .ok (.iload 4, 2) := by decide +kernel
theorem dX7_send_26 : decode cX7_send 26 = .ok (.aaload, 1) := by decide +kernel
theorem dX7_send_27 : decode cX7_send 27 = .ok (.astore 5, 2) := by decide +kernel
theorem dX7_send_29 : decode cX7_send 29 = .ok (.aload 5, 2) := by decide +kernel
theorem dX7_send_31 : decode cX7_send 31 = .ok (.iload_n 1, 1) := by decide +kernel
theorem dX7_send_32 : decode cX7_send 32 = .ok (.iload_n 2, 1) := by decide +kernel
theorem dX7_send_33 : decode cX7_send 33 = .ok (.iload_n 3, 1) := by decide +kernel
theorem dX7_send_34 : decode cX7_send 34 = .ok (.aload_n 0, 1) := by decide +kernel
theorem dX7_send_35 : decode cX7_send 35 = .ok (.getfield 11, 3) := by decide +kernel
theorem dX7_send_38 : decode cX7_send 38 = .ok (.iload_n 2, 1) := by decide +kernel
theorem dX7_send_39 : decode cX7_send 39 = .ok (.aaload, 1) := by decide +kernel
theorem dX7_send_40 : decode cX7_send 40 = .ok (.getfield 98, 3) := by decide +kernel
theorem dX7_send_43 : decode cX7_send 43 = .ok (.invokevirtual 155, 3) := by decide +kernel
theorem dX7_send_46 : decode cX7_send 46 = .ok (.aload 5, 2) := by decide +kernel
theorem dX7_send_48 : decode cX7_send 48 = .ok (.areturn, 1) := by decide +kernel
theorem dX7_addCommand_0 : decode cX7_addCommand 0 = .ok (.aload_n 0, 1) := by decide +kernel
theorem dX7_addCommand_1 : decode cX7_addCommand 1 = .ok (.getfield 11, 3) := by decide +kernel
theorem dX7_addCommand_4 : decode cX7_addCommand 4 = .ok (.iload_n 1, 1) := by decide +kernel
theorem dX7_addCommand_5 : decode cX7_addCommand 5 = .ok (.aaload, 1) := by decide +kernel
theorem dX7_addCommand_6 : decode cX7_addCommand 6 = .ok (.astore 7, 2) := by decide +kernel
theorem dX7_addCommand_8 : decode cX7_addCommand 8 = .ok (.aload 7, 2) := by decide +kernel
theorem dX7_addCommand_10 : decode cX7_addCommand 10 = .ok (.invokevirtual 159, 3) := by decide +kernel
theorem dX7_addCommand_13 : decode cX7_addCommand 13 = .ok (.istore 8, 2) := by decide +kernel
theorem dX7_addCommand_15 : decode cX7_addCommand 15 = .ok (.iload 8, 2) := by decide +kernel
theorem dX7_addCommand_17 : decode cX7_addCommand 17 = .ok (.iconst (-1), 1) := by decide +kernel
theorem dX7_addCommand_18 : decode cX7_addCommand 18 = .ok (.if_icmp .ne 5, 3) := by decide +kernel
theorem dX7_addCommand_21 : decode cX7_addCommand 21 = .ok (.iconst (-1), 1) := by decide +kernel
theorem dX7_addCommand_22 : decode cX7_addCommand 22 = .ok (.ireturn, 1) := by decide +kernel
theorem dX7_addCommand_23 : decode cX7_addCommand 23 = .ok (.aload 7, 2) := by decide +kernel
theorem dX7_addCommand_25 : decode cX7_addCommand 25 = .ok (.getfield 162, 3) := by decide +kernel
theorem dX7_addCommand_28 : decode cX7_addCommand 28 = .ok (.iload 8, 2) := by decide +kernel
theorem dX7_addCommand_30 : decode cX7_addCommand 30 = .ok (.iconst 0, 1) := by decide +kernel
theorem dX7_addCommand_31 : decode cX7_addCommand 31 = .ok (.iadd, 1) := by decide +kernel
theorem dX7_addCommand_32 : decode cX7_addCommand 32 = .ok (.aload 7, 2) := by decide +kernel
theorem dX7_addCommand_34 : decode cX7_addCommand 34 = .ok (.getfield 98, 3) := by decide +kernel
theorem dX7_addCommand_37 : decode cX7_addCommand 37 = .ok (.iastore, 1) := by decide +kernel
theorem dX7_addCommand_38 : decode cX7_addCommand 38 = .ok (.aload 7, 2) := by decide +kernel
theorem dX7_addCommand_40 : decode cX7_addCommand 40 = .ok (.getfield 162, 3) := by decide +kernel
theorem dX7_addCommand_43 : decode cX7_addCommand 43 = .ok (.iload 8, 2) := by decide +kernel
theorem dX7_addCommand_45 : decode cX7_addCommand 45 = .ok (.iconst 1, 1) := by decide +kernel
theorem dX7_addCommand_46 : decode cX7_addCommand 46 = .ok (.iadd, 1) := by decide +kernel
theorem dX7_addCommand_47 : decode cX7_addCommand 47 = .ok (.iload_n 2, 1) := by decide +kernel
theorem dX7_addCommand_48 : decode cX7_addCommand 48 = .ok (.iastore, 1) := by decide +kernel
theorem dX7_addCommand_49 : decode cX7_addCommand 49 = .ok (.aload 7, 2) := by decide +kernel
theorem dX7_addCommand_51 : decode cX7_addCommand 51 = .ok (.getfield 162, 3) := by decide +kernel
theorem dX7_addCommand_54 : decode cX7_addCommand 54 = .ok (.iload 8, 2) := by decide +kernel
theorem dX7_addCommand_56 : decode cX7_addCommand 56 = .ok (.iconst 2, 1) := by decide +kernel
theorem dX7_addCommand_57 : decode cX7_addCommand 57 = .ok (.iadd, 1) := by decide +kernel
theorem dX7_addCommand_58 : decode cX7_addCommand 58 = .ok (.iload_n 3, 1) := by decide +kernel
theorem dX7_addCommand_59 : decode cX7_addCommand 59 = .ok (.iastore, 1) := by decide +kernel
theorem dX7_addCommand_60 : decode cX7_addCommand 60 = .ok (.aload 7, 2) := by decide +kernel
theorem dX7_addCommand_62 : decode cX7_addCommand 62 = .ok (.getfield 162, 3) := by decide +kernel
theorem dX7_addCommand_65 : decode cX7_addCommand 65 = .ok (.iload 8, 2) := by decide +kernel
theorem dX7_addCommand_67 : decode cX7_addCommand 67 = .ok (.iconst 3, 1) := by decide +kernel
theorem dX7_addCommand_68 : decode cX7_addCommand 68 = .ok (.iadd, 1) := by decide +kernel
theorem dX7_addCommand_69 : decode cX7_addCommand 69 = .ok (.iload 4, 2) := by decide +kernel
theorem dX7_addCommand_71 : decode cX7_addCommand 71 = .ok (.iastore, 1) := by decide +kernel
theorem dX7_addCommand_72 : decode cX7_addCommand 72 = .ok (.aload 7, 2) := by decide +kernel
theorem dX7_addCommand_74 : decode cX7_addCommand 74 = .ok (.getfield 162, 3) := by decide +kernel
theorem dX7_addCommand_77 : decode cX7_addCommand 77 = .ok (.iload 8, 2) := by decide +kernel
theorem dX7_addCommand_79 : decode cX7_addCommand 79 = .ok (.iconst 4, 1) := by decide +kernel
theorem dX7_addCommand_80 : decode cX7_addCommand 80 = .ok (.iadd, 1) := by decide +kernel
theorem dX7_addCommand_81 : decode cX7_addCommand 81 = .ok (.iload 5, 2) := by decide +kernel
theorem dX7_addCommand_83 : decode cX7_addCommand 83 = .ok (.iastore, 1) := by decide +kernel
theorem dX7_addCommand_84 : decode cX7_addCommand 84 = .ok (.aload 7, 2) := by decide +kernel
theorem dX7_addCommand_86 : decode cX7_addCommand 86 = .ok (.getfield 162, 3) := by decide +kernel
theorem dX7_addCommand_89 : decode cX7_addCommand 89 = .ok (.iload 8, 2) := by decide +kernel
theorem dX7_addCommand_91 : decode cX7_addCommand 91 = .ok (.iconst 5, 1) := by decide +kernel
theorem dX7_addCommand_92 : decode cX7_addCommand 92 = .ok (.iadd, 1) := by decide +kernel
theorem dX7_addCommand_93 : decode cX7_addCommand 93 = .ok (.iload 6, 2) := by decide +kernel
theorem dX7_addCommand_95 : decode cX7_addCommand 95 = .ok (.iastore, 1) := by decide +kernel
theorem dX7_addCommand_96 : decode cX7_addCommand 96 = .ok (.aload_n 0, 1) := by decide +kernel
theorem dX7_addCommand_97 : decode cX7_addCommand 97 = .ok (.iload_n 1, 1) := by decide +kernel
theorem dX7_addCommand_98 : decode cX7_addCommand 98 = .ok (.invokevirtual 166, 3) := by decide +kernel
theorem dX7_addCommand_101 : decode cX7_addCommand 101 = .ok (.aload 7, 2) := by decide +kernel
theorem dX7_addCommand_103 : decode cX7_addCommand 103 = .ok (.getfield 122, 3) := by decide +kernel
theorem dX7_addCommand_106 : decode cX7_addCommand 106 = .ok (.ireturn, 1) := by decide +kernel
theorem dX7_settle_0 : decode cX7_settle 0 = .ok (.aload_n 0, 1) := by decide +kernel
theorem dX7_settle_1 : decode cX7_settle 1 = .ok (.getfield 11, 3) := by decide +kernel
theorem dX7_settle_4 : decode cX7_settle 4 = .ok (.iload_n 1, 1) := by decide +kernel
theorem dX7_settle_5 : decode cX7_settle 5 = .ok (.aaload, 1) := by decide +kernel
theorem dX7_settle_6 : decode cX7_settle 6 = .ok (.astore_n 2, 1) := by decide +kernel
theorem dX7_settle_7 : decode cX7_settle 7 = .ok (.aload_n 2, 1) := by decide +kernel
theorem dX7_settle_8 : decode cX7_settle 8 = .ok (.getfield 122, 3) := by decide +kernel
theorem dX7_settle_11 : decode cX7_settle 11 = .ok (.istore_n 3, 1) := by decide +kernel
theorem dX7_settle_12 : decode cX7_settle 12 = .ok (.iload_n 3, 1) := by decide +kernel
theorem dX7_settle_13 : decode cX7_settle 13 = .ok (.aload_n 2, 1) := by decide +kernel
theorem dX7_settle_14 : decode cX7_settle 14 = .ok (.getfield 169, 3) := by decide +kernel
theorem dX7_settle_17 : decode cX7_settle 17 = .ok (.if_icmp .le 40, 3) := by decide +kernel
theorem dX7_settle_20 : decode cX7_settle 20 = .ok (.aload_n 2, 1) := by decide +kernel
theorem dX7_settle_21 : decode cX7_settle 21 = .ok (.iload_n 3, 1) := by decide +kernel
theorem dX7_settle_22 : decode cX7_settle 22 = .ok (.invokevirtual 130, 3) := by decide +kernel
theorem dX7_settle_25 : decode cX7_settle 25 = .ok (.aload_n 2, 1) := by decide +kernel
theorem dX7_settle_26 : decode cX7_settle 26 = .ok (.getfield 98, 3) := by decide +kernel
theorem dX7_settle_29 : decode cX7_settle 29 = .ok (.if_icmp .ne 22, 3) := by decide +kernel
theorem dX7_settle_32 : decode cX7_settle 32 = .ok (.aload_n 0, 1) := by decide +kernel
theorem dX7_settle_33 : decode cX7_settle 33 = .ok (.iload_n 1, 1) := by decide +kernel
theorem dX7_settle_34 : decode cX7_settle 34 = .ok (.iload_n 3, 1) := by decide +kernel
theorem dX7_settle_35 : decode cX7_settle 35 = .ok (.invokevirtual 172, 3) := by decide +kernel
theorem dX7_settle_38 : decode cX7_settle 38 = .ok (.aload_n 0, 1) := by decide +kernel
theorem dX7_settle_39 : decode cX7_settle 39 = .ok (.invokevirtual 142, 3) := by decide +kernel
theorem dX7_settle_42 : decode cX7_settle 42 = .ok (.if_icmp .lt 9, 3) := by decide +kernel
theorem dX7_settle_45 : decode cX7_settle 45 = .ok (.aload_n 2, 1) := by decide +kernel
theorem dX7_settle_46 : decode cX7_settle 46 = .ok (.iload_n 3, 1) := by decide +kernel
theorem dX7_settle_47 : decode cX7_settle 47 = .ok (.invokevirtual 175, 3) := by decide +kernel
theorem dX7_settle_50 : decode cX7_settle 50 = .ok (.return_, 1) := by decide +kernel
theorem dX7_settle_51 : decode cX7_settle 51 = .ok (.iinc 3 (-1), 3) := by decide +kernel
theorem dX7_settle_54 : decode cX7_settle 54 = .ok (.goto (-42), 3) := by decide +kernel
theorem dX7_settle_57 : decode cX7_settle 57 = .ok (.return_, 1) := by decide +kernel
theorem dX7_countSure_0 : decode cX7_countSure 0 = .ok (.iconst 0, 1) := by decide +kernel
theorem dX7_countSure_1 : decode cX7_countSure 1 = .ok (.istore_n 3, 1) := by decide +kernel
theorem dX7_countSure_2 : decode cX7_countSure 2 = .ok (.iconst 0, 1) := by decide +kernel
theorem dX7_countSure_3 : decode cX7_countSure 3 = .ok (.istore 4, 2) := by decide +kernel
theorem dX7_countSure_5 : decode cX7_countSure 5 = .ok (.iload 4, 2) := by decide +kernel
theorem dX7_countSure_7 : decode cX7_countSure 7 = .ok (.aload_n 0, 1) := by decide +kernel
theorem dX7_countSure_8 : decode cX7_countSure 8 = .ok (.getfield 44, 3) := by decide +kernel
theorem dX7_countSure_11 : decode cX7_countSure 11 = .ok (.if_icmp .ge 47, 3) := by decide +kernel
theorem dX7_countSure_14 : decode cX7_countSure 14 = .ok (.aload_n 0, 1) := by decide +kernel
theorem dX7_countSure_15 : decode cX7_countSure 15 = .ok (.getfield 11, 3) := by decide +kernel
theorem dX7_countSure_18 : decode cX7_countSure 18 = .ok (.iload 4, 2) := by decide +kernel
theorem dX7_countSure_20 : decode cX7_countSure 20 = .ok (.aaload, 1) := by decide +kernel
theorem dX7_countSure_21 : decode cX7_countSure 21 = .ok (.getfield 95, 3) := by decide +kernel
theorem dX7_countSure_24 : decode cX7_countSure 24 = .ok (.ifCond .eq 28, 3) := by decide +kernel
theorem dX7_countSure_27 : decode cX7_countSure 27 = .ok (.iload 4, 2) := by decide +kernel
theorem dX7_countSure_29 : decode cX7_countSure 29 = .ok (.iload_n 1, 1) := by decide +kernel
theorem dX7_countSure_30 : decode cX7_countSure 30 = .ok (.if_icmp .eq 19, 3) := by decide +kernel
theorem dX7_countSure_33 : decode cX7_countSure 33 = .ok (.aload_n 0, 1) := by decide +kernel
theorem dX7_countSure_34 : decode cX7_countSure 34 = .ok (.getfield 11, 3) := by decide +kernel
theorem dX7_countSure_37 : decode cX7_countSure 37 = .ok (.iload_n 1, 1) := by decide +kernel
theorem dX7_countSure_38 : decode cX7_countSure 38 = .ok (.aaload, 1) := by decide +kernel
theorem dX7_countSure_39 : decode cX7_countSure 39 = .ok (.getfield 178, 3) := by decide +kernel
theorem dX7_countSure_42 : decode cX7_countSure 42 = .ok (.iload 4, 2) := by decide +kernel
theorem dX7_countSure_44 : decode cX7_countSure 44 = .ok (.iaload, 1) := by decide +kernel
theorem dX7_countSure_45 : decode cX7_countSure 45 = .ok (.iload_n 2, 1) := by decide +kernel
theorem dX7_countSure_46 : decode cX7_countSure 46 = .ok (.if_icmp .lt 6, 3) := by decide +kernel
theorem dX7_countSure_49 : decode cX7_countSure 49 = .ok (.iinc 3 1, 3) := by decide +kernel
theorem dX7_countSure_52 : decode cX7_countSure 52 = .ok (.iinc 4 1, 3) := by decide +kernel
theorem dX7_countSure_55 : decode cX7_countSure 55 = .ok (.goto (-50), 3) := by decide +kernel
theorem dX7_countSure_58 : decode cX7_countSure 58 = .ok (.iload_n 3, 1) := by decide +kernel
theorem dX7_countSure_59 : decode cX7_countSure 59 = .ok (.ireturn, 1) := by decide +kernel
theorem dX7_sendOn_0 : decode cX7_sendOn 0 = .ok (.aload_n 0, 1) := by decide +kernel
theorem dX7_sendOn_1 : decode cX7_sendOn 1 = .ok (.getfield 11, 3) := by decide +kernel
theorem dX7_sendOn_4 : decode cX7_sendOn 4 = .ok (.iload_n 1, 1) := by decide +kernel
theorem dX7_sendOn_5 : decode cX7_sendOn 5 = .ok (.aaload, 1) := by decide +kernel
theorem dX7_sendOn_6 : decode cX7_sendOn 6 = .ok (.astore_n 3, 1) := by decide +kernel
theorem dX7_sendOn_7 : decode cX7_sendOn 7 = .ok (.aload_n 0, 1) := by decide +kernel
theorem dX7_sendOn_8 : decode cX7_sendOn 8 = .ok (.getfield 21, 3) := by decide +kernel
theorem dX7_sendOn_11 : decode cX7_sendOn 11 = .ok (.invokevirtual 148, 3) := by decide +kernel
theorem dX7_sendOn_14 : decode cX7_sendOn 14 = .ok (.istore 4, 2) := by decide +kernel
theorem dX7_sendOn_16 : decode cX7_sendOn 16 = .ok (.aload_n 0, 1) := by decide +kernel
theorem dX7_sendOn_17 : decode cX7_sendOn 17 = .ok (.aload_n 3, 1) := by decide +kernel
theorem dX7_sendOn_18 : decode cX7_sendOn 18 = .ok (.getfield 181, 3) := by decide +kernel
theorem dX7_sendOn_21 : decode cX7_sendOn 21 = .ok (.iload_n 2, 1) := by decide +kernel
theorem dX7_sendOn_22 : decode cX7_sendOn 22 = .ok (.iaload, 1) := by decide +kernel
theorem dX7_sendOn_23 : decode cX7_sendOn 23 = .ok (.aload_n 3, 1) := by decide +kernel
theorem dX7_sendOn_24 : decode cX7_sendOn 24 = .ok (.getfield 184, 3) := by decide +kernel
theorem dX7_sendOn_27 : decode cX7_sendOn 27 = .ok (.if_icmp .gt 7, 3) := by decide +kernel
theorem dX7_sendOn_30 : decode cX7_sendOn 30 = .ok (.iconst 4, 1) := by decide +kernel
theorem dX7_sendOn_31 : decode cX7_sendOn 31 = .ok (.goto 4, 3) := by decide +kernel
theorem dX7_sendOn_34 : decode cX7_sendOn 34 = .ok (.iconst 2, 1) := by decide +kernel
theorem dX7_sendOn_35 : decode cX7_sendOn 35 = .ok (.iload_n 1, 1) := by decide +kernel
theorem dX7_sendOn_36 : decode cX7_sendOn 36 = .ok (.iload_n 2, 1) := by decide +kernel
theorem dX7_sendOn_37 : decode cX7_sendOn 37 = .ok (.invokevirtual 118, 3) := by decide +kernel
theorem dX7_sendOn_40 : decode cX7_sendOn 40 = .ok (.astore 5, 2) := by decide +kernel
theorem dX7_sendOn_42 : decode cX7_sendOn 42 = .ok (.aload 5, 2) := by decide +kernel
theorem dX7_sendOn_44 : decode cX7_sendOn 44 = .ok (.ifnonnull 5, 3) := by decide +kernel
theorem dX7_sendOn_47 : decode cX7_sendOn 47 = .ok (.iconst (-1), 1) := by decide +kernel
theorem dX7_sendOn_48 : decode cX7_sendOn 48 = .ok (.ireturn, 1) := by decide +kernel
theorem dX7_sendOn_49 : decode cX7_sendOn 49 = .ok (.aload_n 3, 1) := by decide +kernel
theorem dX7_sendOn_50 : decode cX7_sendOn 50 = .ok (.dup, 1) := by decide +kernel
theorem dX7_sendOn_51 : decode cX7_sendOn 51 = .ok (.getfield 187, 3) := by decide +kernel
theorem dX7_sendOn_54 : decode cX7_sendOn 54 = .ok (.iconst 1, 1) := by decide +kernel
theorem dX7_sendOn_55 : decode cX7_sendOn 55 = .ok (.iadd, 1) := by decide +kernel
theorem dX7_sendOn_56 : decode cX7_sendOn 56 = .ok (.putfield 187, 3) := by decide +kernel
theorem dX7_sendOn_59 : decode cX7_sendOn 59 = .ok (.aload 5, 2) := by decide +kernel
theorem dX7_sendOn_61 : decode cX7_sendOn 61 = .ok (.aload_n 3, 1) := by decide +kernel
theorem dX7_sendOn_62 : decode cX7_sendOn 62 = .ok (.getfield 187, 3) := by decide +kernel
theorem dX7_sendOn_65 : decode cX7_sendOn 65 = .ok (.putfield 190, 3) := by decide +kernel
theorem dX7_sendOn_68 : decode cX7_sendOn 68 = .ok (.aload 5, 2) := by decide +kernel
theorem dX7_sendOn_70 : decode cX7_sendOn 70 = .ok (.getfield 191, 3) := by decide +kernel
theorem dX7_sendOn_73 : decode cX7_sendOn 73 = .ok (.iconst 4, 1) := by decide +kernel
theorem dX7_sendOn_74 : decode cX7_sendOn 74 = .ok (.if_icmp .ne 12, 3) := by decide +kernel
theorem dX7_sendOn_77 : decode cX7_sendOn 77 = .ok (.aload 5, 2) := by decide +kernel
theorem dX7_sendOn_79 : decode cX7_sendOn 79 = .ok (.aload_n 3, 1) := by decide +kernel
theorem dX7_sendOn_80 : decode cX7_sendOn 80 = .ok (.invokevirtual 194, 3) := by decide +kernel
theorem dX7_sendOn_83 : decode cX7_sendOn 83 = .ok (.goto 15, 3) := by decide +kernel
theorem dX7_sendOn_86 : decode cX7_sendOn 86 = .ok (.aload 5, 2) := by decide +kernel
theorem dX7_sendOn_88 : decode cX7_sendOn 88 = .ok (.aload_n 3, 1) := by decide +kernel
theorem dX7_sendOn_89 : decode cX7_sendOn 89 = .ok (.aload_n 3, 1) := by decide +kernel
theorem dX7_sendOn_90 : decode cX7_sendOn 90 = .ok (.getfield 181, 3) := by decide +kernel
theorem dX7_sendOn_93 : decode cX7_sendOn 93 = .ok (.iload_n 2, 1) := by decide +kernel
theorem dX7_sendOn_94 : decode cX7_sendOn 94 = .ok (.iaload, 1) := by decide +kernel
theorem dX7_sendOn_95 : decode cX7_sendOn 95 = .ok (.invokevirtual 197, 3) := by decide +kernel
theorem dX7_sendOn_98 : decode cX7_sendOn 98 = .ok (.iload 4, 2) := by decide +kernel
theorem dX7_sendOn_100 : decode cX7_sendOn 100 = .ok (.ireturn, 1) := by decide +kernel
theorem dX7_deliverFrom_0 : decode cX7_deliverFrom 0 = .ok (.aload_n 0, 1) := by decide +kernel
theorem dX7_deliverFrom_1 : decode cX7_deliverFrom 1 = .ok (.getfield 21, 3) := by decide +kernel
theorem dX7_deliverFrom_4 : decode cX7_deliverFrom 4 = .ok (.iload_n 1, 1) := by decide +kernel
theorem dX7_deliverFrom_5 : decode cX7_deliverFrom 5 = .ok (.invokevirtual 201, 3) := by decide +kernel
theorem dX7_deliverFrom_8 : decode cX7_deliverFrom 8 = .ok (.astore_n 2, 1) := by decide +kernel
theorem dX7_deliverFrom_9 : decode cX7_deliverFrom 9 = .ok (.aload_n 0, 1) := by decide +kernel
theorem dX7_deliverFrom_10 : decode cX7_deliverFrom 10 = .ok (.aload_n 2, 1) := by decide +kernel
theorem dX7_deliverFrom_11 : decode cX7_deliverFrom 11 = .ok (.getfield 205, 3) := by decide +kernel
theorem dX7_deliverFrom_14 : decode cX7_deliverFrom 14 = .ok (.invokevirtual 86, 3) := by decide +kernel
theorem dX7_deliverFrom_17 : decode cX7_deliverFrom 17 = .ok (.ifCond .eq 14, 3) := by decide +kernel
theorem dX7_deliverFrom_20 : decode cX7_deliverFrom 20 = .ok (.aload_n 0, 1) := by decide +kernel
theorem dX7_deliverFrom_21 : decode cX7_deliverFrom 21 = .ok (.aload_n 2, 1) := by decide +kernel
theorem dX7_deliverFrom_22 : decode cX7_deliverFrom 22 = .ok (.getfield 208, 3) := by decide +kernel
theorem dX7_deliverFrom_25 : decode cX7_deliverFrom 25 = .ok (.invokevirtual 78, 3) := by decide +kernel
theorem dX7_deliverFrom_28 : decode cX7_deliverFrom 28 = .ok (.ifCond .ne 5, 3) := by decide +kernel
theorem dX7_deliverFrom_31 : decode cX7_deliverFrom 31 = .ok (.iconst 0, 1) := by decide +kernel
theorem dX7_deliverFrom_32 : decode cX7_deliverFrom 32 = .ok (.ireturn, 1) := by decide +kernel
theorem dX7_deliverFrom_33 : decode cX7_deliverFrom 33 = .ok (.aload_n 0, 1) := by decide +kernel
theorem dX7_deliverFrom_34 : decode cX7_deliverFrom 34 = .ok (.getfield 11, 3) := by decide +kernel
theorem dX7_deliverFrom_37 : decode cX7_deliverFrom 37 = .ok (.aload_n 2, 1) := by decide +kernel
theorem dX7_deliverFrom_38 : decode cX7_deliverFrom 38 = .ok (.getfield 205, 3) := by decide +kernel
theorem dX7_deliverFrom_41 : decode cX7_deliverFrom 41 = .ok (.aaload, 1) := by decide +kernel
theorem dX7_deliverFrom_42 : decode cX7_deliverFrom 42 = .ok (.astore_n 3, 1) := by decide +kernel
theorem dX7_deliverFrom_43 : decode cX7_deliverFrom 43 = .ok (.aload_n 2, 1) := by decide +kernel
theorem dX7_deliverFrom_44 : decode cX7_deliverFrom 44 = .ok (.getfield 211, 3) := by decide +kernel
theorem dX7_deliverFrom_47 : decode cX7_deliverFrom 47 = .ok (.aload_n 3, 1) := by decide +kernel
theorem dX7_deliverFrom_48 : decode cX7_deliverFrom 48 = .ok (.getfield 98, 3) := by decide +kernel
theorem dX7_deliverFrom_51 : decode cX7_deliverFrom 51 = .ok (.if_icmp .le 11, 3) := by decide +kernel
theorem dX7_deliverFrom_54 : decode cX7_deliverFrom 54 = .ok (.aload_n 3, 1) := by decide +kernel
theorem dX7_deliverFrom_55 : decode cX7_deliverFrom 55 = .ok (.aload_n 2, 1) := by decide +kernel
theorem dX7_deliverFrom_56 : decode cX7_deliverFrom 56 = .ok (.getfield 211, 3) := by decide +kernel
theorem dX7_deliverFrom_59 : decode cX7_deliverFrom 59 = .ok (.invokevirtual 101, 3) := by decide +kernel
theorem dX7_deliverFrom_62 : decode cX7_deliverFrom 62 = .ok (.aload_n 2, 1) := by decide +kernel
theorem dX7_deliverFrom_63 : decode cX7_deliverFrom 63 = .ok (.getfield 191, 3) := by decide +kernel
theorem dX7_deliverFrom_66 : decode cX7_deliverFrom 66 = .ok (.tableswitch 51 0 3 #[30, 37, 51, 44], 30) := by decide +kernel
theorem dX7_deliverFrom_96 : decode cX7_deliverFrom 96 = .ok (.aload_n 0, 1) := by decide +kernel
theorem dX7_deliverFrom_97 : decode cX7_deliverFrom 97 = .ok (.aload_n 3, 1) := by decide +kernel
theorem dX7_deliverFrom_98 : decode cX7_deliverFrom 98 = .ok (.aload_n 2, 1) := by decide +kernel
theorem dX7_deliverFrom_99 : decode cX7_deliverFrom 99 = .ok (.invokevirtual 212, 3) := by decide +kernel
theorem dX7_deliverFrom_102 : decode cX7_deliverFrom 102 = .ok (.ireturn, 1) := by decide +kernel
theorem dX7_deliverFrom_103 : decode cX7_deliverFrom 103 = .ok (.aload_n 0, 1) := by decide +kernel
theorem dX7_deliverFrom_104 : decode cX7_deliverFrom 104 = .ok (.aload_n 3, 1) := by decide +kernel
theorem dX7_deliverFrom_105 : decode cX7_deliverFrom 105 = .ok (.aload_n 2, 1) := by decide +kernel
theorem dX7_deliverFrom_106 : decode cX7_deliverFrom 106 = .ok (.invokevirtual 216, 3) := by decide +kernel
theorem dX7_deliverFrom_109 : decode cX7_deliverFrom 109 = .ok (.ireturn, 1) := by decide +kernel
theorem dX7_deliverFrom_110 : decode cX7_deliverFrom 110 = .ok (.aload_n 0, 1) := by decide +kernel
theorem dX7_deliverFrom_111 : decode cX7_deliverFrom 111 = .ok (.aload_n 3, 1) := by decide +kernel
theorem dX7_deliverFrom_112 : decode cX7_deliverFrom 112 = .ok (.aload_n 2, 1) := by decide +kernel
theorem dX7_deliverFrom_113 : decode cX7_deliverFrom 113 = .ok (.invokevirtual 219, 3) := by decide +kernel
theorem dX7_deliverFrom_116 : decode cX7_deliverFrom 116 = .ok (.ireturn, 1) := by decide +kernel
theorem dX7_deliverFrom_117 : decode cX7_deliverFrom 117 = .ok (.aload_n 0, 1) := by decide +kernel
theorem dX7_deliverFrom_118 : decode cX7_deliverFrom 118 = .ok (.aload_n 3, 1) := by decide +kernel
theorem dX7_deliverFrom_119 : decode cX7_deliverFrom 119 = .ok (.aload_n 2, 1) := by decide +kernel
theorem dX7_deliverFrom_120 : decode cX7_deliverFrom 120 = .ok (.invokevirtual 222, 3) := by decide +kernel
theorem dX7_deliverFrom_123 : decode cX7_deliverFrom 123 = .ok (.ireturn, 1) := by decide +kernel
theorem dX7_reply_0 : decode cX7_reply 0 = .ok (.aload_n 0, 1) := by decide +kernel
theorem dX7_reply_1 : decode cX7_reply 1 = .ok (.iload_n 2, 1) := by decide +kernel
theorem dX7_reply_2 : decode cX7_reply 2 = .ok (.aload_n 1, 1) := by decide +kernel
theorem dX7_reply_3 : decode cX7_reply 3 = .ok (.getfield 205, 3) := by decide +kernel
theorem dX7_reply_6 : decode cX7_reply 6 = .ok (.aload_n 1, 1) := by decide +kernel
theorem dX7_reply_7 : decode cX7_reply 7 = .ok (.getfield 208, 3) := by decide +kernel
theorem dX7_reply_10 : decode cX7_reply 10 = .ok (.invokevirtual 118, 3) := by decide +kernel
theorem dX7_reply_13 : decode cX7_reply 13 = .ok (.astore 5, 2) := by decide +kernel
theorem dX7_reply_15 : decode cX7_reply 15 = .ok (.aload 5, 2) := by decide +kernel
theorem dX7_reply_17 : decode cX7_reply 17 = .ok (.ifnonnull 5, 3) := by decide +kernel
theorem dX7_reply_20 : decode cX7_reply 20 = .ok (.iconst 0, 1) := by decide +kernel
theorem dX7_reply_21 : decode cX7_reply 21 = .ok (.ireturn, 1) := by decide +kernel
theorem dX7_reply_22 : decode cX7_reply 22 = .ok (.aload 5, 2) := by decide +kernel
theorem dX7_reply_24 : decode cX7_reply 24 = .ok (.iload_n 3, 1) := by decide +kernel
theorem dX7_reply_25 : decode cX7_reply 25 = .ok (.ifCond .eq 7, 3) := by decide +kernel
theorem dX7_reply_28 : decode cX7_reply 28 = .ok (.iconst 1, 1) := by decide +kernel
theorem dX7_reply_29 : decode cX7_reply 29 = .ok (.goto 4, 3) := by decide +kernel
theorem dX7_reply_32 : decode cX7_reply 32 = .ok (.iconst 0, 1) := by decide +kernel
theorem dX7_reply_33 : decode cX7_reply 33 = .ok (.putfield 125, 3) := by decide +kernel
theorem dX7_reply_36 : decode cX7_reply 36 = .ok (.aload 5, 2) := by decide +kernel
theorem dX7_reply_38 : decode cX7_reply 38 = .ok (.iload 4, 2) := by decide +kernel
theorem dX7_reply_40 : decode cX7_reply 40 = .ok (.putfield 134, 3) := by decide +kernel
theorem dX7_reply_43 : decode cX7_reply 43 = .ok (.aload 5, 2) := by decide +kernel
theorem dX7_reply_45 : decode cX7_reply 45 = .ok (.aload_n 1, 1) := by decide +kernel
theorem dX7_reply_46 : decode cX7_reply 46 = .ok (.getfield 190, 3) := by decide +kernel
theorem dX7_reply_49 : decode cX7_reply 49 = .ok (.putfield 190, 3) := by decide +kernel
theorem dX7_reply_52 : decode cX7_reply 52 = .ok (.aload 5, 2) := by decide +kernel
theorem dX7_reply_54 : decode cX7_reply 54 = .ok (.aload_n 1, 1) := by decide +kernel
theorem dX7_reply_55 : decode cX7_reply 55 = .ok (.getfield 225, 3) := by decide +kernel
theorem dX7_reply_58 : decode cX7_reply 58 = .ok (.putfield 225, 3) := by decide +kernel
theorem dX7_reply_61 : decode cX7_reply 61 = .ok (.iconst 1, 1) := by decide +kernel
theorem dX7_reply_62 : decode cX7_reply 62 = .ok (.ireturn, 1) := by decide +kernel
theorem dX7_takeAsk_0 : decode cX7_takeAsk 0 = .ok (.aload_n 1, 1) := by decide +kernel
theorem dX7_takeAsk_1 : decode cX7_takeAsk 1 = .ok (.getfield 105, 3) := by decide +kernel
theorem dX7_takeAsk_4 : decode cX7_takeAsk 4 = .ok (.iconst (-1), 1) := by decide +kernel
theorem dX7_takeAsk_5 : decode cX7_takeAsk 5 = .ok (.if_icmp .eq 14, 3) := by decide +kernel
theorem dX7_takeAsk_8 : decode cX7_takeAsk 8 = .ok (.aload_n 1, 1) := by decide +kernel
theorem dX7_takeAsk_9 : decode cX7_takeAsk 9 = .ok (.getfield 105, 3) := by decide +kernel
theorem dX7_takeAsk_12 : decode cX7_takeAsk 12 = .ok (.aload_n 2, 1) := by decide +kernel
theorem dX7_takeAsk_13 : decode cX7_takeAsk 13 = .ok (.getfield 208, 3) := by decide +kernel
theorem dX7_takeAsk_16 : decode cX7_takeAsk 16 = .ok (.if_icmp .ne 7, 3) := by decide +kernel
theorem dX7_takeAsk_19 : decode cX7_takeAsk 19 = .ok (.iconst 1, 1) := by decide +kernel
theorem dX7_takeAsk_20 : decode cX7_takeAsk 20 = .ok (.goto 4, 3) := by decide +kernel
theorem dX7_takeAsk_23 : decode cX7_takeAsk 23 = .ok (.iconst 0, 1) := by decide +kernel
theorem dX7_takeAsk_24 : decode cX7_takeAsk 24 = .ok (.istore_n 3, 1) := by decide +kernel
theorem dX7_takeAsk_25 : decode cX7_takeAsk 25 = .ok (.aload_n 1, 1) := by decide +kernel
theorem dX7_takeAsk_26 : decode cX7_takeAsk 26 = .ok (.getfield 95, 3) := by decide +kernel
theorem dX7_takeAsk_29 : decode cX7_takeAsk 29 = .ok (.ifCond .eq 31, 3) := by decide +kernel
theorem dX7_takeAsk_32 : decode cX7_takeAsk 32 = .ok (.aload_n 1, 1) := by decide +kernel
theorem dX7_takeAsk_33 : decode cX7_takeAsk 33 = .ok (.getfield 98, 3) := by decide +kernel
theorem dX7_takeAsk_36 : decode cX7_takeAsk 36 = .ok (.aload_n 2, 1) := by decide +kernel
theorem dX7_takeAsk_37 : decode cX7_takeAsk 37 = .ok (.getfield 211, 3) := by decide +kernel
theorem dX7_takeAsk_40 : decode cX7_takeAsk 40 = .ok (.if_icmp .ne 20, 3) := by decide +kernel
theorem dX7_takeAsk_43 : decode cX7_takeAsk 43 = .ok (.iload_n 3, 1) := by decide +kernel
theorem dX7_takeAsk_44 : decode cX7_takeAsk 44 = .ok (.ifCond .eq 16, 3) := by decide +kernel
theorem dX7_takeAsk_47 : decode cX7_takeAsk 47 = .ok (.aload_n 0, 1) := by decide +kernel
theorem dX7_takeAsk_48 : decode cX7_takeAsk 48 = .ok (.aload_n 1, 1) := by decide +kernel
theorem dX7_takeAsk_49 : decode cX7_takeAsk 49 = .ok (.aload_n 2, 1) := by decide +kernel
theorem dX7_takeAsk_50 : decode cX7_takeAsk 50 = .ok (.invokevirtual 228, 3) := by decide +kernel
theorem dX7_takeAsk_53 : decode cX7_takeAsk 53 = .ok (.ifCond .ne 7, 3) := by decide +kernel
theorem dX7_takeAsk_56 : decode cX7_takeAsk 56 = .ok (.iconst 1, 1) := by decide +kernel
theorem dX7_takeAsk_57 : decode cX7_takeAsk 57 = .ok (.goto 4, 3) := by decide +kernel
theorem dX7_takeAsk_60 : decode cX7_takeAsk 60 = .ok (.iconst 0, 1) := by decide +kernel
theorem dX7_takeAsk_61 : decode cX7_takeAsk 61 = .ok (.istore 4, 2) := by decide +kernel
theorem dX7_takeAsk_63 : decode cX7_takeAsk 63 = .ok (.iload 4, 2) := by decide +kernel
theorem dX7_takeAsk_65 : decode cX7_takeAsk 65 = .ok (.ifCond .eq 11, 3) := by decide +kernel
theorem dX7_takeAsk_68 : decode cX7_takeAsk 68 = .ok (.aload_n 1, 1) := by decide +kernel
theorem dX7_takeAsk_69 : decode cX7_takeAsk 69 = .ok (.aload_n 2, 1) := by decide +kernel
theorem dX7_takeAsk_70 : decode cX7_takeAsk 70 = .ok (.getfield 208, 3) := by decide +kernel
theorem dX7_takeAsk_73 : decode cX7_takeAsk 73 = .ok (.putfield 105, 3) := by decide +kernel
theorem dX7_takeAsk_76 : decode cX7_takeAsk 76 = .ok (.aload_n 0, 1) := by decide +kernel
theorem dX7_takeAsk_77 : decode cX7_takeAsk 77 = .ok (.aload_n 2, 1) := by decide +kernel
theorem dX7_takeAsk_78 : decode cX7_takeAsk 78 = .ok (.iconst 1, 1) := by decide +kernel
theorem dX7_takeAsk_79 : decode cX7_takeAsk 79 = .ok (.iload 4, 2) := by decide +kernel
theorem dX7_takeAsk_81 : decode cX7_takeAsk 81 = .ok (.iconst 0, 1) := by decide +kernel
theorem dX7_takeAsk_82 : decode cX7_takeAsk 82 = .ok (.invokevirtual 232, 3) := by decide +kernel
theorem dX7_takeAsk_85 : decode cX7_takeAsk 85 = .ok (.ireturn, 1) := by decide +kernel
theorem dX7_isAhead_0 : decode cX7_isAhead 0 = .ok (.aload_n 1, 1) := by decide +kernel
theorem dX7_isAhead_1 : decode cX7_isAhead 1 = .ok (.aload_n 1, 1) := by decide +kernel
theorem dX7_isAhead_2 : decode cX7_isAhead 2 = .ok (.getfield 122, 3) := by decide +kernel
theorem dX7_isAhead_5 : decode cX7_isAhead 5 = .ok (.invokevirtual 130, 3) := by decide +kernel
theorem dX7_isAhead_8 : decode cX7_isAhead 8 = .ok (.istore_n 3, 1) := by decide +kernel
theorem dX7_isAhead_9 : decode cX7_isAhead 9 = .ok (.iload_n 3, 1) := by decide +kernel
theorem dX7_isAhead_10 : decode cX7_isAhead 10 = .ok (.aload_n 2, 1) := by decide +kernel
theorem dX7_isAhead_11 : decode cX7_isAhead 11 = .ok (.getfield 134, 3) := by decide +kernel
theorem dX7_isAhead_14 : decode cX7_isAhead 14 = .ok (.if_icmp .gt 22, 3) := by decide +kernel
theorem dX7_isAhead_17 : decode cX7_isAhead 17 = .ok (.iload_n 3, 1) := by decide +kernel
theorem dX7_isAhead_18 : decode cX7_isAhead 18 = .ok (.aload_n 2, 1) := by decide +kernel
theorem dX7_isAhead_19 : decode cX7_isAhead 19 = .ok (.getfield 134, 3) := by decide +kernel
theorem dX7_isAhead_22 : decode cX7_isAhead 22 = .ok (.if_icmp .ne 18, 3) := by decide +kernel
theorem dX7_isAhead_25 : decode cX7_isAhead 25 = .ok (.aload_n 1, 1) := by decide +kernel
theorem dX7_isAhead_26 : decode cX7_isAhead 26 = .ok (.getfield 122, 3) := by decide +kernel
theorem dX7_isAhead_29 : decode cX7_isAhead 29 = .ok (.aload_n 2, 1) := by decide +kernel
theorem dX7_isAhead_30 : decode cX7_isAhead 30 = .ok (.getfield 125, 3) := by decide +kernel
theorem dX7_isAhead_33 : decode cX7_isAhead 33 = .ok (.if_icmp .le 7, 3) := by decide +kernel
theorem dX7_isAhead_36 : decode cX7_isAhead 36 = .ok (.iconst 1, 1) := by decide +kernel
theorem dX7_isAhead_37 : decode cX7_isAhead 37 = .ok (.goto 4, 3) := by decide +kernel
theorem dX7_isAhead_40 : decode cX7_isAhead 40 = .ok (.iconst 0, 1) := by decide +kernel
theorem dX7_isAhead_41 : decode cX7_isAhead 41 = .ok (.ireturn, 1) := by decide +kernel
theorem dX7_takeBallot_0 : decode cX7_takeBallot 0 = .ok (.aload_n 1, 1) := by decide +kernel
theorem dX7_takeBallot_1 : decode cX7_takeBallot 1 = .ok (.getfield 89, 3) := by decide +kernel
theorem dX7_takeBallot_4 : decode cX7_takeBallot 4 = .ok (.iconst 1, 1) := by decide +kernel
theorem dX7_takeBallot_5 : decode cX7_takeBallot 5 = .ok (.if_icmp .ne 42, 3) := by decide +kernel
theorem dX7_takeBallot_8 : decode cX7_takeBallot 8 = .ok (.aload_n 1, 1) := by decide +kernel
theorem dX7_takeBallot_9 : decode cX7_takeBallot 9 = .ok (.getfield 98, 3) := by decide +kernel
theorem dX7_takeBallot_12 : decode cX7_takeBallot 12 = .ok (.aload_n 2, 1) := by decide +kernel
theorem dX7_takeBallot_13 : decode cX7_takeBallot 13 = .ok (.getfield 211, 3) := by decide +kernel
theorem dX7_takeBallot_16 : decode cX7_takeBallot 16 = .ok (.if_icmp .ne 31, 3) := by decide +kernel
theorem dX7_takeBallot_19 : decode cX7_takeBallot 19 = .ok (.aload_n 2, 1) := by decide +kernel
theorem dX7_takeBallot_20 : decode cX7_takeBallot 20 = .ok (.getfield 125, 3) := by decide +kernel
theorem dX7_takeBallot_23 : decode cX7_takeBallot 23 = .ok (.iconst 1, 1) := by decide +kernel
theorem dX7_takeBallot_24 : decode cX7_takeBallot 24 = .ok (.if_icmp .ne 23, 3) := by decide +kernel
theorem dX7_takeBallot_27 : decode cX7_takeBallot 27 = .ok (.aload_n 1, 1) := by decide +kernel
theorem dX7_takeBallot_28 : decode cX7_takeBallot 28 = .ok (.dup, 1) := by decide +kernel
theorem dX7_takeBallot_29 : decode cX7_takeBallot 29 = .ok (.getfield 108, 3) := by decide +kernel
theorem dX7_takeBallot_32 : decode cX7_takeBallot 32 = .ok (.iconst 1, 1) := by decide +kernel
theorem dX7_takeBallot_33 : decode cX7_takeBallot 33 = .ok (.aload_n 2, 1) := by decide +kernel
theorem dX7_takeBallot_34 : decode cX7_takeBallot 34 = .ok (.getfield 208, 3) := by decide +kernel
theorem dX7_takeBallot_37 : decode cX7_takeBallot 37 = .ok (.ishl, 1) := by decide +kernel
theorem dX7_takeBallot_38 : decode cX7_takeBallot 38 = .ok (.ior, 1) := by decide +kernel
theorem dX7_takeBallot_39 : decode cX7_takeBallot 39 = .ok (.putfield 108, 3) := by decide +kernel
theorem dX7_takeBallot_42 : decode cX7_takeBallot 42 = .ok (.aload_n 0, 1) := by decide +kernel
theorem dX7_takeBallot_43 : decode cX7_takeBallot 43 = .ok (.aload_n 1, 1) := by decide +kernel
theorem dX7_takeBallot_44 : decode cX7_takeBallot 44 = .ok (.invokevirtual 115, 3) := by decide +kernel
theorem dX7_takeBallot_47 : decode cX7_takeBallot 47 = .ok (.iconst 0, 1) := by decide +kernel
theorem dX7_takeBallot_48 : decode cX7_takeBallot 48 = .ok (.ireturn, 1) := by decide +kernel
theorem dX7_takeAnswer_0 : decode cX7_takeAnswer 0 = .ok (.aload_n 1, 1) := by decide +kernel
theorem dX7_takeAnswer_1 : decode cX7_takeAnswer 1 = .ok (.getfield 89, 3) := by decide +kernel
theorem dX7_takeAnswer_4 : decode cX7_takeAnswer 4 = .ok (.iconst 2, 1) := by decide +kernel
theorem dX7_takeAnswer_5 : decode cX7_takeAnswer 5 = .ok (.if_icmp .ne 14, 3) := by decide +kernel
theorem dX7_takeAnswer_8 : decode cX7_takeAnswer 8 = .ok (.aload_n 1, 1) := by decide +kernel
theorem dX7_takeAnswer_9 : decode cX7_takeAnswer 9 = .ok (.getfield 98, 3) := by decide +kernel
theorem dX7_takeAnswer_12 : decode cX7_takeAnswer 12 = .ok (.aload_n 2, 1) := by decide +kernel
theorem dX7_takeAnswer_13 : decode cX7_takeAnswer 13 = .ok (.getfield 211, 3) := by decide +kernel
theorem dX7_takeAnswer_16 : decode cX7_takeAnswer 16 = .ok (.if_icmp .eq 5, 3) := by decide +kernel
theorem dX7_takeAnswer_19 : decode cX7_takeAnswer 19 = .ok (.iconst 0, 1) := by decide +kernel
theorem dX7_takeAnswer_20 : decode cX7_takeAnswer 20 = .ok (.ireturn, 1) := by decide +kernel
theorem dX7_takeAnswer_21 : decode cX7_takeAnswer 21 = .ok (.aload_n 2, 1) := by decide +kernel
theorem dX7_takeAnswer_22 : decode cX7_takeAnswer 22 = .ok (.getfield 208, 3) := by decide +kernel
theorem dX7_takeAnswer_25 : decode cX7_takeAnswer 25 = .ok (.istore_n 3, 1) := by decide +kernel
theorem dX7_takeAnswer_26 : decode cX7_takeAnswer 26 = .ok (.aload_n 1, 1) := by decide +kernel
theorem dX7_takeAnswer_27 : decode cX7_takeAnswer 27 = .ok (.getfield 236, 3) := by decide +kernel
theorem dX7_takeAnswer_30 : decode cX7_takeAnswer 30 = .ok (.iload_n 3, 1) := by decide +kernel
theorem dX7_takeAnswer_31 : decode cX7_takeAnswer 31 = .ok (.aload_n 1, 1) := by decide +kernel
theorem dX7_takeAnswer_32 : decode cX7_takeAnswer 32 = .ok (.getfield 236, 3) := by decide +kernel
theorem dX7_takeAnswer_35 : decode cX7_takeAnswer 35 = .ok (.iload_n 3, 1) := by decide +kernel
theorem dX7_takeAnswer_36 : decode cX7_takeAnswer 36 = .ok (.iaload, 1) := by decide +kernel
theorem dX7_takeAnswer_37 : decode cX7_takeAnswer 37 = .ok (.aload_n 2, 1) := by decide +kernel
theorem dX7_takeAnswer_38 : decode cX7_takeAnswer 38 = .ok (.getfield 190, 3) := by decide +kernel
theorem dX7_takeAnswer_41 : decode cX7_takeAnswer 41 = .ok (.invokestatic 239, 3) := by decide +kernel
theorem dX7_takeAnswer_44 : decode cX7_takeAnswer 44 = .ok (.iastore, 1) := by decide +kernel
theorem dX7_takeAnswer_45 : decode cX7_takeAnswer 45 = .ok (.aload_n 2, 1) := by decide +kernel
theorem dX7_takeAnswer_46 : decode cX7_takeAnswer 46 = .ok (.getfield 225, 3) := by decide +kernel
theorem dX7_takeAnswer_49 : decode cX7_takeAnswer 49 = .ok (.aload_n 1, 1) := by decide +kernel
theorem dX7_takeAnswer_50 : decode cX7_takeAnswer 50 = .ok (.getfield 98, 3) := by decide +kernel
theorem dX7_takeAnswer_53 : decode cX7_takeAnswer 53 = .ok (.if_icmp .ne 22, 3) := by decide +kernel
theorem dX7_takeAnswer_56 : decode cX7_takeAnswer 56 = .ok (.aload_n 1, 1) := by decide +kernel
theorem dX7_takeAnswer_57 : decode cX7_takeAnswer 57 = .ok (.getfield 242, 3) := by decide +kernel
theorem dX7_takeAnswer_60 : decode cX7_takeAnswer 60 = .ok (.iload_n 3, 1) := by decide +kernel
theorem dX7_takeAnswer_61 : decode cX7_takeAnswer 61 = .ok (.aload_n 1, 1) := by decide +kernel
theorem dX7_takeAnswer_62 : decode cX7_takeAnswer 62 = .ok (.getfield 242, 3) := by decide +kernel
theorem dX7_takeAnswer_65 : decode cX7_takeAnswer 65 = .ok (.iload_n 3, 1) := by decide +kernel
theorem dX7_takeAnswer_66 : decode cX7_takeAnswer 66 = .ok (.iaload, 1) := by decide +kernel
theorem dX7_takeAnswer_67 : decode cX7_takeAnswer 67 = .ok (.aload_n 2, 1) := by decide +kernel
theorem dX7_takeAnswer_68 : decode cX7_takeAnswer 68 = .ok (.getfield 190, 3) := by decide +kernel
theorem dX7_takeAnswer_71 : decode cX7_takeAnswer 71 = .ok (.invokestatic 239, 3) := by decide +kernel
theorem dX7_takeAnswer_74 : decode cX7_takeAnswer 74 = .ok (.iastore, 1) := by decide +kernel
theorem dX7_takeAnswer_75 : decode cX7_takeAnswer 75 = .ok (.aload_n 2, 1) := by decide +kernel
theorem dX7_takeAnswer_76 : decode cX7_takeAnswer 76 = .ok (.getfield 125, 3) := by decide +kernel
theorem dX7_takeAnswer_79 : decode cX7_takeAnswer 79 = .ok (.iconst 1, 1) := by decide +kernel
theorem dX7_takeAnswer_80 : decode cX7_takeAnswer 80 = .ok (.if_icmp .ne 39, 3) := by decide +kernel
theorem dX7_takeAnswer_83 : decode cX7_takeAnswer 83 = .ok (.aload_n 1, 1) := by decide +kernel
theorem dX7_takeAnswer_84 : decode cX7_takeAnswer 84 = .ok (.getfield 178, 3) := by decide +kernel
theorem dX7_takeAnswer_87 : decode cX7_takeAnswer 87 = .ok (.iload_n 3, 1) := by decide +kernel
theorem dX7_takeAnswer_88 : decode cX7_takeAnswer 88 = .ok (.aload_n 1, 1) := by decide +kernel
theorem dX7_takeAnswer_89 : decode cX7_takeAnswer 89 = .ok (.getfield 178, 3) := by decide +kernel
theorem dX7_takeAnswer_92 : decode cX7_takeAnswer 92 = .ok (.iload_n 3, 1) := by decide +kernel
theorem dX7_takeAnswer_93 : decode cX7_takeAnswer 93 = .ok (.iaload, 1) := by decide +kernel
theorem dX7_takeAnswer_94 : decode cX7_takeAnswer 94 = .ok (.aload_n 2, 1) := by decide +kernel
theorem dX7_takeAnswer_95 : decode cX7_takeAnswer 95 = .ok (.getfield 134, 3) := by decide +kernel
theorem dX7_takeAnswer_98 : decode cX7_takeAnswer 98 = .ok (.invokestatic 239, 3) := by decide +kernel
theorem dX7_takeAnswer_101 : decode cX7_takeAnswer 101 = .ok (.iastore, 1) := by decide +kernel
theorem dX7_takeAnswer_102 : decode cX7_takeAnswer 102 = .ok (.aload_n 1, 1) := by decide +kernel
theorem dX7_takeAnswer_103 : decode cX7_takeAnswer 103 = .ok (.getfield 181, 3) := by decide +kernel
theorem dX7_takeAnswer_106 : decode cX7_takeAnswer 106 = .ok (.iload_n 3, 1) := by decide +kernel
theorem dX7_takeAnswer_107 : decode cX7_takeAnswer 107 = .ok (.aload_n 1, 1) := by decide +kernel
theorem dX7_takeAnswer_108 : decode cX7_takeAnswer 108 = .ok (.getfield 178, 3) := by decide +kernel
theorem dX7_takeAnswer_111 : decode cX7_takeAnswer 111 = .ok (.iload_n 3, 1) := by decide +kernel
theorem dX7_takeAnswer_112 : decode cX7_takeAnswer 112 = .ok (.iaload, 1) := by decide +kernel
theorem dX7_takeAnswer_113 : decode cX7_takeAnswer 113 = .ok (.iconst 1, 1) := by decide +kernel
theorem dX7_takeAnswer_114 : decode cX7_takeAnswer 114 = .ok (.iadd, 1) := by decide +kernel
theorem dX7_takeAnswer_115 : decode cX7_takeAnswer 115 = .ok (.iastore, 1) := by decide +kernel
theorem dX7_takeAnswer_116 : decode cX7_takeAnswer 116 = .ok (.goto 30, 3) := by decide +kernel
theorem dX7_takeAnswer_119 : decode cX7_takeAnswer 119 = .ok (.aload_n 1, 1) := by decide +kernel
theorem dX7_takeAnswer_120 : decode cX7_takeAnswer 120 = .ok (.getfield 181, 3) := by decide +kernel
theorem dX7_takeAnswer_123 : decode cX7_takeAnswer 123 = .ok (.iload_n 3, 1) := by decide +kernel
theorem dX7_takeAnswer_124 : decode cX7_takeAnswer 124 = .ok (.iconst 1, 1) := by decide +kernel
theorem dX7_takeAnswer_125 : decode cX7_takeAnswer 125 = .ok (.aload_n 1, 1) := by decide +kernel
theorem dX7_takeAnswer_126 : decode cX7_takeAnswer 126 = .ok (.getfield 181, 3) := by decide +kernel
theorem dX7_takeAnswer_129 : decode cX7_takeAnswer 129 = .ok (.iload_n 3, 1) := by decide +kernel
theorem dX7_takeAnswer_130 : decode cX7_takeAnswer 130 = .ok (.iaload, 1) := by decide +kernel
theorem dX7_takeAnswer_131 : decode cX7_takeAnswer 131 = .ok (.iconst 1, 1) := by decide +kernel
theorem dX7_takeAnswer_132 : decode cX7_takeAnswer 132 = .ok (.isub, 1) := by decide +kernel
theorem dX7_takeAnswer_133 : decode cX7_takeAnswer 133 = .ok (.aload_n 2, 1) := by decide +kernel
theorem dX7_takeAnswer_134 : decode cX7_takeAnswer 134 = .ok (.getfield 134, 3) := by decide +kernel
theorem dX7_takeAnswer_137 : decode cX7_takeAnswer 137 = .ok (.iconst 1, 1) := by decide +kernel
theorem dX7_takeAnswer_138 : decode cX7_takeAnswer 138 = .ok (.iadd, 1) := by decide +kernel
theorem dX7_takeAnswer_139 : decode cX7_takeAnswer 139 = .ok (.invokestatic 38, 3) := by decide +kernel
theorem dX7_takeAnswer_142 : decode cX7_takeAnswer 142 = .ok (.invokestatic 239, 3) := by decide +kernel
theorem dX7_takeAnswer_145 : decode cX7_takeAnswer 145 = .ok (.iastore, 1) := by decide +kernel
theorem dX7_takeAnswer_146 : decode cX7_takeAnswer 146 = .ok (.aload_n 0, 1) := by decide +kernel
theorem dX7_takeAnswer_147 : decode cX7_takeAnswer 147 = .ok (.aload_n 2, 1) := by decide +kernel
theorem dX7_takeAnswer_148 : decode cX7_takeAnswer 148 = .ok (.getfield 205, 3) := by decide +kernel
theorem dX7_takeAnswer_151 : decode cX7_takeAnswer 151 = .ok (.invokevirtual 166, 3) := by decide +kernel
theorem dX7_takeAnswer_154 : decode cX7_takeAnswer 154 = .ok (.iconst 0, 1) := by decide +kernel
theorem dX7_takeAnswer_155 : decode cX7_takeAnswer 155 = .ok (.ireturn, 1) := by decide +kernel
theorem dX7_takeFromLeader_0 : decode cX7_takeFromLeader 0 = .ok (.aload_n 2, 1) := by decide +kernel
theorem dX7_takeFromLeader_1 : decode cX7_takeFromLeader 1 = .ok (.getfield 211, 3) := by decide +kernel
theorem dX7_takeFromLeader_4 : decode cX7_takeFromLeader 4 = .ok (.aload_n 1, 1) := by decide +kernel
theorem dX7_takeFromLeader_5 : decode cX7_takeFromLeader 5 = .ok (.getfield 98, 3) := by decide +kernel
theorem dX7_takeFromLeader_8 : decode cX7_takeFromLeader 8 = .ok (.if_icmp .ge 12, 3) := by decide +kernel
theorem dX7_takeFromLeader_11 : decode cX7_takeFromLeader 11 = .ok (.aload_n 0, 1) := by decide +kernel
theorem dX7_takeFromLeader_12 : decode cX7_takeFromLeader 12 = .ok (.aload_n 2, 1) := by decide +kernel
theorem dX7_takeFromLeader_13 : decode cX7_takeFromLeader 13 = .ok (.iconst 3, 1) := by decide +kernel
theorem dX7_takeFromLeader_14 : decode cX7_takeFromLeader 14 = .ok (.iconst 0, 1) := by decide +kernel
theorem dX7_takeFromLeader_15 : decode cX7_takeFromLeader 15 = .ok (.iconst 0, 1) := by decide +kernel
theorem dX7_takeFromLeader_16 : decode cX7_takeFromLeader 16 = .ok (.invokevirtual 232, 3) := by decide +kernel
theorem dX7_takeFromLeader_19 : decode cX7_takeFromLeader 19 = .ok (.ireturn, 1) := by decide +kernel
theorem dX7_takeFromLeader_20 : decode cX7_takeFromLeader 20 = .ok (.aload_n 1, 1) := by decide +kernel
theorem dX7_takeFromLeader_21 : decode cX7_takeFromLeader 21 = .ok (.getfield 89, 3) := by decide +kernel
theorem dX7_takeFromLeader_24 : decode cX7_takeFromLeader 24 = .ok (.iconst 2, 1) := by decide +kernel
theorem dX7_takeFromLeader_25 : decode cX7_takeFromLeader 25 = .ok (.if_icmp .ne 5, 3) := by decide +kernel
theorem dX7_takeFromLeader_28 : decode cX7_takeFromLeader 28 = .ok (.iconst 0, 1) := by decide +kernel
theorem dX7_takeFromLeader_29 : decode cX7_takeFromLeader 29 = .ok (.ireturn, 1) := by decide +kernel
theorem dX7_takeFromLeader_30 : decode cX7_takeFromLeader 30 = .ok (.aload_n 1, 1) := by decide +kernel
theorem dX7_takeFromLeader_31 : decode cX7_takeFromLeader 31 = .ok (.invokevirtual 245, 3) := by decide +kernel
theorem dX7_takeFromLeader_34 : decode cX7_takeFromLeader 34 = .ok (.aload_n 2, 1) := by decide +kernel
theorem dX7_takeFromLeader_35 : decode cX7_takeFromLeader 35 = .ok (.getfield 191, 3) := by decide +kernel
theorem dX7_takeFromLeader_38 : decode cX7_takeFromLeader 38 = .ok (.iconst 4, 1) := by decide +kernel
theorem dX7_takeFromLeader_39 : decode cX7_takeFromLeader 39 = .ok (.if_icmp .ne 10, 3) := by decide +kernel
theorem dX7_takeFromLeader_42 : decode cX7_takeFromLeader 42 = .ok (.aload_n 0, 1) := by decide +kernel
theorem dX7_takeFromLeader_43 : decode cX7_takeFromLeader 43 = .ok (.aload_n 1, 1) := by decide +kernel
theorem dX7_takeFromLeader_44 : decode cX7_takeFromLeader 44 = .ok (.aload_n 2, 1) := by decide +kernel
theorem dX7_takeFromLeader_45 : decode cX7_takeFromLeader 45 = .ok (.invokevirtual 248, 3) := by decide +kernel
theorem dX7_takeFromLeader_48 : decode cX7_takeFromLeader 48 = .ok (.ireturn, 1) := by decide +kernel
theorem dX7_takeFromLeader_49 : decode cX7_takeFromLeader 49 = .ok (.aload_n 0, 1) := by decide +kernel
theorem dX7_takeFromLeader_50 : decode cX7_takeFromLeader 50 = .ok (.aload_n 1, 1) := by decide +kernel
theorem dX7_takeFromLeader_51 : decode cX7_takeFromLeader 51 = .ok (.aload_n 2, 1) := by decide +kernel
theorem dX7_takeFromLeader_52 : decode cX7_takeFromLeader 52 = .ok (.invokevirtual 251, 3) := by decide +kernel
theorem dX7_takeFromLeader_55 : decode cX7_takeFromLeader 55 = .ok (.ireturn, 1) := by decide +kernel
theorem dX7_takeFolding_0 : decode cX7_takeFolding 0 = .ok (.aload_n 2, 1) := by decide +kernel
theorem dX7_takeFolding_1 : decode cX7_takeFolding 1 = .ok (.getfield 125, 3) := by decide +kernel
theorem dX7_takeFolding_4 : decode cX7_takeFolding 4 = .ok (.aload_n 1, 1) := by decide +kernel
theorem dX7_takeFolding_5 : decode cX7_takeFolding 5 = .ok (.getfield 169, 3) := by decide +kernel
theorem dX7_takeFolding_8 : decode cX7_takeFolding 8 = .ok (.if_icmp .le 19, 3) := by decide +kernel
theorem dX7_takeFolding_11 : decode cX7_takeFolding 11 = .ok (.aload_n 1, 1) := by decide +kernel
theorem dX7_takeFolding_12 : decode cX7_takeFolding 12 = .ok (.aload_n 2, 1) := by decide +kernel
theorem dX7_takeFolding_13 : decode cX7_takeFolding 13 = .ok (.getfield 125, 3) := by decide +kernel
theorem dX7_takeFolding_16 : decode cX7_takeFolding 16 = .ok (.aload_n 2, 1) := by decide +kernel
theorem dX7_takeFolding_17 : decode cX7_takeFolding 17 = .ok (.getfield 134, 3) := by decide +kernel
theorem dX7_takeFolding_20 : decode cX7_takeFolding 20 = .ok (.aload_n 2, 1) := by decide +kernel
theorem dX7_takeFolding_21 : decode cX7_takeFolding 21 = .ok (.getfield 254, 3) := by decide +kernel
theorem dX7_takeFolding_24 : decode cX7_takeFolding 24 = .ok (.invokevirtual 258, 3) := by decide +kernel
theorem dX7_takeFolding_27 : decode cX7_takeFolding 27 = .ok (.aload_n 0, 1) := by decide +kernel
theorem dX7_takeFolding_28 : decode cX7_takeFolding 28 = .ok (.aload_n 2, 1) := by decide +kernel
theorem dX7_takeFolding_29 : decode cX7_takeFolding 29 = .ok (.iconst 3, 1) := by decide +kernel
theorem dX7_takeFolding_30 : decode cX7_takeFolding 30 = .ok (.iconst 1, 1) := by decide +kernel
theorem dX7_takeFolding_31 : decode cX7_takeFolding 31 = .ok (.aload_n 2, 1) := by decide +kernel
theorem dX7_takeFolding_32 : decode cX7_takeFolding 32 = .ok (.getfield 125, 3) := by decide +kernel
theorem dX7_takeFolding_35 : decode cX7_takeFolding 35 = .ok (.invokevirtual 232, 3) := by decide +kernel
theorem dX7_takeFolding_38 : decode cX7_takeFolding 38 = .ok (.ireturn, 1) := by decide +kernel
theorem dX7_takeAppend_0 : decode cX7_takeAppend 0 = .ok (.aload_n 2, 1) := by decide +kernel
theorem dX7_takeAppend_1 : decode cX7_takeAppend 1 = .ok (.getfield 125, 3) := by decide +kernel
theorem dX7_takeAppend_4 : decode cX7_takeAppend 4 = .ok (.istore_n 3, 1) := by decide +kernel
theorem dX7_takeAppend_5 : decode cX7_takeAppend 5 = .ok (.iload_n 3, 1) := by decide +kernel
theorem dX7_takeAppend_6 : decode cX7_takeAppend 6 = .ok (.aload_n 1, 1) := by decide +kernel
theorem dX7_takeAppend_7 : decode cX7_takeAppend 7 = .ok (.getfield 122, 3) := by decide +kernel
theorem dX7_takeAppend_10 : decode cX7_takeAppend 10 = .ok (.if_icmp .gt 23, 3) := by decide +kernel
theorem dX7_takeAppend_13 : decode cX7_takeAppend 13 = .ok (.iload_n 3, 1) := by decide +kernel
theorem dX7_takeAppend_14 : decode cX7_takeAppend 14 = .ok (.aload_n 1, 1) := by decide +kernel
theorem dX7_takeAppend_15 : decode cX7_takeAppend 15 = .ok (.getfield 184, 3) := by decide +kernel
theorem dX7_takeAppend_18 : decode cX7_takeAppend 18 = .ok (.if_icmp .le 42, 3) := by decide +kernel
theorem dX7_takeAppend_21 : decode cX7_takeAppend 21 = .ok (.aload_n 1, 1) := by decide +kernel
theorem dX7_takeAppend_22 : decode cX7_takeAppend 22 = .ok (.iload_n 3, 1) := by decide +kernel
theorem dX7_takeAppend_23 : decode cX7_takeAppend 23 = .ok (.invokevirtual 130, 3) := by decide +kernel
theorem dX7_takeAppend_26 : decode cX7_takeAppend 26 = .ok (.aload_n 2, 1) := by decide +kernel
theorem dX7_takeAppend_27 : decode cX7_takeAppend 27 = .ok (.getfield 134, 3) := by decide +kernel
theorem dX7_takeAppend_30 : decode cX7_takeAppend 30 = .ok (.if_icmp .eq 30, 3) := by decide +kernel
theorem dX7_takeAppend_33 : decode cX7_takeAppend 33 = .ok (.aload_n 1, 1) := by decide +kernel
theorem dX7_takeAppend_34 : decode cX7_takeAppend 34 = .ok (.iload_n 3, 1) := by decide +kernel
theorem dX7_takeAppend_35 : decode cX7_takeAppend 35 = .ok (.invokevirtual 261, 3) := by decide +kernel
theorem dX7_takeAppend_38 : decode cX7_takeAppend 38 = .ok (.aload_n 0, 1) := by decide +kernel
theorem dX7_takeAppend_39 : decode cX7_takeAppend 39 = .ok (.aload_n 2, 1) := by decide +kernel
theorem dX7_takeAppend_40 : decode cX7_takeAppend 40 = .ok (.iconst 3, 1) := by decide +kernel
theorem dX7_takeAppend_41 : decode cX7_takeAppend 41 = .ok (.iconst 0, 1) := by decide +kernel
theorem dX7_takeAppend_42 : decode cX7_takeAppend 42 = .ok (.iconst 0, 1) := by decide +kernel
theorem dX7_takeAppend_43 : decode cX7_takeAppend 43 = .ok (.aload_n 1, 1) := by decide +kernel
theorem dX7_takeAppend_44 : decode cX7_takeAppend 44 = .ok (.getfield 122, 3) := by decide +kernel
theorem dX7_takeAppend_47 : decode cX7_takeAppend 47 = .ok (.iload_n 3, 1) := by decide +kernel
theorem dX7_takeAppend_48 : decode cX7_takeAppend 48 = .ok (.iconst 1, 1) := by decide +kernel
theorem dX7_takeAppend_49 : decode cX7_takeAppend 49 = .ok (.isub, 1) := by decide +kernel
theorem dX7_takeAppend_50 : decode cX7_takeAppend 50 = .ok (.invokestatic 38, 3) := by decide +kernel
theorem dX7_takeAppend_53 : decode cX7_takeAppend 53 = .ok (.invokestatic 239, 3) := by decide +kernel
theorem dX7_takeAppend_56 : decode cX7_takeAppend 56 = .ok (.invokevirtual 232, 3) := by decide +kernel
theorem dX7_takeAppend_59 : decode cX7_takeAppend 59 = .ok (.ireturn, 1) := by decide +kernel
theorem dX7_takeAppend_60 : decode cX7_takeAppend 60 = .ok (.aload_n 0, 1) := by decide +kernel
theorem dX7_takeAppend_61 : decode cX7_takeAppend 61 = .ok (.aload_n 1, 1) := by decide +kernel
theorem dX7_takeAppend_62 : decode cX7_takeAppend 62 = .ok (.aload_n 2, 1) := by decide +kernel
theorem dX7_takeAppend_63 : decode cX7_takeAppend 63 = .ok (.invokevirtual 264, 3) := by decide +kernel
theorem dX7_takeAppend_66 : decode cX7_takeAppend 66 = .ok (.istore 4, 2) := by decide +kernel
theorem dX7_takeAppend_68 : decode cX7_takeAppend 68 = .ok (.aload_n 1, 1) := by decide +kernel
theorem dX7_takeAppend_69 : decode cX7_takeAppend 69 = .ok (.aload_n 2, 1) := by decide +kernel
theorem dX7_takeAppend_70 : decode cX7_takeAppend 70 = .ok (.getfield 266, 3) := by decide +kernel
theorem dX7_takeAppend_73 : decode cX7_takeAppend 73 = .ok (.iload 4, 2) := by decide +kernel
theorem dX7_takeAppend_75 : decode cX7_takeAppend 75 = .ok (.invokestatic 38, 3) := by decide +kernel
theorem dX7_takeAppend_78 : decode cX7_takeAppend 78 = .ok (.invokevirtual 175, 3) := by decide +kernel
theorem dX7_takeAppend_81 : decode cX7_takeAppend 81 = .ok (.aload_n 0, 1) := by decide +kernel
theorem dX7_takeAppend_82 : decode cX7_takeAppend 82 = .ok (.aload_n 2, 1) := by decide +kernel
theorem dX7_takeAppend_83 : decode cX7_takeAppend 83 = .ok (.iconst 3, 1) := by decide +kernel
theorem dX7_takeAppend_84 : decode cX7_takeAppend 84 = .ok (.iconst 1, 1) := by decide +kernel
theorem dX7_takeAppend_85 : decode cX7_takeAppend 85 = .ok (.iload 4, 2) := by decide +kernel
theorem dX7_takeAppend_87 : decode cX7_takeAppend 87 = .ok (.invokevirtual 232, 3) := by decide +kernel
theorem dX7_takeAppend_90 : decode cX7_takeAppend 90 = .ok (.ireturn, 1) := by decide +kernel
theorem dX7_takeEntries_0 : decode cX7_takeEntries 0 = .ok (.aload_n 2, 1) := by decide +kernel
theorem dX7_takeEntries_1 : decode cX7_takeEntries 1 = .ok (.getfield 125, 3) := by decide +kernel
theorem dX7_takeEntries_4 : decode cX7_takeEntries 4 = .ok (.istore_n 3, 1) := by decide +kernel
theorem dX7_takeEntries_5 : decode cX7_takeEntries 5 = .ok (.iconst 0, 1) := by decide +kernel
theorem dX7_takeEntries_6 : decode cX7_takeEntries 6 = .ok (.istore 4, 2) := by decide +kernel
theorem dX7_takeEntries_8 : decode cX7_takeEntries 8 = .ok (.iload 4, 2) := by decide +kernel
theorem dX7_takeEntries_10 : decode cX7_takeEntries 10 = .ok (.aload_n 2, 1) := by decide +kernel
theorem dX7_takeEntries_11 : decode cX7_takeEntries 11 = .ok (.getfield 267, 3) := by decide +kernel
theorem dX7_takeEntries_14 : decode cX7_takeEntries 14 = .ok (.if_icmp .ge 87, 3) := by decide +kernel
theorem dX7_takeEntries_17 : decode cX7_takeEntries 17 = .ok (.iload 4, 2) := by decide +kernel
theorem dX7_takeEntries_19 : decode cX7_takeEntries 19 = .ok (.iconst 5, 1) := by decide +kernel
theorem dX7_takeEntries_20 : decode cX7_takeEntries 20 = .ok (.if_icmp .ge 81, 3) := by decide +kernel
theorem dX7_takeEntries_23 : decode cX7_takeEntries 23 = .ok (.iload_n 3, 1) := by decide +kernel
theorem dX7_takeEntries_24 : decode cX7_takeEntries 24 = .ok (.iconst 1, 1) := by decide +kernel
theorem dX7_takeEntries_25 : decode cX7_takeEntries 25 = .ok (.iadd, 1) := by decide +kernel
theorem dX7_takeEntries_26 : decode cX7_takeEntries 26 = .ok (.istore 5, 2) := by decide +kernel
theorem dX7_takeEntries_28 : decode cX7_takeEntries 28 = .ok (.iload 5, 2) := by decide +kernel
theorem dX7_takeEntries_30 : decode cX7_takeEntries 30 = .ok (.aload_n 1, 1) := by decide +kernel
theorem dX7_takeEntries_31 : decode cX7_takeEntries 31 = .ok (.getfield 184, 3) := by decide +kernel
theorem dX7_takeEntries_34 : decode cX7_takeEntries 34 = .ok (.if_icmp .le 58, 3) := by decide +kernel
theorem dX7_takeEntries_37 : decode cX7_takeEntries 37 = .ok (.aload_n 1, 1) := by decide +kernel
theorem dX7_takeEntries_38 : decode cX7_takeEntries 38 = .ok (.iload 5, 2) := by decide +kernel
theorem dX7_takeEntries_40 : decode cX7_takeEntries 40 = .ok (.invokevirtual 130, 3) := by decide +kernel
theorem dX7_takeEntries_43 : decode cX7_takeEntries 43 = .ok (.aload_n 2, 1) := by decide +kernel
theorem dX7_takeEntries_44 : decode cX7_takeEntries 44 = .ok (.iload 4, 2) := by decide +kernel
theorem dX7_takeEntries_46 : decode cX7_takeEntries 46 = .ok (.invokevirtual 268, 3) := by decide +kernel
theorem dX7_takeEntries_49 : decode cX7_takeEntries 49 = .ok (.if_icmp .eq 43, 3) := by decide +kernel
theorem dX7_takeEntries_52 : decode cX7_takeEntries 52 = .ok (.aload_n 1, 1) := by decide +kernel
theorem dX7_takeEntries_53 : decode cX7_takeEntries 53 = .ok (.iload 5, 2) := by decide +kernel
theorem dX7_takeEntries_55 : decode cX7_takeEntries 55 = .ok (.invokevirtual 261, 3) := by decide +kernel
theorem dX7_takeEntries_58 : decode cX7_takeEntries 58 = .ok (.aload_n 1, 1) := by decide +kernel
theorem dX7_takeEntries_59 : decode cX7_takeEntries 59 = .ok (.invokevirtual 159, 3) := by decide +kernel
theorem dX7_takeEntries_62 : decode cX7_takeEntries 62 = .ok (.istore 6, 2) := by decide +kernel
theorem dX7_takeEntries_64 : decode cX7_takeEntries 64 = .ok (.iload 6, 2) := by decide +kernel
theorem dX7_takeEntries_66 : decode cX7_takeEntries 66 = .ok (.iconst (-1), 1) := by decide +kernel
theorem dX7_takeEntries_67 : decode cX7_takeEntries 67 = .ok (.if_icmp .ne 5, 3) := by decide +kernel
theorem dX7_takeEntries_70 : decode cX7_takeEntries 70 = .ok (.iload_n 3, 1) := by decide +kernel
theorem dX7_takeEntries_71 : decode cX7_takeEntries 71 = .ok (.ireturn, 1) := by decide +kernel
theorem dX7_takeEntries_72 : decode cX7_takeEntries 72 = .ok (.aload_n 2, 1) := by decide +kernel
theorem dX7_takeEntries_73 : decode cX7_takeEntries 73 = .ok (.getfield 271, 3) := by decide +kernel
theorem dX7_takeEntries_76 : decode cX7_takeEntries 76 = .ok (.iload 4, 2) := by decide +kernel
theorem dX7_takeEntries_78 : decode cX7_takeEntries 78 = .ok (.bipush 6, 2) := by decide +kernel
theorem dX7_takeEntries_80 : decode cX7_takeEntries 80 = .ok (.imul, 1) := by decide +kernel
theorem dX7_takeEntries_81 : decode cX7_takeEntries 81 = .ok (.aload_n 1, 1) := by decide +kernel
theorem dX7_takeEntries_82 : decode cX7_takeEntries 82 = .ok (.getfield 162, 3) := by decide +kernel
theorem dX7_takeEntries_85 : decode cX7_takeEntries 85 = .ok (.iload 6, 2) := by decide +kernel
theorem dX7_takeEntries_87 : decode cX7_takeEntries 87 = .ok (.bipush 6, 2) := by decide +kernel
theorem dX7_takeEntries_89 : decode cX7_takeEntries 89 = .ok (.invokestatic 272, 3) := by decide +kernel
theorem dX7_takeEntries_92 : decode cX7_takeEntries 92 = .ok (.iload 5, 2) := by decide +kernel
theorem dX7_takeEntries_94 : decode cX7_takeEntries 94 = .ok (.istore_n 3, 1) := by decide +kernel
theorem dX7_takeEntries_95 : decode cX7_takeEntries 95 = .ok (.iinc 4 1, 3) := by decide +kernel
theorem dX7_takeEntries_98 : decode cX7_takeEntries 98 = .ok (.goto (-90), 3) := by decide +kernel
theorem dX7_takeEntries_101 : decode cX7_takeEntries 101 = .ok (.iload_n 3, 1) := by decide +kernel
theorem dX7_takeEntries_102 : decode cX7_takeEntries 102 = .ok (.ireturn, 1) := by decide +kernel
theorem dX7_beginRead_0 : decode cX7_beginRead 0 = .ok (.aload_n 0, 1) := by decide +kernel
theorem dX7_beginRead_1 : decode cX7_beginRead 1 = .ok (.getfield 11, 3) := by decide +kernel
theorem dX7_beginRead_4 : decode cX7_beginRead 4 = .ok (.iload_n 1, 1) := by decide +kernel
theorem dX7_beginRead_5 : decode cX7_beginRead 5 = .ok (.aaload, 1) := by decide +kernel
theorem dX7_beginRead_6 : decode cX7_beginRead 6 = .ok (.astore_n 3, 1) := by decide +kernel
theorem dX7_beginRead_7 : decode cX7_beginRead 7 = .ok (.aload_n 3, 1) := by decide +kernel
theorem dX7_beginRead_8 : decode cX7_beginRead 8 = .ok (.aload_n 3, 1) := by decide +kernel
theorem dX7_beginRead_9 : decode cX7_beginRead 9 = .ok (.getfield 169, 3) := by decide +kernel
theorem dX7_beginRead_12 : decode cX7_beginRead 12 = .ok (.invokevirtual 130, 3) := by decide +kernel
theorem dX7_beginRead_15 : decode cX7_beginRead 15 = .ok (.aload_n 3, 1) := by decide +kernel
theorem dX7_beginRead_16 : decode cX7_beginRead 16 = .ok (.getfield 98, 3) := by decide +kernel
theorem dX7_beginRead_19 : decode cX7_beginRead 19 = .ok (.if_icmp .eq 5, 3) := by decide +kernel
theorem dX7_beginRead_22 : decode cX7_beginRead 22 = .ok (.iconst (-1), 1) := by decide +kernel
theorem dX7_beginRead_23 : decode cX7_beginRead 23 = .ok (.ireturn, 1) := by decide +kernel
theorem dX7_beginRead_24 : decode cX7_beginRead 24 = .ok (.aload_n 0, 1) := by decide +kernel
theorem dX7_beginRead_25 : decode cX7_beginRead 25 = .ok (.getfield 28, 3) := by decide +kernel
theorem dX7_beginRead_28 : decode cX7_beginRead 28 = .ok (.iload_n 1, 1) := by decide +kernel
theorem dX7_beginRead_29 : decode cX7_beginRead 29 = .ok (.iload_n 2, 1) := by decide +kernel
theorem dX7_beginRead_30 : decode cX7_beginRead 30 = .ok (.aload_n 3, 1) := by decide +kernel
theorem dX7_beginRead_31 : decode cX7_beginRead 31 = .ok (.getfield 98, 3) := by decide +kernel
theorem dX7_beginRead_34 : decode cX7_beginRead 34 = .ok (.aload_n 3, 1) := by decide +kernel
theorem dX7_beginRead_35 : decode cX7_beginRead 35 = .ok (.getfield 187, 3) := by decide +kernel
theorem dX7_beginRead_38 : decode cX7_beginRead 38 = .ok (.invokevirtual 278, 3) := by decide +kernel
theorem dX7_beginRead_41 : decode cX7_beginRead 41 = .ok (.ireturn, 1) := by decide +kernel
theorem dX7_isGood_0 : decode cX7_isGood 0 = .ok (.aload_n 0, 1) := by decide +kernel
theorem dX7_isGood_1 : decode cX7_isGood 1 = .ok (.getfield 28, 3) := by decide +kernel
theorem dX7_isGood_4 : decode cX7_isGood 4 = .ok (.getfield 282, 3) := by decide +kernel
theorem dX7_isGood_7 : decode cX7_isGood 7 = .ok (.iload_n 1, 1) := by decide +kernel
theorem dX7_isGood_8 : decode cX7_isGood 8 = .ok (.iaload, 1) := by decide +kernel
theorem dX7_isGood_9 : decode cX7_isGood 9 = .ok (.istore_n 2, 1) := by decide +kernel
theorem dX7_isGood_10 : decode cX7_isGood 10 = .ok (.aload_n 0, 1) := by decide +kernel
theorem dX7_isGood_11 : decode cX7_isGood 11 = .ok (.iload_n 2, 1) := by decide +kernel
theorem dX7_isGood_12 : decode cX7_isGood 12 = .ok (.invokevirtual 285, 3) := by decide +kernel
theorem dX7_isGood_15 : decode cX7_isGood 15 = .ok (.ifCond .eq 24, 3) := by decide +kernel
theorem dX7_isGood_18 : decode cX7_isGood 18 = .ok (.aload_n 0, 1) := by decide +kernel
theorem dX7_isGood_19 : decode cX7_isGood 19 = .ok (.getfield 11, 3) := by decide +kernel
theorem dX7_isGood_22 : decode cX7_isGood 22 = .ok (.iload_n 2, 1) := by decide +kernel
theorem dX7_isGood_23 : decode cX7_isGood 23 = .ok (.aaload, 1) := by decide +kernel
theorem dX7_isGood_24 : decode cX7_isGood 24 = .ok (.getfield 98, 3) := by decide +kernel
theorem dX7_isGood_27 : decode cX7_isGood 27 = .ok (.aload_n 0, 1) := by decide +kernel
theorem dX7_isGood_28 : decode cX7_isGood 28 = .ok (.getfield 28, 3) := by decide +kernel
theorem dX7_isGood_31 : decode cX7_isGood 31 = .ok (.getfield 288, 3) := by decide +kernel
theorem dX7_isGood_34 : decode cX7_isGood 34 = .ok (.iload_n 1, 1) := by decide +kernel
theorem dX7_isGood_35 : decode cX7_isGood 35 = .ok (.iaload, 1) := by decide +kernel
theorem dX7_isGood_36 : decode cX7_isGood 36 = .ok (.if_icmp .eq 5, 3) := by decide +kernel
theorem dX7_isGood_39 : decode cX7_isGood 39 = .ok (.iconst 0, 1) := by decide +kernel
theorem dX7_isGood_40 : decode cX7_isGood 40 = .ok (.ireturn, 1) := by decide +kernel
theorem dX7_isGood_41 : decode cX7_isGood 41 = .ok (.iconst 0, 1) := by decide +kernel
theorem dX7_isGood_42 : decode cX7_isGood 42 = .ok (.istore_n 3, 1) := by decide +kernel
theorem dX7_isGood_43 : decode cX7_isGood 43 = .ok (.iconst 0, 1) := by decide +kernel
theorem dX7_isGood_44 : decode cX7_isGood 44 = .ok (.istore 4, 2) := by decide +kernel
theorem dX7_isGood_46 : decode cX7_isGood 46 = .ok (.iload 4, 2) := by decide +kernel
theorem dX7_isGood_48 : decode cX7_isGood 48 = .ok (.aload_n 0, 1) := by decide +kernel
theorem dX7_isGood_49 : decode cX7_isGood 49 = .ok (.getfield 44, 3) := by decide +kernel
theorem dX7_isGood_52 : decode cX7_isGood 52 = .ok (.if_icmp .ge 55, 3) := by decide +kernel
theorem dX7_isGood_55 : decode cX7_isGood 55 = .ok (.aload_n 0, 1) := by decide +kernel
theorem dX7_isGood_56 : decode cX7_isGood 56 = .ok (.getfield 11, 3) := by decide +kernel
theorem dX7_isGood_59 : decode cX7_isGood 59 = .ok (.iload 4, 2) := by decide +kernel
theorem dX7_isGood_61 : decode cX7_isGood 61 = .ok (.aaload, 1) := by decide +kernel
theorem dX7_isGood_62 : decode cX7_isGood 62 = .ok (.getfield 95, 3) := by decide +kernel
theorem dX7_isGood_65 : decode cX7_isGood 65 = .ok (.ifCond .eq 36, 3) := by decide +kernel
theorem dX7_isGood_68 : decode cX7_isGood 68 = .ok (.iload 4, 2) := by decide +kernel
theorem dX7_isGood_70 : decode cX7_isGood 70 = .ok (.iload_n 2, 1) := by decide +kernel
theorem dX7_isGood_71 : decode cX7_isGood 71 = .ok (.if_icmp .eq 27, 3) := by decide +kernel
theorem dX7_isGood_74 : decode cX7_isGood 74 = .ok (.aload_n 0, 1) := by decide +kernel
theorem dX7_isGood_75 : decode cX7_isGood 75 = .ok (.getfield 11, 3) := by decide +kernel
theorem dX7_isGood_78 : decode cX7_isGood 78 = .ok (.iload_n 2, 1) := by decide +kernel
theorem dX7_isGood_79 : decode cX7_isGood 79 = .ok (.aaload, 1) := by decide +kernel
theorem dX7_isGood_80 : decode cX7_isGood 80 = .ok (.getfield 242, 3) := by decide +kernel
theorem dX7_isGood_83 : decode cX7_isGood 83 = .ok (.iload 4, 2) := by decide +kernel
theorem dX7_isGood_85 : decode cX7_isGood 85 = .ok (.iaload, 1) := by decide +kernel
theorem dX7_isGood_86 : decode cX7_isGood 86 = .ok (.aload_n 0, 1) := by decide +kernel
theorem dX7_isGood_87 : decode cX7_isGood 87 = .ok (.getfield 28, 3) := by decide +kernel
theorem dX7_isGood_90 : decode cX7_isGood 90 = .ok (.getfield 290, 3) := by decide +kernel
theorem dX7_isGood_93 : decode cX7_isGood 93 = .ok (.iload_n 1, 1) := by decide +kernel
theorem dX7_isGood_94 : decode cX7_isGood 94 = .ok (.iaload, 1) := by decide +kernel
theorem dX7_isGood_95 : decode cX7_isGood 95 = .ok (.if_icmp .le 6, 3) := by decide +kernel
theorem dX7_isGood_98 : decode cX7_isGood 98 = .ok (.iinc 3 1, 3) := by decide +kernel
theorem dX7_isGood_101 : decode cX7_isGood 101 = .ok (.iinc 4 1, 3) := by decide +kernel
theorem dX7_isGood_104 : decode cX7_isGood 104 = .ok (.goto (-58), 3) := by decide +kernel
theorem dX7_isGood_107 : decode cX7_isGood 107 = .ok (.iload_n 3, 1) := by decide +kernel
theorem dX7_isGood_108 : decode cX7_isGood 108 = .ok (.aload_n 0, 1) := by decide +kernel
theorem dX7_isGood_109 : decode cX7_isGood 109 = .ok (.invokevirtual 142, 3) := by decide +kernel
theorem dX7_isGood_112 : decode cX7_isGood 112 = .ok (.if_icmp .lt 7, 3) := by decide +kernel
theorem dX7_isGood_115 : decode cX7_isGood 115 = .ok (.iconst 1, 1) := by decide +kernel
theorem dX7_isGood_116 : decode cX7_isGood 116 = .ok (.goto 4, 3) := by decide +kernel
theorem dX7_isGood_119 : decode cX7_isGood 119 = .ok (.iconst 0, 1) := by decide +kernel
theorem dX7_isGood_120 : decode cX7_isGood 120 = .ok (.ireturn, 1) := by decide +kernel
theorem dX7_readCell_0 : decode cX7_readCell 0 = .ok (.aload_n 0, 1) := by decide +kernel
theorem dX7_readCell_1 : decode cX7_readCell 1 = .ok (.getfield 28, 3) := by decide +kernel
theorem dX7_readCell_4 : decode cX7_readCell 4 = .ok (.getfield 282, 3) := by decide +kernel
theorem dX7_readCell_7 : decode cX7_readCell 7 = .ok (.iload_n 1, 1) := by decide +kernel
theorem dX7_readCell_8 : decode cX7_readCell 8 = .ok (.iaload, 1) := by decide +kernel
theorem dX7_readCell_9 : decode cX7_readCell 9 = .ok (.istore_n 2, 1) := by decide +kernel
theorem dX7_readCell_10 : decode cX7_readCell 10 = .ok (.aload_n 0, 1) := by decide +kernel
theorem dX7_readCell_11 : decode cX7_readCell 11 = .ok (.iload_n 2, 1) := by decide +kernel
theorem dX7_readCell_12 : decode cX7_readCell 12 = .ok (.invokevirtual 78, 3) := by decide +kernel
theorem dX7_readCell_15 : decode cX7_readCell 15 = .ok (.ifCond .eq 27, 3) := by decide +kernel
theorem dX7_readCell_18 : decode cX7_readCell 18 = .ok (.aload_n 0, 1) := by decide +kernel
theorem dX7_readCell_19 : decode cX7_readCell 19 = .ok (.getfield 11, 3) := by decide +kernel
theorem dX7_readCell_22 : decode cX7_readCell 22 = .ok (.iload_n 2, 1) := by decide +kernel
theorem dX7_readCell_23 : decode cX7_readCell 23 = .ok (.aaload, 1) := by decide +kernel
theorem dX7_readCell_24 : decode cX7_readCell 24 = .ok (.getfield 292, 3) := by decide +kernel
theorem dX7_readCell_27 : decode cX7_readCell 27 = .ok (.aload_n 0, 1) := by decide +kernel
theorem dX7_readCell_28 : decode cX7_readCell 28 = .ok (.getfield 28, 3) := by decide +kernel
theorem dX7_readCell_31 : decode cX7_readCell 31 = .ok (.getfield 295, 3) := by decide +kernel
theorem dX7_readCell_34 : decode cX7_readCell 34 = .ok (.iload_n 1, 1) := by decide +kernel
theorem dX7_readCell_35 : decode cX7_readCell 35 = .ok (.iaload, 1) := by decide +kernel
theorem dX7_readCell_36 : decode cX7_readCell 36 = .ok (.invokevirtual 298, 3) := by decide +kernel
theorem dX7_readCell_39 : decode cX7_readCell 39 = .ok (.goto 6, 3) := by decide +kernel
theorem dX7_readCell_42 : decode cX7_readCell 42 = .ok (.ldc_w 303, 3) := by decide +kernel
theorem dX7_readCell_45 : decode cX7_readCell 45 = .ok (.ireturn, 1) := by decide +kernel

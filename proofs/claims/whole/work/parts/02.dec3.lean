theorem dX7_firstWrong_0 : decode cX7_firstWrong 0 = .ok (.aload_n 0, 1) := by decide +kernel
theorem dX7_firstWrong_1 : decode cX7_firstWrong 1 = .ok (.getfield 86, 3) := by decide +kernel
theorem dX7_firstWrong_4 : decode cX7_firstWrong 4 = .ok (.istore_n 1, 1) := by decide +kernel
theorem dX7_firstWrong_5 : decode cX7_firstWrong 5 = .ok (.aload_n 0, 1) := by decide +kernel
theorem dX7_firstWrong_6 : decode cX7_firstWrong 6 = .ok (.getfield 39, 3) := by decide +kernel
theorem dX7_firstWrong_9 : decode cX7_firstWrong 9 = .ok (.iload_n 1, 1) := by decide +kernel
theorem dX7_firstWrong_10 : decode cX7_firstWrong 10 = .ok (.invokevirtual 175, 3) := by decide +kernel
theorem dX7_firstWrong_13 : decode cX7_firstWrong 13 = .ok (.iconst (-1), 1) := by decide +kernel
theorem dX7_firstWrong_14 : decode cX7_firstWrong 14 = .ok (.if_icmp .ne 5, 3) := by decide +kernel
theorem dX7_firstWrong_17 : decode cX7_firstWrong 17 = .ok (.iconst (-1), 1) := by decide +kernel
theorem dX7_firstWrong_18 : decode cX7_firstWrong 18 = .ok (.ireturn, 1) := by decide +kernel
theorem dX7_firstWrong_19 : decode cX7_firstWrong 19 = .ok (.iconst 0, 1) := by decide +kernel
theorem dX7_firstWrong_20 : decode cX7_firstWrong 20 = .ok (.istore_n 2, 1) := by decide +kernel
theorem dX7_firstWrong_21 : decode cX7_firstWrong 21 = .ok (.iload_n 2, 1) := by decide +kernel
theorem dX7_firstWrong_22 : decode cX7_firstWrong 22 = .ok (.aload_n 0, 1) := by decide +kernel
theorem dX7_firstWrong_23 : decode cX7_firstWrong 23 = .ok (.getfield 29, 3) := by decide +kernel
theorem dX7_firstWrong_26 : decode cX7_firstWrong 26 = .ok (.getfield 165, 3) := by decide +kernel
theorem dX7_firstWrong_29 : decode cX7_firstWrong 29 = .ok (.if_icmp .ge 45, 3) := by decide +kernel
theorem dX7_firstWrong_32 : decode cX7_firstWrong 32 = .ok (.iload_n 2, 1) := by decide +kernel
theorem dX7_firstWrong_33 : decode cX7_firstWrong 33 = .ok (.bipush 60, 2) := by decide +kernel
theorem dX7_firstWrong_35 : decode cX7_firstWrong 35 = .ok (.if_icmp .ge 39, 3) := by decide +kernel
theorem dX7_firstWrong_38 : decode cX7_firstWrong 38 = .ok (.iload_n 1, 1) := by decide +kernel
theorem dX7_firstWrong_39 : decode cX7_firstWrong 39 = .ok (.aload_n 0, 1) := by decide +kernel
theorem dX7_firstWrong_40 : decode cX7_firstWrong 40 = .ok (.getfield 29, 3) := by decide +kernel
theorem dX7_firstWrong_43 : decode cX7_firstWrong 43 = .ok (.getfield 295, 3) := by decide +kernel
theorem dX7_firstWrong_46 : decode cX7_firstWrong 46 = .ok (.iload_n 2, 1) := by decide +kernel
theorem dX7_firstWrong_47 : decode cX7_firstWrong 47 = .ok (.iaload, 1) := by decide +kernel
theorem dX7_firstWrong_48 : decode cX7_firstWrong 48 = .ok (.invokestatic 235, 3) := by decide +kernel
theorem dX7_firstWrong_51 : decode cX7_firstWrong 51 = .ok (.istore_n 1, 1) := by decide +kernel
theorem dX7_firstWrong_52 : decode cX7_firstWrong 52 = .ok (.aload_n 0, 1) := by decide +kernel
theorem dX7_firstWrong_53 : decode cX7_firstWrong 53 = .ok (.getfield 39, 3) := by decide +kernel
theorem dX7_firstWrong_56 : decode cX7_firstWrong 56 = .ok (.iload_n 1, 1) := by decide +kernel
theorem dX7_firstWrong_57 : decode cX7_firstWrong 57 = .ok (.invokevirtual 175, 3) := by decide +kernel
theorem dX7_firstWrong_60 : decode cX7_firstWrong 60 = .ok (.iconst (-1), 1) := by decide +kernel
theorem dX7_firstWrong_61 : decode cX7_firstWrong 61 = .ok (.if_icmp .ne 7, 3) := by decide +kernel
theorem dX7_firstWrong_64 : decode cX7_firstWrong 64 = .ok (.iload_n 2, 1) := by decide +kernel
theorem dX7_firstWrong_65 : decode cX7_firstWrong 65 = .ok (.iconst 1, 1) := by decide +kernel
theorem dX7_firstWrong_66 : decode cX7_firstWrong 66 = .ok (.iadd, 1) := by decide +kernel
theorem dX7_firstWrong_67 : decode cX7_firstWrong 67 = .ok (.ireturn, 1) := by decide +kernel
theorem dX7_firstWrong_68 : decode cX7_firstWrong 68 = .ok (.iinc 2 1, 3) := by decide +kernel
theorem dX7_firstWrong_71 : decode cX7_firstWrong 71 = .ok (.goto (-50), 3) := by decide +kernel
theorem dX7_firstWrong_74 : decode cX7_firstWrong 74 = .ok (.iconst (-1), 1) := by decide +kernel
theorem dX7_firstWrong_75 : decode cX7_firstWrong 75 = .ok (.ireturn, 1) := by decide +kernel
theorem dX7_toTurnRound_0 : decode cX7_toTurnRound 0 = .ok (.aload_n 0, 1) := by decide +kernel
theorem dX7_toTurnRound_1 : decode cX7_toTurnRound 1 = .ok (.getfield 43, 3) := by decide +kernel
theorem dX7_toTurnRound_4 : decode cX7_toTurnRound 4 = .ok (.aload_n 1, 1) := by decide +kernel
theorem dX7_toTurnRound_5 : decode cX7_toTurnRound 5 = .ok (.iload_n 2, 1) := by decide +kernel
theorem dX7_toTurnRound_6 : decode cX7_toTurnRound 6 = .ok (.iconst 1, 1) := by decide +kernel
theorem dX7_toTurnRound_7 : decode cX7_toTurnRound 7 = .ok (.iload_n 2, 1) := by decide +kernel
theorem dX7_toTurnRound_8 : decode cX7_toTurnRound 8 = .ok (.aload_n 1, 1) := by decide +kernel
theorem dX7_toTurnRound_9 : decode cX7_toTurnRound 9 = .ok (.getfield 89, 3) := by decide +kernel
theorem dX7_toTurnRound_12 : decode cX7_toTurnRound 12 = .ok (.invokestatic 92, 3) := by decide +kernel
theorem dX7_toTurnRound_15 : decode cX7_toTurnRound 15 = .ok (.invokevirtual 114, 3) := by decide +kernel
theorem dX7_toTurnRound_18 : decode cX7_toTurnRound 18 = .ok (.ireturn, 1) := by decide +kernel
theorem dX7_isLess_0 : decode cX7_isLess 0 = .ok (.iload_n 0, 1) := by decide +kernel
theorem dX7_isLess_1 : decode cX7_isLess 1 = .ok (.iconst (-1), 1) := by decide +kernel
theorem dX7_isLess_2 : decode cX7_isLess 2 = .ok (.if_icmp .eq 17, 3) := by decide +kernel
theorem dX7_isLess_5 : decode cX7_isLess 5 = .ok (.iload_n 1, 1) := by decide +kernel
theorem dX7_isLess_6 : decode cX7_isLess 6 = .ok (.iconst (-1), 1) := by decide +kernel
theorem dX7_isLess_7 : decode cX7_isLess 7 = .ok (.if_icmp .eq 8, 3) := by decide +kernel
theorem dX7_isLess_10 : decode cX7_isLess 10 = .ok (.iload_n 0, 1) := by decide +kernel
theorem dX7_isLess_11 : decode cX7_isLess 11 = .ok (.iload_n 1, 1) := by decide +kernel
theorem dX7_isLess_12 : decode cX7_isLess 12 = .ok (.if_icmp .ge 7, 3) := by decide +kernel
theorem dX7_isLess_15 : decode cX7_isLess 15 = .ok (.iconst 1, 1) := by decide +kernel
theorem dX7_isLess_16 : decode cX7_isLess 16 = .ok (.goto 4, 3) := by decide +kernel
theorem dX7_isLess_19 : decode cX7_isLess 19 = .ok (.iconst 0, 1) := by decide +kernel
theorem dX7_isLess_20 : decode cX7_isLess 20 = .ok (.ireturn, 1) := by decide +kernel
theorem dX7_seedAfter_0 : decode cX7_seedAfter 0 = .ok (.ldc2_w 298, 3) := by decide +kernel
theorem dX7_seedAfter_3 : decode cX7_seedAfter 3 = .ok (.iload_n 0, 1) := by decide +kernel
theorem dX7_seedAfter_4 : decode cX7_seedAfter 4 = .ok (.i2l, 1) := by decide +kernel
theorem dX7_seedAfter_5 : decode cX7_seedAfter 5 = .ok (.lmul, 1) := by decide +kernel
theorem dX7_seedAfter_6 : decode cX7_seedAfter 6 = .ok (.ldc2_w 300, 3) := by decide +kernel
theorem dX7_seedAfter_9 : decode cX7_seedAfter 9 = .ok (.ladd, 1) := by decide +kernel
theorem dX7_seedAfter_10 : decode cX7_seedAfter 10 = .ok (.ldc2_w 302, 3) := by decide +kernel
theorem dX7_seedAfter_13 : decode cX7_seedAfter 13 = .ok (.land, 1) := by decide +kernel
theorem dX7_seedAfter_14 : decode cX7_seedAfter 14 = .ok (.l2i, 1) := by decide +kernel
theorem dX7_seedAfter_15 : decode cX7_seedAfter 15 = .ok (.ireturn, 1) := by decide +kernel
theorem dX7_drawOf_0 : decode cX7_drawOf 0 = .ok (.iload_n 1, 1) := by decide +kernel
theorem dX7_drawOf_1 : decode cX7_drawOf 1 = .ok (.ifCond .gt 7, 3) := by decide +kernel
theorem dX7_drawOf_4 : decode cX7_drawOf 4 = .ok (.iconst 0, 1) := by decide +kernel
theorem dX7_drawOf_5 : decode cX7_drawOf 5 = .ok (.goto 10, 3) := by decide +kernel
theorem dX7_drawOf_8 : decode cX7_drawOf 8 = .ok (.iload_n 0, 1) := by decide +kernel
theorem dX7_drawOf_9 : decode cX7_drawOf 9 = .ok (.ldc_w 304, 3) := by decide +kernel
theorem dX7_drawOf_12 : decode cX7_drawOf 12 = .ok (.idiv, 1) := by decide +kernel
theorem dX7_drawOf_13 : decode cX7_drawOf 13 = .ok (.iload_n 1, 1) := by decide +kernel
theorem dX7_drawOf_14 : decode cX7_drawOf 14 = .ok (.irem, 1) := by decide +kernel
theorem dX7_drawOf_15 : decode cX7_drawOf 15 = .ok (.ireturn, 1) := by decide +kernel
theorem dX7_moveOfNumber_0 : decode cX7_moveOfNumber 0 = .ok (.lload_n 0, 1) := by decide +kernel
theorem dX7_moveOfNumber_1 : decode cX7_moveOfNumber 1 = .ok (.lstore_n 3, 1) := by decide +kernel
theorem dX7_moveOfNumber_2 : decode cX7_moveOfNumber 2 = .ok (.iconst 0, 1) := by decide +kernel
theorem dX7_moveOfNumber_3 : decode cX7_moveOfNumber 3 = .ok (.istore 5, 2) := by decide +kernel
theorem dX7_moveOfNumber_5 : decode cX7_moveOfNumber 5 = .ok (.iload 5, 2) := by decide +kernel
theorem dX7_moveOfNumber_7 : decode cX7_moveOfNumber 7 = .ok (.iload_n 2, 1) := by decide +kernel
theorem dX7_moveOfNumber_8 : decode cX7_moveOfNumber 8 = .ok (.if_icmp .ge 15, 3) := by decide +kernel
theorem dX7_moveOfNumber_11 : decode cX7_moveOfNumber 11 = .ok (.lload_n 3, 1) := by decide +kernel
theorem dX7_moveOfNumber_12 : decode cX7_moveOfNumber 12 = .ok (.lload_n 3, 1) := by decide +kernel
theorem dX7_moveOfNumber_13 : decode cX7_moveOfNumber 13 = .ok (.lconst 1, 1) := by decide +kernel
theorem dX7_moveOfNumber_14 : decode cX7_moveOfNumber 14 = .ok (.lsub, 1) := by decide +kernel
theorem dX7_moveOfNumber_15 : decode cX7_moveOfNumber 15 = .ok (.land, 1) := by decide +kernel
theorem dX7_moveOfNumber_16 : decode cX7_moveOfNumber 16 = .ok (.lstore_n 3, 1) := by decide +kernel
theorem dX7_moveOfNumber_17 : decode cX7_moveOfNumber 17 = .ok (.iinc 5 1, 3) := by decide +kernel
theorem dX7_moveOfNumber_20 : decode cX7_moveOfNumber 20 = .ok (.goto (-15), 3) := by decide +kernel
theorem dX7_moveOfNumber_23 : decode cX7_moveOfNumber 23 = .ok (.lload_n 3, 1) := by decide +kernel
theorem dX7_moveOfNumber_24 : decode cX7_moveOfNumber 24 = .ok (.invokestatic 292, 3) := by decide +kernel
theorem dX7_moveOfNumber_27 : decode cX7_moveOfNumber 27 = .ok (.ireturn, 1) := by decide +kernel
theorem dX8_init_0 : decode cX8_init 0 = .ok (.aload_n 0, 1) := by decide +kernel
theorem dX8_init_1 : decode cX8_init 1 = .ok (.invokespecial 1, 3) := by decide +kernel
theorem dX8_init_4 : decode cX8_init 4 = .ok (.aload_n 0, 1) := by decide +kernel
theorem dX8_init_5 : decode cX8_init 5 = .ok (.bipush 7, 2) := by decide +kernel
theorem dX8_init_7 : decode cX8_init 7 = .ok (.newarray .int, 2) := by decide +kernel
theorem dX8_init_9 : decode cX8_init 9 = .ok (.putfield 7, 3) := by decide +kernel
theorem dX8_init_12 : decode cX8_init 12 = .ok (.aload_n 0, 1) := by decide +kernel
theorem dX8_init_13 : decode cX8_init 13 = .ok (.bipush 7, 2) := by decide +kernel
theorem dX8_init_15 : decode cX8_init 15 = .ok (.newarray .int, 2) := by decide +kernel
theorem dX8_init_17 : decode cX8_init 17 = .ok (.putfield 13, 3) := by decide +kernel
theorem dX8_init_20 : decode cX8_init 20 = .ok (.aload_n 0, 1) := by decide +kernel
theorem dX8_init_21 : decode cX8_init 21 = .ok (.bipush 7, 2) := by decide +kernel
theorem dX8_init_23 : decode cX8_init 23 = .ok (.newarray .int, 2) := by decide +kernel
theorem dX8_init_25 : decode cX8_init 25 = .ok (.putfield 16, 3) := by decide +kernel
theorem dX8_init_28 : decode cX8_init 28 = .ok (.aload_n 0, 1) := by decide +kernel
theorem dX8_init_29 : decode cX8_init 29 = .ok (.bipush 7, 2) := by decide +kernel
theorem dX8_init_31 : decode cX8_init 31 = .ok (.newarray .int, 2) := by decide +kernel
theorem dX8_init_33 : decode cX8_init 33 = .ok (.putfield 19, 3) := by decide +kernel
theorem dX8_init_36 : decode cX8_init 36 = .ok (.aload_n 0, 1) := by decide +kernel
theorem dX8_init_37 : decode cX8_init 37 = .ok (.bipush 60, 2) := by decide +kernel
theorem dX8_init_39 : decode cX8_init 39 = .ok (.newarray .int, 2) := by decide +kernel
theorem dX8_init_41 : decode cX8_init 41 = .ok (.putfield 22, 3) := by decide +kernel
theorem dX8_init_44 : decode cX8_init 44 = .ok (.aload_n 0, 1) := by decide +kernel
theorem dX8_init_45 : decode cX8_init 45 = .ok (.bipush 60, 2) := by decide +kernel
theorem dX8_init_47 : decode cX8_init 47 = .ok (.newarray .int, 2) := by decide +kernel
theorem dX8_init_49 : decode cX8_init 49 = .ok (.putfield 25, 3) := by decide +kernel
theorem dX8_init_52 : decode cX8_init 52 = .ok (.aload_n 0, 1) := by decide +kernel
theorem dX8_init_53 : decode cX8_init 53 = .ok (.bipush 14, 2) := by decide +kernel
theorem dX8_init_55 : decode cX8_init 55 = .ok (.newarray .byte, 2) := by decide +kernel
theorem dX8_init_57 : decode cX8_init 57 = .ok (.putfield 28, 3) := by decide +kernel
theorem dX8_init_60 : decode cX8_init 60 = .ok (.aload_n 0, 1) := by decide +kernel
theorem dX8_init_61 : decode cX8_init 61 = .ok (.bipush 7, 2) := by decide +kernel
theorem dX8_init_63 : decode cX8_init 63 = .ok (.newarray .int, 2) := by decide +kernel
theorem dX8_init_65 : decode cX8_init 65 = .ok (.putfield 32, 3) := by decide +kernel
theorem dX8_init_68 : decode cX8_init 68 = .ok (.aload_n 0, 1) := by decide +kernel
theorem dX8_init_69 : decode cX8_init 69 = .ok (.bipush 7, 2) := by decide +kernel
theorem dX8_init_71 : decode cX8_init 71 = .ok (.newarray .int, 2) := by decide +kernel
theorem dX8_init_73 : decode cX8_init 73 = .ok (.putfield 35, 3) := by decide +kernel
theorem dX8_init_76 : decode cX8_init 76 = .ok (.aload_n 0, 1) := by decide +kernel
theorem dX8_init_77 : decode cX8_init 77 = .ok (.ldc 38, 2) := by decide +kernel
theorem dX8_init_79 : decode cX8_init 79 = .ok (.newarray .int, 2) := by decide +kernel
theorem dX8_init_81 : decode cX8_init 81 = .ok (.putfield 39, 3) := by decide +kernel
theorem dX8_init_84 : decode cX8_init 84 = .ok (.aload_n 0, 1) := by decide +kernel
theorem dX8_init_85 : decode cX8_init 85 = .ok (.ldc 38, 2) := by decide +kernel
theorem dX8_init_87 : decode cX8_init 87 = .ok (.newarray .long, 2) := by decide +kernel
theorem dX8_init_89 : decode cX8_init 89 = .ok (.putfield 42, 3) := by decide +kernel
theorem dX8_init_92 : decode cX8_init 92 = .ok (.aload_n 0, 1) := by decide +kernel
theorem dX8_init_93 : decode cX8_init 93 = .ok (.ldc 38, 2) := by decide +kernel
theorem dX8_init_95 : decode cX8_init 95 = .ok (.newarray .int, 2) := by decide +kernel
theorem dX8_init_97 : decode cX8_init 97 = .ok (.putfield 46, 3) := by decide +kernel
theorem dX8_init_100 : decode cX8_init 100 = .ok (.aload_n 0, 1) := by decide +kernel
theorem dX8_init_101 : decode cX8_init 101 = .ok (.ldc 38, 2) := by decide +kernel
theorem dX8_init_103 : decode cX8_init 103 = .ok (.newarray .byte, 2) := by decide +kernel
theorem dX8_init_105 : decode cX8_init 105 = .ok (.putfield 49, 3) := by decide +kernel
theorem dX8_init_108 : decode cX8_init 108 = .ok (.aload_n 0, 1) := by decide +kernel
theorem dX8_init_109 : decode cX8_init 109 = .ok (.bipush 7, 2) := by decide +kernel
theorem dX8_init_111 : decode cX8_init 111 = .ok (.newarray .int, 2) := by decide +kernel
theorem dX8_init_113 : decode cX8_init 113 = .ok (.putfield 52, 3) := by decide +kernel
theorem dX8_init_116 : decode cX8_init 116 = .ok (.aload_n 0, 1) := by decide +kernel
theorem dX8_init_117 : decode cX8_init 117 = .ok (.bipush 7, 2) := by decide +kernel
theorem dX8_init_119 : decode cX8_init 119 = .ok (.newarray .int, 2) := by decide +kernel
theorem dX8_init_121 : decode cX8_init 121 = .ok (.putfield 55, 3) := by decide +kernel
theorem dX8_init_124 : decode cX8_init 124 = .ok (.aload_n 0, 1) := by decide +kernel
theorem dX8_init_125 : decode cX8_init 125 = .ok (.bipush 60, 2) := by decide +kernel
theorem dX8_init_127 : decode cX8_init 127 = .ok (.newarray .int, 2) := by decide +kernel
theorem dX8_init_129 : decode cX8_init 129 = .ok (.putfield 58, 3) := by decide +kernel
theorem dX8_init_132 : decode cX8_init 132 = .ok (.aload_n 0, 1) := by decide +kernel
theorem dX8_init_133 : decode cX8_init 133 = .ok (.bipush 60, 2) := by decide +kernel
theorem dX8_init_135 : decode cX8_init 135 = .ok (.newarray .int, 2) := by decide +kernel
theorem dX8_init_137 : decode cX8_init 137 = .ok (.putfield 61, 3) := by decide +kernel
theorem dX8_init_140 : decode cX8_init 140 = .ok (.return_, 1) := by decide +kernel
theorem dX8_within_0 : decode cX8_within 0 = .ok (.iload_n 0, 1) := by decide +kernel
theorem dX8_within_1 : decode cX8_within 1 = .ok (.iload_n 1, 1) := by decide +kernel
theorem dX8_within_2 : decode cX8_within 2 = .ok (.if_icmp .lt 12, 3) := by decide +kernel
theorem dX8_within_5 : decode cX8_within 5 = .ok (.iload_n 0, 1) := by decide +kernel
theorem dX8_within_6 : decode cX8_within 6 = .ok (.iload_n 2, 1) := by decide +kernel
theorem dX8_within_7 : decode cX8_within 7 = .ok (.if_icmp .gt 7, 3) := by decide +kernel
theorem dX8_within_10 : decode cX8_within 10 = .ok (.iconst 1, 1) := by decide +kernel
theorem dX8_within_11 : decode cX8_within 11 = .ok (.goto 4, 3) := by decide +kernel
theorem dX8_within_14 : decode cX8_within 14 = .ok (.iconst 0, 1) := by decide +kernel
theorem dX8_within_15 : decode cX8_within 15 = .ok (.ireturn, 1) := by decide +kernel
theorem dX8_letters_0 : decode cX8_letters 0 = .ok (.iconst 0, 1) := by decide +kernel
theorem dX8_letters_1 : decode cX8_letters 1 = .ok (.istore_n 3, 1) := by decide +kernel
theorem dX8_letters_2 : decode cX8_letters 2 = .ok (.iconst 0, 1) := by decide +kernel
theorem dX8_letters_3 : decode cX8_letters 3 = .ok (.istore 4, 2) := by decide +kernel
theorem dX8_letters_5 : decode cX8_letters 5 = .ok (.iconst 0, 1) := by decide +kernel
theorem dX8_letters_6 : decode cX8_letters 6 = .ok (.istore 5, 2) := by decide +kernel
theorem dX8_letters_8 : decode cX8_letters 8 = .ok (.iload 5, 2) := by decide +kernel
theorem dX8_letters_10 : decode cX8_letters 10 = .ok (.bipush 8, 2) := by decide +kernel
theorem dX8_letters_12 : decode cX8_letters 12 = .ok (.if_icmp .ge 73, 3) := by decide +kernel
theorem dX8_letters_15 : decode cX8_letters 15 = .ok (.lload_n 1, 1) := by decide +kernel
theorem dX8_letters_16 : decode cX8_letters 16 = .ok (.bipush 8, 2) := by decide +kernel
theorem dX8_letters_18 : decode cX8_letters 18 = .ok (.iload 5, 2) := by decide +kernel
theorem dX8_letters_20 : decode cX8_letters 20 = .ok (.imul, 1) := by decide +kernel
theorem dX8_letters_21 : decode cX8_letters 21 = .ok (.lshr, 1) := by decide +kernel
theorem dX8_letters_22 : decode cX8_letters 22 = .ok (.ldc2_w 64, 3) := by decide +kernel
theorem dX8_letters_25 : decode cX8_letters 25 = .ok (.land, 1) := by decide +kernel
theorem dX8_letters_26 : decode cX8_letters 26 = .ok (.l2i, 1) := by decide +kernel
theorem dX8_letters_27 : decode cX8_letters 27 = .ok (.istore 6, 2) := by decide +kernel
theorem dX8_letters_29 : decode cX8_letters 29 = .ok (.iload 6, 2) := by decide +kernel
theorem dX8_letters_31 : decode cX8_letters 31 = .ok (.bipush 126, 2) := by decide +kernel
theorem dX8_letters_33 : decode cX8_letters 33 = .ok (.if_icmp .gt 13, 3) := by decide +kernel
theorem dX8_letters_36 : decode cX8_letters 36 = .ok (.iload 4, 2) := by decide +kernel
theorem dX8_letters_38 : decode cX8_letters 38 = .ok (.ifCond .eq 11, 3) := by decide +kernel
theorem dX8_letters_41 : decode cX8_letters 41 = .ok (.iload 6, 2) := by decide +kernel
theorem dX8_letters_43 : decode cX8_letters 43 = .ok (.ifCond .eq 6, 3) := by decide +kernel
theorem dX8_letters_46 : decode cX8_letters 46 = .ok (.bipush (-102), 2) := by decide +kernel
theorem dX8_letters_48 : decode cX8_letters 48 = .ok (.ireturn, 1) := by decide +kernel
theorem dX8_letters_49 : decode cX8_letters 49 = .ok (.iload 4, 2) := by decide +kernel
theorem dX8_letters_51 : decode cX8_letters 51 = .ok (.ifCond .ne 8, 3) := by decide +kernel
theorem dX8_letters_54 : decode cX8_letters 54 = .ok (.iload 6, 2) := by decide +kernel
theorem dX8_letters_56 : decode cX8_letters 56 = .ok (.ifCond .ne 7, 3) := by decide +kernel
theorem dX8_letters_59 : decode cX8_letters 59 = .ok (.iconst 1, 1) := by decide +kernel
theorem dX8_letters_60 : decode cX8_letters 60 = .ok (.goto 4, 3) := by decide +kernel
theorem dX8_letters_63 : decode cX8_letters 63 = .ok (.iconst 0, 1) := by decide +kernel
theorem dX8_letters_64 : decode cX8_letters 64 = .ok (.istore 4, 2) := by decide +kernel
theorem dX8_letters_66 : decode cX8_letters 66 = .ok (.iload_n 3, 1) := by decide +kernel
theorem dX8_letters_67 : decode cX8_letters 67 = .ok (.iload 6, 2) := by decide +kernel
theorem dX8_letters_69 : decode cX8_letters 69 = .ok (.ifCond .ne 7, 3) := by decide +kernel
theorem dX8_letters_72 : decode cX8_letters 72 = .ok (.iconst 0, 1) := by decide +kernel
theorem dX8_letters_73 : decode cX8_letters 73 = .ok (.goto 4, 3) := by decide +kernel
theorem dX8_letters_76 : decode cX8_letters 76 = .ok (.iconst 1, 1) := by decide +kernel
theorem dX8_letters_77 : decode cX8_letters 77 = .ok (.iadd, 1) := by decide +kernel
theorem dX8_letters_78 : decode cX8_letters 78 = .ok (.istore_n 3, 1) := by decide +kernel
theorem dX8_letters_79 : decode cX8_letters 79 = .ok (.iinc 5 1, 3) := by decide +kernel
theorem dX8_letters_82 : decode cX8_letters 82 = .ok (.goto (-74), 3) := by decide +kernel
theorem dX8_letters_85 : decode cX8_letters 85 = .ok (.aload_n 0, 1) := by decide +kernel
theorem dX8_letters_86 : decode cX8_letters 86 = .ok (.getfield 66, 3) := by decide +kernel
theorem dX8_letters_89 : decode cX8_letters 89 = .ok (.iload_n 3, 1) := by decide +kernel
theorem dX8_letters_90 : decode cX8_letters 90 = .ok (.iadd, 1) := by decide +kernel
theorem dX8_letters_91 : decode cX8_letters 91 = .ok (.bipush 14, 2) := by decide +kernel
theorem dX8_letters_93 : decode cX8_letters 93 = .ok (.if_icmp .le 6, 3) := by decide +kernel
theorem dX8_letters_96 : decode cX8_letters 96 = .ok (.bipush (-104), 2) := by decide +kernel
theorem dX8_letters_98 : decode cX8_letters 98 = .ok (.ireturn, 1) := by decide +kernel
theorem dX8_letters_99 : decode cX8_letters 99 = .ok (.iconst 0, 1) := by decide +kernel
theorem dX8_letters_100 : decode cX8_letters 100 = .ok (.istore 5, 2) := by decide +kernel
theorem dX8_letters_102 : decode cX8_letters 102 = .ok (.iload 5, 2) := by decide +kernel
theorem dX8_letters_104 : decode cX8_letters 104 = .ok (.iload_n 3, 1) := by decide +kernel
theorem dX8_letters_105 : decode cX8_letters 105 = .ok (.if_icmp .ge 30, 3) := by decide +kernel
theorem dX8_letters_108 : decode cX8_letters 108 = .ok (.aload_n 0, 1) := by decide +kernel
theorem dX8_letters_109 : decode cX8_letters 109 = .ok (.getfield 28, 3) := by decide +kernel
theorem dX8_letters_112 : decode cX8_letters 112 = .ok (.aload_n 0, 1) := by decide +kernel
theorem dX8_letters_113 : decode cX8_letters 113 = .ok (.getfield 66, 3) := by decide +kernel
theorem dX8_letters_116 : decode cX8_letters 116 = .ok (.iload 5, 2) := by decide +kernel
theorem dX8_letters_118 : decode cX8_letters 118 = .ok (.iadd, 1) := by decide +kernel
theorem dX8_letters_119 : decode cX8_letters 119 = .ok (.lload_n 1, 1) := by decide +kernel
theorem dX8_letters_120 : decode cX8_letters 120 = .ok (.bipush 8, 2) := by decide +kernel
theorem dX8_letters_122 : decode cX8_letters 122 = .ok (.iload 5, 2) := by decide +kernel
theorem dX8_letters_124 : decode cX8_letters 124 = .ok (.imul, 1) := by decide +kernel
theorem dX8_letters_125 : decode cX8_letters 125 = .ok (.lshr, 1) := by decide +kernel
theorem dX8_letters_126 : decode cX8_letters 126 = .ok (.l2i, 1) := by decide +kernel
theorem dX8_letters_127 : decode cX8_letters 127 = .ok (.i2b, 1) := by decide +kernel
theorem dX8_letters_128 : decode cX8_letters 128 = .ok (.bastore, 1) := by decide +kernel
theorem dX8_letters_129 : decode cX8_letters 129 = .ok (.iinc 5 1, 3) := by decide +kernel
theorem dX8_letters_132 : decode cX8_letters 132 = .ok (.goto (-30), 3) := by decide +kernel
theorem dX8_letters_135 : decode cX8_letters 135 = .ok (.aload_n 0, 1) := by decide +kernel
theorem dX8_letters_136 : decode cX8_letters 136 = .ok (.dup, 1) := by decide +kernel
theorem dX8_letters_137 : decode cX8_letters 137 = .ok (.getfield 66, 3) := by decide +kernel
theorem dX8_letters_140 : decode cX8_letters 140 = .ok (.iload_n 3, 1) := by decide +kernel
theorem dX8_letters_141 : decode cX8_letters 141 = .ok (.iadd, 1) := by decide +kernel
theorem dX8_letters_142 : decode cX8_letters 142 = .ok (.putfield 66, 3) := by decide +kernel
theorem dX8_letters_145 : decode cX8_letters 145 = .ok (.aload_n 0, 1) := by decide +kernel
theorem dX8_letters_146 : decode cX8_letters 146 = .ok (.getfield 66, 3) := by decide +kernel
theorem dX8_letters_149 : decode cX8_letters 149 = .ok (.ireturn, 1) := by decide +kernel
theorem dX8_blank_0 : decode cX8_blank 0 = .ok (.aload_n 0, 1) := by decide +kernel
theorem dX8_blank_1 : decode cX8_blank 1 = .ok (.getfield 66, 3) := by decide +kernel
theorem dX8_blank_4 : decode cX8_blank 4 = .ok (.istore_n 1, 1) := by decide +kernel
theorem dX8_blank_5 : decode cX8_blank 5 = .ok (.aload_n 0, 1) := by decide +kernel
theorem dX8_blank_6 : decode cX8_blank 6 = .ok (.iconst 0, 1) := by decide +kernel
theorem dX8_blank_7 : decode cX8_blank 7 = .ok (.putfield 66, 3) := by decide +kernel
theorem dX8_blank_10 : decode cX8_blank 10 = .ok (.iload_n 1, 1) := by decide +kernel
theorem dX8_blank_11 : decode cX8_blank 11 = .ok (.ireturn, 1) := by decide +kernel
theorem dX8_kindBy_0 : decode cX8_kindBy 0 = .ok (.iload_n 0, 1) := by decide +kernel
theorem dX8_kindBy_1 : decode cX8_kindBy 1 = .ok (.bipush 46, 2) := by decide +kernel
theorem dX8_kindBy_3 : decode cX8_kindBy 3 = .ok (.if_icmp .ne 7, 3) := by decide +kernel
theorem dX8_kindBy_6 : decode cX8_kindBy 6 = .ok (.iconst 0, 1) := by decide +kernel
theorem dX8_kindBy_7 : decode cX8_kindBy 7 = .ok (.goto 44, 3) := by decide +kernel
theorem dX8_kindBy_10 : decode cX8_kindBy 10 = .ok (.iload_n 0, 1) := by decide +kernel
theorem dX8_kindBy_11 : decode cX8_kindBy 11 = .ok (.bipush 62, 2) := by decide +kernel
theorem dX8_kindBy_13 : decode cX8_kindBy 13 = .ok (.if_icmp .ne 7, 3) := by decide +kernel
theorem dX8_kindBy_16 : decode cX8_kindBy 16 = .ok (.iconst 1, 1) := by decide +kernel
theorem dX8_kindBy_17 : decode cX8_kindBy 17 = .ok (.goto 34, 3) := by decide +kernel
theorem dX8_kindBy_20 : decode cX8_kindBy 20 = .ok (.iload_n 0, 1) := by decide +kernel
theorem dX8_kindBy_21 : decode cX8_kindBy 21 = .ok (.bipush 60, 2) := by decide +kernel
theorem dX8_kindBy_23 : decode cX8_kindBy 23 = .ok (.if_icmp .ne 7, 3) := by decide +kernel
theorem dX8_kindBy_26 : decode cX8_kindBy 26 = .ok (.iconst 2, 1) := by decide +kernel
theorem dX8_kindBy_27 : decode cX8_kindBy 27 = .ok (.goto 24, 3) := by decide +kernel
theorem dX8_kindBy_30 : decode cX8_kindBy 30 = .ok (.iload_n 0, 1) := by decide +kernel
theorem dX8_kindBy_31 : decode cX8_kindBy 31 = .ok (.bipush 103, 2) := by decide +kernel
theorem dX8_kindBy_33 : decode cX8_kindBy 33 = .ok (.if_icmp .ne 7, 3) := by decide +kernel
theorem dX8_kindBy_36 : decode cX8_kindBy 36 = .ok (.iconst 4, 1) := by decide +kernel
theorem dX8_kindBy_37 : decode cX8_kindBy 37 = .ok (.goto 14, 3) := by decide +kernel
theorem dX8_kindBy_40 : decode cX8_kindBy 40 = .ok (.iload_n 0, 1) := by decide +kernel
theorem dX8_kindBy_41 : decode cX8_kindBy 41 = .ok (.bipush 111, 2) := by decide +kernel
theorem dX8_kindBy_43 : decode cX8_kindBy 43 = .ok (.if_icmp .ne 7, 3) := by decide +kernel
theorem dX8_kindBy_46 : decode cX8_kindBy 46 = .ok (.iconst 3, 1) := by decide +kernel
theorem dX8_kindBy_47 : decode cX8_kindBy 47 = .ok (.goto 4, 3) := by decide +kernel
theorem dX8_kindBy_50 : decode cX8_kindBy 50 = .ok (.iconst (-1), 1) := by decide +kernel
theorem dX8_kindBy_51 : decode cX8_kindBy 51 = .ok (.ireturn, 1) := by decide +kernel
theorem dX8_signBy_0 : decode cX8_signBy 0 = .ok (.iload_n 0, 1) := by decide +kernel
theorem dX8_signBy_1 : decode cX8_signBy 1 = .ok (.bipush 97, 2) := by decide +kernel
theorem dX8_signBy_3 : decode cX8_signBy 3 = .ok (.if_icmp .ne 7, 3) := by decide +kernel
theorem dX8_signBy_6 : decode cX8_signBy 6 = .ok (.iconst 1, 1) := by decide +kernel
theorem dX8_signBy_7 : decode cX8_signBy 7 = .ok (.goto 35, 3) := by decide +kernel
theorem dX8_signBy_10 : decode cX8_signBy 10 = .ok (.iload_n 0, 1) := by decide +kernel
theorem dX8_signBy_11 : decode cX8_signBy 11 = .ok (.bipush 98, 2) := by decide +kernel
theorem dX8_signBy_13 : decode cX8_signBy 13 = .ok (.if_icmp .ne 7, 3) := by decide +kernel
theorem dX8_signBy_16 : decode cX8_signBy 16 = .ok (.iconst 2, 1) := by decide +kernel
theorem dX8_signBy_17 : decode cX8_signBy 17 = .ok (.goto 25, 3) := by decide +kernel
theorem dX8_signBy_20 : decode cX8_signBy 20 = .ok (.iload_n 0, 1) := by decide +kernel
theorem dX8_signBy_21 : decode cX8_signBy 21 = .ok (.bipush 114, 2) := by decide +kernel
theorem dX8_signBy_23 : decode cX8_signBy 23 = .ok (.if_icmp .ne 7, 3) := by decide +kernel
theorem dX8_signBy_26 : decode cX8_signBy 26 = .ok (.iconst 4, 1) := by decide +kernel
theorem dX8_signBy_27 : decode cX8_signBy 27 = .ok (.goto 15, 3) := by decide +kernel
theorem dX8_signBy_30 : decode cX8_signBy 30 = .ok (.iload_n 0, 1) := by decide +kernel
theorem dX8_signBy_31 : decode cX8_signBy 31 = .ok (.bipush 116, 2) := by decide +kernel
theorem dX8_signBy_33 : decode cX8_signBy 33 = .ok (.if_icmp .ne 8, 3) := by decide +kernel
theorem dX8_signBy_36 : decode cX8_signBy 36 = .ok (.bipush 8, 2) := by decide +kernel
theorem dX8_signBy_38 : decode cX8_signBy 38 = .ok (.goto 4, 3) := by decide +kernel
theorem dX8_signBy_41 : decode cX8_signBy 41 = .ok (.iconst 0, 1) := by decide +kernel
theorem dX8_signBy_42 : decode cX8_signBy 42 = .ok (.ireturn, 1) := by decide +kernel
theorem dX8_readBrook_0 : decode cX8_readBrook 0 = .ok (.aload_n 0, 1) := by decide +kernel
theorem dX8_readBrook_1 : decode cX8_readBrook 1 = .ok (.iconst 0, 1) := by decide +kernel
theorem dX8_readBrook_2 : decode cX8_readBrook 2 = .ok (.putfield 70, 3) := by decide +kernel
theorem dX8_readBrook_5 : decode cX8_readBrook 5 = .ok (.aload_n 0, 1) := by decide +kernel
theorem dX8_readBrook_6 : decode cX8_readBrook 6 = .ok (.iconst 0, 1) := by decide +kernel
theorem dX8_readBrook_7 : decode cX8_readBrook 7 = .ok (.putfield 73, 3) := by decide +kernel
theorem dX8_readBrook_10 : decode cX8_readBrook 10 = .ok (.iconst 0, 1) := by decide +kernel
theorem dX8_readBrook_11 : decode cX8_readBrook 11 = .ok (.istore_n 1, 1) := by decide +kernel
theorem dX8_readBrook_12 : decode cX8_readBrook 12 = .ok (.iconst 0, 1) := by decide +kernel
theorem dX8_readBrook_13 : decode cX8_readBrook 13 = .ok (.istore_n 2, 1) := by decide +kernel
theorem dX8_readBrook_14 : decode cX8_readBrook 14 = .ok (.iconst 1, 1) := by decide +kernel
theorem dX8_readBrook_15 : decode cX8_readBrook 15 = .ok (.istore_n 3, 1) := by decide +kernel
theorem dX8_readBrook_16 : decode cX8_readBrook 16 = .ok (.iload_n 2, 1) := by decide +kernel
theorem dX8_readBrook_17 : decode cX8_readBrook 17 = .ok (.aload_n 0, 1) := by decide +kernel
theorem dX8_readBrook_18 : decode cX8_readBrook 18 = .ok (.getfield 66, 3) := by decide +kernel
theorem dX8_readBrook_21 : decode cX8_readBrook 21 = .ok (.if_icmp .ge 149, 3) := by decide +kernel
theorem dX8_readBrook_24 : decode cX8_readBrook 24 = .ok (.iload_n 3, 1) := by decide +kernel
theorem dX8_readBrook_25 : decode cX8_readBrook 25 = .ok (.ifCond .eq 145, 3) := by decide +kernel
theorem dX8_readBrook_28 : decode cX8_readBrook 28 = .ok (.aload_n 0, 1) := by decide +kernel
theorem dX8_readBrook_29 : decode cX8_readBrook 29 = .ok (.getfield 28, 3) := by decide +kernel
theorem dX8_readBrook_32 : decode cX8_readBrook 32 = .ok (.iload_n 2, 1) := by decide +kernel
theorem dX8_readBrook_33 : decode cX8_readBrook 33 = .ok (.baload, 1) := by decide +kernel
theorem dX8_readBrook_34 : decode cX8_readBrook 34 = .ok (.istore 4, 2) := by decide +kernel
theorem dX8_readBrook_36 : decode cX8_readBrook 36 = .ok (.iload_n 1, 1) := by decide +kernel
theorem dX8_readBrook_37 : decode cX8_readBrook 37 = .ok (.ifCond .eq 46, 3) := by decide +kernel
theorem dX8_readBrook_40 : decode cX8_readBrook 40 = .ok (.iload 4, 2) := by decide +kernel
theorem dX8_readBrook_42 : decode cX8_readBrook 42 = .ok (.invokestatic 76, 3) := by decide +kernel
theorem dX8_readBrook_45 : decode cX8_readBrook 45 = .ok (.aload_n 0, 1) := by decide +kernel
theorem dX8_readBrook_46 : decode cX8_readBrook 46 = .ok (.getfield 73, 3) := by decide +kernel
theorem dX8_readBrook_49 : decode cX8_readBrook 49 = .ok (.if_icmp .le 7, 3) := by decide +kernel
theorem dX8_readBrook_52 : decode cX8_readBrook 52 = .ok (.iconst 1, 1) := by decide +kernel
theorem dX8_readBrook_53 : decode cX8_readBrook 53 = .ok (.goto 4, 3) := by decide +kernel
theorem dX8_readBrook_56 : decode cX8_readBrook 56 = .ok (.iconst 0, 1) := by decide +kernel
theorem dX8_readBrook_57 : decode cX8_readBrook 57 = .ok (.istore_n 3, 1) := by decide +kernel
theorem dX8_readBrook_58 : decode cX8_readBrook 58 = .ok (.aload_n 0, 1) := by decide +kernel
theorem dX8_readBrook_59 : decode cX8_readBrook 59 = .ok (.dup, 1) := by decide +kernel
theorem dX8_readBrook_60 : decode cX8_readBrook 60 = .ok (.getfield 73, 3) := by decide +kernel
theorem dX8_readBrook_63 : decode cX8_readBrook 63 = .ok (.iload_n 3, 1) := by decide +kernel
theorem dX8_readBrook_64 : decode cX8_readBrook 64 = .ok (.ifCond .eq 11, 3) := by decide +kernel
theorem dX8_readBrook_67 : decode cX8_readBrook 67 = .ok (.iload 4, 2) := by decide +kernel
theorem dX8_readBrook_69 : decode cX8_readBrook 69 = .ok (.invokestatic 76, 3) := by decide +kernel
theorem dX8_readBrook_72 : decode cX8_readBrook 72 = .ok (.goto 4, 3) := by decide +kernel
theorem dX8_readBrook_75 : decode cX8_readBrook 75 = .ok (.iconst 0, 1) := by decide +kernel
theorem dX8_readBrook_76 : decode cX8_readBrook 76 = .ok (.iadd, 1) := by decide +kernel
theorem dX8_readBrook_77 : decode cX8_readBrook 77 = .ok (.putfield 73, 3) := by decide +kernel
theorem dX8_readBrook_80 : decode cX8_readBrook 80 = .ok (.goto 75, 3) := by decide +kernel
theorem dX8_readBrook_83 : decode cX8_readBrook 83 = .ok (.iload 4, 2) := by decide +kernel
theorem dX8_readBrook_85 : decode cX8_readBrook 85 = .ok (.bipush 59, 2) := by decide +kernel
theorem dX8_readBrook_87 : decode cX8_readBrook 87 = .ok (.if_icmp .ne 16, 3) := by decide +kernel
theorem dX8_readBrook_90 : decode cX8_readBrook 90 = .ok (.aload_n 0, 1) := by decide +kernel
theorem dX8_readBrook_91 : decode cX8_readBrook 91 = .ok (.getfield 70, 3) := by decide +kernel
theorem dX8_readBrook_94 : decode cX8_readBrook 94 = .ok (.iconst 2, 1) := by decide +kernel
theorem dX8_readBrook_95 : decode cX8_readBrook 95 = .ok (.if_icmp .le 8, 3) := by decide +kernel
theorem dX8_readBrook_98 : decode cX8_readBrook 98 = .ok (.iconst 1, 1) := by decide +kernel
theorem dX8_readBrook_99 : decode cX8_readBrook 99 = .ok (.istore_n 1, 1) := by decide +kernel
theorem dX8_readBrook_100 : decode cX8_readBrook 100 = .ok (.goto 55, 3) := by decide +kernel
theorem dX8_readBrook_103 : decode cX8_readBrook 103 = .ok (.iload 4, 2) := by decide +kernel
theorem dX8_readBrook_105 : decode cX8_readBrook 105 = .ok (.invokestatic 80, 3) := by decide +kernel
theorem dX8_readBrook_108 : decode cX8_readBrook 108 = .ok (.iconst (-1), 1) := by decide +kernel
theorem dX8_readBrook_109 : decode cX8_readBrook 109 = .ok (.if_icmp .eq 16, 3) := by decide +kernel
theorem dX8_readBrook_112 : decode cX8_readBrook 112 = .ok (.aload_n 0, 1) := by decide +kernel
theorem dX8_readBrook_113 : decode cX8_readBrook 113 = .ok (.getfield 70, 3) := by decide +kernel
theorem dX8_readBrook_116 : decode cX8_readBrook 116 = .ok (.bipush 7, 2) := by decide +kernel
theorem dX8_readBrook_118 : decode cX8_readBrook 118 = .ok (.if_icmp .ge 7, 3) := by decide +kernel
theorem dX8_readBrook_121 : decode cX8_readBrook 121 = .ok (.iconst 1, 1) := by decide +kernel
theorem dX8_readBrook_122 : decode cX8_readBrook 122 = .ok (.goto 4, 3) := by decide +kernel
theorem dX8_readBrook_125 : decode cX8_readBrook 125 = .ok (.iconst 0, 1) := by decide +kernel
theorem dX8_readBrook_126 : decode cX8_readBrook 126 = .ok (.istore_n 3, 1) := by decide +kernel
theorem dX8_readBrook_127 : decode cX8_readBrook 127 = .ok (.iload_n 3, 1) := by decide +kernel
theorem dX8_readBrook_128 : decode cX8_readBrook 128 = .ok (.ifCond .eq 27, 3) := by decide +kernel
theorem dX8_readBrook_131 : decode cX8_readBrook 131 = .ok (.aload_n 0, 1) := by decide +kernel
theorem dX8_readBrook_132 : decode cX8_readBrook 132 = .ok (.getfield 32, 3) := by decide +kernel
theorem dX8_readBrook_135 : decode cX8_readBrook 135 = .ok (.aload_n 0, 1) := by decide +kernel
theorem dX8_readBrook_136 : decode cX8_readBrook 136 = .ok (.getfield 70, 3) := by decide +kernel
theorem dX8_readBrook_139 : decode cX8_readBrook 139 = .ok (.iload 4, 2) := by decide +kernel
theorem dX8_readBrook_141 : decode cX8_readBrook 141 = .ok (.invokestatic 80, 3) := by decide +kernel
theorem dX8_readBrook_144 : decode cX8_readBrook 144 = .ok (.iastore, 1) := by decide +kernel
theorem dX8_readBrook_145 : decode cX8_readBrook 145 = .ok (.aload_n 0, 1) := by decide +kernel
theorem dX8_readBrook_146 : decode cX8_readBrook 146 = .ok (.dup, 1) := by decide +kernel
theorem dX8_readBrook_147 : decode cX8_readBrook 147 = .ok (.getfield 70, 3) := by decide +kernel
theorem dX8_readBrook_150 : decode cX8_readBrook 150 = .ok (.iconst 1, 1) := by decide +kernel
theorem dX8_readBrook_151 : decode cX8_readBrook 151 = .ok (.iadd, 1) := by decide +kernel
theorem dX8_readBrook_152 : decode cX8_readBrook 152 = .ok (.putfield 70, 3) := by decide +kernel
theorem dX8_readBrook_155 : decode cX8_readBrook 155 = .ok (.iload_n 2, 1) := by decide +kernel
theorem dX8_readBrook_156 : decode cX8_readBrook 156 = .ok (.iload_n 3, 1) := by decide +kernel
theorem dX8_readBrook_157 : decode cX8_readBrook 157 = .ok (.ifCond .eq 7, 3) := by decide +kernel
theorem dX8_readBrook_160 : decode cX8_readBrook 160 = .ok (.iconst 1, 1) := by decide +kernel
theorem dX8_readBrook_161 : decode cX8_readBrook 161 = .ok (.goto 4, 3) := by decide +kernel
theorem dX8_readBrook_164 : decode cX8_readBrook 164 = .ok (.iconst 0, 1) := by decide +kernel
theorem dX8_readBrook_165 : decode cX8_readBrook 165 = .ok (.iadd, 1) := by decide +kernel
theorem dX8_readBrook_166 : decode cX8_readBrook 166 = .ok (.istore_n 2, 1) := by decide +kernel
theorem dX8_readBrook_167 : decode cX8_readBrook 167 = .ok (.goto (-151), 3) := by decide +kernel
theorem dX8_readBrook_170 : decode cX8_readBrook 170 = .ok (.aload_n 0, 1) := by decide +kernel
theorem dX8_readBrook_171 : decode cX8_readBrook 171 = .ok (.iload_n 2, 1) := by decide +kernel
theorem dX8_readBrook_172 : decode cX8_readBrook 172 = .ok (.putfield 83, 3) := by decide +kernel
theorem dX8_readBrook_175 : decode cX8_readBrook 175 = .ok (.iconst 0, 1) := by decide +kernel
theorem dX8_readBrook_176 : decode cX8_readBrook 176 = .ok (.istore 4, 2) := by decide +kernel
theorem dX8_readBrook_178 : decode cX8_readBrook 178 = .ok (.iconst 0, 1) := by decide +kernel
theorem dX8_readBrook_179 : decode cX8_readBrook 179 = .ok (.istore 5, 2) := by decide +kernel
theorem dX8_readBrook_181 : decode cX8_readBrook 181 = .ok (.iload 5, 2) := by decide +kernel
theorem dX8_readBrook_183 : decode cX8_readBrook 183 = .ok (.aload_n 0, 1) := by decide +kernel
theorem dX8_readBrook_184 : decode cX8_readBrook 184 = .ok (.getfield 70, 3) := by decide +kernel
theorem dX8_readBrook_187 : decode cX8_readBrook 187 = .ok (.if_icmp .ge 21, 3) := by decide +kernel
theorem dX8_readBrook_190 : decode cX8_readBrook 190 = .ok (.iload 4, 2) := by decide +kernel
theorem dX8_readBrook_192 : decode cX8_readBrook 192 = .ok (.aload_n 0, 1) := by decide +kernel
theorem dX8_readBrook_193 : decode cX8_readBrook 193 = .ok (.getfield 32, 3) := by decide +kernel
theorem dX8_readBrook_196 : decode cX8_readBrook 196 = .ok (.iload 5, 2) := by decide +kernel
theorem dX8_readBrook_198 : decode cX8_readBrook 198 = .ok (.iaload, 1) := by decide +kernel
theorem dX8_readBrook_199 : decode cX8_readBrook 199 = .ok (.iadd, 1) := by decide +kernel
theorem dX8_readBrook_200 : decode cX8_readBrook 200 = .ok (.istore 4, 2) := by decide +kernel
theorem dX8_readBrook_202 : decode cX8_readBrook 202 = .ok (.iinc 5 1, 3) := by decide +kernel
theorem dX8_readBrook_205 : decode cX8_readBrook 205 = .ok (.goto (-24), 3) := by decide +kernel
theorem dX8_readBrook_208 : decode cX8_readBrook 208 = .ok (.aload_n 0, 1) := by decide +kernel
theorem dX8_readBrook_209 : decode cX8_readBrook 209 = .ok (.iload_n 2, 1) := by decide +kernel
theorem dX8_readBrook_210 : decode cX8_readBrook 210 = .ok (.aload_n 0, 1) := by decide +kernel
theorem dX8_readBrook_211 : decode cX8_readBrook 211 = .ok (.getfield 66, 3) := by decide +kernel
theorem dX8_readBrook_214 : decode cX8_readBrook 214 = .ok (.if_icmp .ne 31, 3) := by decide +kernel
theorem dX8_readBrook_217 : decode cX8_readBrook 217 = .ok (.aload_n 0, 1) := by decide +kernel
theorem dX8_readBrook_218 : decode cX8_readBrook 218 = .ok (.getfield 70, 3) := by decide +kernel
theorem dX8_readBrook_221 : decode cX8_readBrook 221 = .ok (.iconst 2, 1) := by decide +kernel
theorem dX8_readBrook_222 : decode cX8_readBrook 222 = .ok (.if_icmp .le 23, 3) := by decide +kernel
theorem dX8_readBrook_225 : decode cX8_readBrook 225 = .ok (.iload 4, 2) := by decide +kernel
theorem dX8_readBrook_227 : decode cX8_readBrook 227 = .ok (.ifCond .le 18, 3) := by decide +kernel
theorem dX8_readBrook_230 : decode cX8_readBrook 230 = .ok (.iload_n 1, 1) := by decide +kernel
theorem dX8_readBrook_231 : decode cX8_readBrook 231 = .ok (.ifCond .eq 10, 3) := by decide +kernel
theorem dX8_readBrook_234 : decode cX8_readBrook 234 = .ok (.aload_n 0, 1) := by decide +kernel
theorem dX8_readBrook_235 : decode cX8_readBrook 235 = .ok (.getfield 73, 3) := by decide +kernel
theorem dX8_readBrook_238 : decode cX8_readBrook 238 = .ok (.ifCond .le 7, 3) := by decide +kernel
theorem dX8_readBrook_241 : decode cX8_readBrook 241 = .ok (.iconst 1, 1) := by decide +kernel
theorem dX8_readBrook_242 : decode cX8_readBrook 242 = .ok (.goto 4, 3) := by decide +kernel
theorem dX8_readBrook_245 : decode cX8_readBrook 245 = .ok (.iconst 0, 1) := by decide +kernel
theorem dX8_readBrook_246 : decode cX8_readBrook 246 = .ok (.putfield 86, 3) := by decide +kernel
theorem dX8_readBrook_249 : decode cX8_readBrook 249 = .ok (.return_, 1) := by decide +kernel
theorem dX8_fault_0 : decode cX8_fault 0 = .ok (.aload_n 0, 1) := by decide +kernel
theorem dX8_fault_1 : decode cX8_fault 1 = .ok (.invokevirtual 90, 3) := by decide +kernel
theorem dX8_fault_4 : decode cX8_fault 4 = .ok (.aload_n 0, 1) := by decide +kernel
theorem dX8_fault_5 : decode cX8_fault 5 = .ok (.getfield 83, 3) := by decide +kernel
theorem dX8_fault_8 : decode cX8_fault 8 = .ok (.ireturn, 1) := by decide +kernel
theorem dX8_brook_0 : decode cX8_brook 0 = .ok (.aload_n 0, 1) := by decide +kernel
theorem dX8_brook_1 : decode cX8_brook 1 = .ok (.invokevirtual 90, 3) := by decide +kernel
theorem dX8_brook_4 : decode cX8_brook 4 = .ok (.aload_n 0, 1) := by decide +kernel
theorem dX8_brook_5 : decode cX8_brook 5 = .ok (.getfield 86, 3) := by decide +kernel
theorem dX8_brook_8 : decode cX8_brook 8 = .ok (.ifCond .ne 6, 3) := by decide +kernel
theorem dX8_brook_11 : decode cX8_brook 11 = .ok (.bipush (-103), 2) := by decide +kernel
theorem dX8_brook_13 : decode cX8_brook 13 = .ok (.ireturn, 1) := by decide +kernel
theorem dX8_brook_14 : decode cX8_brook 14 = .ok (.aload_n 0, 1) := by decide +kernel
theorem dX8_brook_15 : decode cX8_brook 15 = .ok (.aload_n 0, 1) := by decide +kernel
theorem dX8_brook_16 : decode cX8_brook 16 = .ok (.getfield 70, 3) := by decide +kernel
theorem dX8_brook_19 : decode cX8_brook 19 = .ok (.putfield 93, 3) := by decide +kernel
theorem dX8_brook_22 : decode cX8_brook 22 = .ok (.aload_n 0, 1) := by decide +kernel
theorem dX8_brook_23 : decode cX8_brook 23 = .ok (.aload_n 0, 1) := by decide +kernel
theorem dX8_brook_24 : decode cX8_brook 24 = .ok (.getfield 73, 3) := by decide +kernel
theorem dX8_brook_27 : decode cX8_brook 27 = .ok (.iconst 2, 1) := by decide +kernel
theorem dX8_brook_28 : decode cX8_brook 28 = .ok (.irem, 1) := by decide +kernel
theorem dX8_brook_29 : decode cX8_brook 29 = .ok (.iconst 1, 1) := by decide +kernel
theorem dX8_brook_30 : decode cX8_brook 30 = .ok (.if_icmp .ne 7, 3) := by decide +kernel
theorem dX8_brook_33 : decode cX8_brook 33 = .ok (.iconst 1, 1) := by decide +kernel
theorem dX8_brook_34 : decode cX8_brook 34 = .ok (.goto 4, 3) := by decide +kernel
theorem dX8_brook_37 : decode cX8_brook 37 = .ok (.iconst 0, 1) := by decide +kernel
theorem dX8_brook_38 : decode cX8_brook 38 = .ok (.putfield 96, 3) := by decide +kernel
theorem dX8_brook_41 : decode cX8_brook 41 = .ok (.aload_n 0, 1) := by decide +kernel
theorem dX8_brook_42 : decode cX8_brook 42 = .ok (.aload_n 0, 1) := by decide +kernel
theorem dX8_brook_43 : decode cX8_brook 43 = .ok (.getfield 73, 3) := by decide +kernel
theorem dX8_brook_46 : decode cX8_brook 46 = .ok (.iconst 2, 1) := by decide +kernel
theorem dX8_brook_47 : decode cX8_brook 47 = .ok (.idiv, 1) := by decide +kernel
theorem dX8_brook_48 : decode cX8_brook 48 = .ok (.iconst 2, 1) := by decide +kernel
theorem dX8_brook_49 : decode cX8_brook 49 = .ok (.irem, 1) := by decide +kernel
theorem dX8_brook_50 : decode cX8_brook 50 = .ok (.iconst 1, 1) := by decide +kernel
theorem dX8_brook_51 : decode cX8_brook 51 = .ok (.if_icmp .ne 7, 3) := by decide +kernel
theorem dX8_brook_54 : decode cX8_brook 54 = .ok (.iconst 1, 1) := by decide +kernel
theorem dX8_brook_55 : decode cX8_brook 55 = .ok (.goto 4, 3) := by decide +kernel
theorem dX8_brook_58 : decode cX8_brook 58 = .ok (.iconst 0, 1) := by decide +kernel
theorem dX8_brook_59 : decode cX8_brook 59 = .ok (.putfield 99, 3) := by decide +kernel
theorem dX8_brook_62 : decode cX8_brook 62 = .ok (.aload_n 0, 1) := by decide +kernel
theorem dX8_brook_63 : decode cX8_brook 63 = .ok (.aload_n 0, 1) := by decide +kernel
theorem dX8_brook_64 : decode cX8_brook 64 = .ok (.getfield 73, 3) := by decide +kernel
theorem dX8_brook_67 : decode cX8_brook 67 = .ok (.iconst 4, 1) := by decide +kernel
theorem dX8_brook_68 : decode cX8_brook 68 = .ok (.idiv, 1) := by decide +kernel
theorem dX8_brook_69 : decode cX8_brook 69 = .ok (.iconst 2, 1) := by decide +kernel
theorem dX8_brook_70 : decode cX8_brook 70 = .ok (.irem, 1) := by decide +kernel
theorem dX8_brook_71 : decode cX8_brook 71 = .ok (.iconst 1, 1) := by decide +kernel
theorem dX8_brook_72 : decode cX8_brook 72 = .ok (.if_icmp .ne 7, 3) := by decide +kernel
theorem dX8_brook_75 : decode cX8_brook 75 = .ok (.iconst 1, 1) := by decide +kernel
theorem dX8_brook_76 : decode cX8_brook 76 = .ok (.goto 4, 3) := by decide +kernel
theorem dX8_brook_79 : decode cX8_brook 79 = .ok (.iconst 0, 1) := by decide +kernel
theorem dX8_brook_80 : decode cX8_brook 80 = .ok (.putfield 102, 3) := by decide +kernel
theorem dX8_brook_83 : decode cX8_brook 83 = .ok (.aload_n 0, 1) := by decide +kernel
theorem dX8_brook_84 : decode cX8_brook 84 = .ok (.aload_n 0, 1) := by decide +kernel
theorem dX8_brook_85 : decode cX8_brook 85 = .ok (.getfield 73, 3) := by decide +kernel
theorem dX8_brook_88 : decode cX8_brook 88 = .ok (.bipush 8, 2) := by decide +kernel
theorem dX8_brook_90 : decode cX8_brook 90 = .ok (.idiv, 1) := by decide +kernel
theorem dX8_brook_91 : decode cX8_brook 91 = .ok (.iconst 1, 1) := by decide +kernel
theorem dX8_brook_92 : decode cX8_brook 92 = .ok (.if_icmp .ne 7, 3) := by decide +kernel
theorem dX8_brook_95 : decode cX8_brook 95 = .ok (.iconst 1, 1) := by decide +kernel
theorem dX8_brook_96 : decode cX8_brook 96 = .ok (.goto 4, 3) := by decide +kernel
theorem dX8_brook_99 : decode cX8_brook 99 = .ok (.iconst 0, 1) := by decide +kernel
theorem dX8_brook_100 : decode cX8_brook 100 = .ok (.putfield 105, 3) := by decide +kernel
theorem dX8_brook_103 : decode cX8_brook 103 = .ok (.aload_n 0, 1) := by decide +kernel
theorem dX8_brook_104 : decode cX8_brook 104 = .ok (.iconst 0, 1) := by decide +kernel
theorem dX8_brook_105 : decode cX8_brook 105 = .ok (.putfield 108, 3) := by decide +kernel
theorem dX8_brook_108 : decode cX8_brook 108 = .ok (.iconst 0, 1) := by decide +kernel
theorem dX8_brook_109 : decode cX8_brook 109 = .ok (.istore_n 1, 1) := by decide +kernel
theorem dX8_brook_110 : decode cX8_brook 110 = .ok (.iload_n 1, 1) := by decide +kernel
theorem dX8_brook_111 : decode cX8_brook 111 = .ok (.aload_n 0, 1) := by decide +kernel
theorem dX8_brook_112 : decode cX8_brook 112 = .ok (.getfield 93, 3) := by decide +kernel
theorem dX8_brook_115 : decode cX8_brook 115 = .ok (.if_icmp .ge 84, 3) := by decide +kernel
theorem dX8_brook_118 : decode cX8_brook 118 = .ok (.aload_n 0, 1) := by decide +kernel
theorem dX8_brook_119 : decode cX8_brook 119 = .ok (.getfield 7, 3) := by decide +kernel
theorem dX8_brook_122 : decode cX8_brook 122 = .ok (.iload_n 1, 1) := by decide +kernel
theorem dX8_brook_123 : decode cX8_brook 123 = .ok (.aload_n 0, 1) := by decide +kernel
theorem dX8_brook_124 : decode cX8_brook 124 = .ok (.getfield 32, 3) := by decide +kernel
theorem dX8_brook_127 : decode cX8_brook 127 = .ok (.iload_n 1, 1) := by decide +kernel
theorem dX8_brook_128 : decode cX8_brook 128 = .ok (.iaload, 1) := by decide +kernel
theorem dX8_brook_129 : decode cX8_brook 129 = .ok (.iastore, 1) := by decide +kernel
theorem dX8_brook_130 : decode cX8_brook 130 = .ok (.aload_n 0, 1) := by decide +kernel
theorem dX8_brook_131 : decode cX8_brook 131 = .ok (.getfield 13, 3) := by decide +kernel
theorem dX8_brook_134 : decode cX8_brook 134 = .ok (.iload_n 1, 1) := by decide +kernel
theorem dX8_brook_135 : decode cX8_brook 135 = .ok (.aload_n 0, 1) := by decide +kernel
theorem dX8_brook_136 : decode cX8_brook 136 = .ok (.getfield 32, 3) := by decide +kernel
theorem dX8_brook_139 : decode cX8_brook 139 = .ok (.iload_n 1, 1) := by decide +kernel
theorem dX8_brook_140 : decode cX8_brook 140 = .ok (.iaload, 1) := by decide +kernel
theorem dX8_brook_141 : decode cX8_brook 141 = .ok (.iastore, 1) := by decide +kernel
theorem dX8_brook_142 : decode cX8_brook 142 = .ok (.aload_n 0, 1) := by decide +kernel
theorem dX8_brook_143 : decode cX8_brook 143 = .ok (.getfield 16, 3) := by decide +kernel
theorem dX8_brook_146 : decode cX8_brook 146 = .ok (.iload_n 1, 1) := by decide +kernel
theorem dX8_brook_147 : decode cX8_brook 147 = .ok (.iconst (-1), 1) := by decide +kernel
theorem dX8_brook_148 : decode cX8_brook 148 = .ok (.iastore, 1) := by decide +kernel
theorem dX8_brook_149 : decode cX8_brook 149 = .ok (.aload_n 0, 1) := by decide +kernel
theorem dX8_brook_150 : decode cX8_brook 150 = .ok (.getfield 32, 3) := by decide +kernel
theorem dX8_brook_153 : decode cX8_brook 153 = .ok (.iload_n 1, 1) := by decide +kernel
theorem dX8_brook_154 : decode cX8_brook 154 = .ok (.iaload, 1) := by decide +kernel
theorem dX8_brook_155 : decode cX8_brook 155 = .ok (.ifCond .le 38, 3) := by decide +kernel
theorem dX8_brook_158 : decode cX8_brook 158 = .ok (.aload_n 0, 1) := by decide +kernel
theorem dX8_brook_159 : decode cX8_brook 159 = .ok (.getfield 19, 3) := by decide +kernel
theorem dX8_brook_162 : decode cX8_brook 162 = .ok (.aload_n 0, 1) := by decide +kernel
theorem dX8_brook_163 : decode cX8_brook 163 = .ok (.getfield 108, 3) := by decide +kernel
theorem dX8_brook_166 : decode cX8_brook 166 = .ok (.aload_n 0, 1) := by decide +kernel
theorem dX8_brook_167 : decode cX8_brook 167 = .ok (.getfield 32, 3) := by decide +kernel
theorem dX8_brook_170 : decode cX8_brook 170 = .ok (.iload_n 1, 1) := by decide +kernel
theorem dX8_brook_171 : decode cX8_brook 171 = .ok (.iaload, 1) := by decide +kernel
theorem dX8_brook_172 : decode cX8_brook 172 = .ok (.iastore, 1) := by decide +kernel
theorem dX8_brook_173 : decode cX8_brook 173 = .ok (.aload_n 0, 1) := by decide +kernel
theorem dX8_brook_174 : decode cX8_brook 174 = .ok (.getfield 16, 3) := by decide +kernel
theorem dX8_brook_177 : decode cX8_brook 177 = .ok (.iload_n 1, 1) := by decide +kernel
theorem dX8_brook_178 : decode cX8_brook 178 = .ok (.aload_n 0, 1) := by decide +kernel
theorem dX8_brook_179 : decode cX8_brook 179 = .ok (.getfield 108, 3) := by decide +kernel
theorem dX8_brook_182 : decode cX8_brook 182 = .ok (.iastore, 1) := by decide +kernel
theorem dX8_brook_183 : decode cX8_brook 183 = .ok (.aload_n 0, 1) := by decide +kernel
theorem dX8_brook_184 : decode cX8_brook 184 = .ok (.dup, 1) := by decide +kernel
theorem dX8_brook_185 : decode cX8_brook 185 = .ok (.getfield 108, 3) := by decide +kernel
theorem dX8_brook_188 : decode cX8_brook 188 = .ok (.iconst 1, 1) := by decide +kernel
theorem dX8_brook_189 : decode cX8_brook 189 = .ok (.iadd, 1) := by decide +kernel
theorem dX8_brook_190 : decode cX8_brook 190 = .ok (.putfield 108, 3) := by decide +kernel
theorem dX8_brook_193 : decode cX8_brook 193 = .ok (.iinc 1 1, 3) := by decide +kernel
theorem dX8_brook_196 : decode cX8_brook 196 = .ok (.goto (-86), 3) := by decide +kernel
theorem dX8_brook_199 : decode cX8_brook 199 = .ok (.aload_n 0, 1) := by decide +kernel
theorem dX8_brook_200 : decode cX8_brook 200 = .ok (.iconst 0, 1) := by decide +kernel
theorem dX8_brook_201 : decode cX8_brook 201 = .ok (.putfield 111, 3) := by decide +kernel
theorem dX8_brook_204 : decode cX8_brook 204 = .ok (.aload_n 0, 1) := by decide +kernel
theorem dX8_brook_205 : decode cX8_brook 205 = .ok (.dup, 1) := by decide +kernel
theorem dX8_brook_206 : decode cX8_brook 206 = .ok (.getfield 114, 3) := by decide +kernel
theorem dX8_brook_209 : decode cX8_brook 209 = .ok (.iconst 1, 1) := by decide +kernel
theorem dX8_brook_210 : decode cX8_brook 210 = .ok (.iadd, 1) := by decide +kernel
theorem dX8_brook_211 : decode cX8_brook 211 = .ok (.putfield 114, 3) := by decide +kernel
theorem dX8_brook_214 : decode cX8_brook 214 = .ok (.aload_n 0, 1) := by decide +kernel
theorem dX8_brook_215 : decode cX8_brook 215 = .ok (.iconst 0, 1) := by decide +kernel
theorem dX8_brook_216 : decode cX8_brook 216 = .ok (.putfield 66, 3) := by decide +kernel
theorem dX8_brook_219 : decode cX8_brook 219 = .ok (.aload_n 0, 1) := by decide +kernel
theorem dX8_brook_220 : decode cX8_brook 220 = .ok (.getfield 93, 3) := by decide +kernel
theorem dX8_brook_223 : decode cX8_brook 223 = .ok (.ireturn, 1) := by decide +kernel
theorem dX8_isStone_0 : decode cX8_isStone 0 = .ok (.iload_n 1, 1) := by decide +kernel
theorem dX8_isStone_1 : decode cX8_isStone 1 = .ok (.iconst 0, 1) := by decide +kernel
theorem dX8_isStone_2 : decode cX8_isStone 2 = .ok (.aload_n 0, 1) := by decide +kernel
theorem dX8_isStone_3 : decode cX8_isStone 3 = .ok (.getfield 93, 3) := by decide +kernel
theorem dX8_isStone_6 : decode cX8_isStone 6 = .ok (.iconst 1, 1) := by decide +kernel
theorem dX8_isStone_7 : decode cX8_isStone 7 = .ok (.isub, 1) := by decide +kernel
theorem dX8_isStone_8 : decode cX8_isStone 8 = .ok (.invokestatic 117, 3) := by decide +kernel
theorem dX8_isStone_11 : decode cX8_isStone 11 = .ok (.ireturn, 1) := by decide +kernel
theorem dX8_on_0 : decode cX8_on 0 = .ok (.aload_n 0, 1) := by decide +kernel
theorem dX8_on_1 : decode cX8_on 1 = .ok (.iload_n 1, 1) := by decide +kernel
theorem dX8_on_2 : decode cX8_on 2 = .ok (.invokevirtual 121, 3) := by decide +kernel
theorem dX8_on_5 : decode cX8_on 5 = .ok (.ifCond .ne 8, 3) := by decide +kernel
theorem dX8_on_8 : decode cX8_on 8 = .ok (.bipush (-101), 2) := by decide +kernel
theorem dX8_on_10 : decode cX8_on 10 = .ok (.goto 22, 3) := by decide +kernel
theorem dX8_on_13 : decode cX8_on 13 = .ok (.aload_n 0, 1) := by decide +kernel
theorem dX8_on_14 : decode cX8_on 14 = .ok (.getfield 13, 3) := by decide +kernel
theorem dX8_on_17 : decode cX8_on 17 = .ok (.iload_n 1, 1) := by decide +kernel
theorem dX8_on_18 : decode cX8_on 18 = .ok (.iaload, 1) := by decide +kernel
theorem dX8_on_19 : decode cX8_on 19 = .ok (.ifCond .ne 7, 3) := by decide +kernel
theorem dX8_on_22 : decode cX8_on 22 = .ok (.iconst (-1), 1) := by decide +kernel
theorem dX8_on_23 : decode cX8_on 23 = .ok (.goto 9, 3) := by decide +kernel
theorem dX8_on_26 : decode cX8_on 26 = .ok (.aload_n 0, 1) := by decide +kernel
theorem dX8_on_27 : decode cX8_on 27 = .ok (.getfield 13, 3) := by decide +kernel
theorem dX8_on_30 : decode cX8_on 30 = .ok (.iload_n 1, 1) := by decide +kernel
theorem dX8_on_31 : decode cX8_on 31 = .ok (.iaload, 1) := by decide +kernel
theorem dX8_on_32 : decode cX8_on 32 = .ok (.ireturn, 1) := by decide +kernel
theorem dX8_frog_0 : decode cX8_frog 0 = .ok (.aload_n 0, 1) := by decide +kernel
theorem dX8_frog_1 : decode cX8_frog 1 = .ok (.iload_n 1, 1) := by decide +kernel
theorem dX8_frog_2 : decode cX8_frog 2 = .ok (.invokevirtual 121, 3) := by decide +kernel
theorem dX8_frog_5 : decode cX8_frog 5 = .ok (.ifCond .eq 12, 3) := by decide +kernel
theorem dX8_frog_8 : decode cX8_frog 8 = .ok (.aload_n 0, 1) := by decide +kernel
theorem dX8_frog_9 : decode cX8_frog 9 = .ok (.getfield 16, 3) := by decide +kernel
theorem dX8_frog_12 : decode cX8_frog 12 = .ok (.iload_n 1, 1) := by decide +kernel
theorem dX8_frog_13 : decode cX8_frog 13 = .ok (.iaload, 1) := by decide +kernel
theorem dX8_frog_14 : decode cX8_frog 14 = .ok (.goto 5, 3) := by decide +kernel
theorem dX8_frog_17 : decode cX8_frog 17 = .ok (.bipush (-101), 2) := by decide +kernel
theorem dX8_frog_19 : decode cX8_frog 19 = .ok (.ireturn, 1) := by decide +kernel
theorem dX8_stoneOf_0 : decode cX8_stoneOf 0 = .ok (.iconst 0, 1) := by decide +kernel
theorem dX8_stoneOf_1 : decode cX8_stoneOf 1 = .ok (.istore_n 2, 1) := by decide +kernel
theorem dX8_stoneOf_2 : decode cX8_stoneOf 2 = .ok (.aload_n 0, 1) := by decide +kernel
theorem dX8_stoneOf_3 : decode cX8_stoneOf 3 = .ok (.getfield 16, 3) := by decide +kernel
theorem dX8_stoneOf_6 : decode cX8_stoneOf 6 = .ok (.iload_n 2, 1) := by decide +kernel
theorem dX8_stoneOf_7 : decode cX8_stoneOf 7 = .ok (.iaload, 1) := by decide +kernel
theorem dX8_stoneOf_8 : decode cX8_stoneOf 8 = .ok (.iload_n 1, 1) := by decide +kernel
theorem dX8_stoneOf_9 : decode cX8_stoneOf 9 = .ok (.if_icmp .eq 9, 3) := by decide +kernel
theorem dX8_stoneOf_12 : decode cX8_stoneOf 12 = .ok (.iinc 2 1, 3) := by decide +kernel
theorem dX8_stoneOf_15 : decode cX8_stoneOf 15 = .ok (.goto (-13), 3) := by decide +kernel
theorem dX8_stoneOf_18 : decode cX8_stoneOf 18 = .ok (.iload_n 2, 1) := by decide +kernel
theorem dX8_stoneOf_19 : decode cX8_stoneOf 19 = .ok (.ireturn, 1) := by decide +kernel
theorem dX8_movedMany_0 : decode cX8_movedMany 0 = .ok (.aload_n 0, 1) := by decide +kernel
theorem dX8_movedMany_1 : decode cX8_movedMany 1 = .ok (.iload_n 1, 1) := by decide +kernel
theorem dX8_movedMany_2 : decode cX8_movedMany 2 = .ok (.invokevirtual 125, 3) := by decide +kernel
theorem dX8_movedMany_5 : decode cX8_movedMany 5 = .ok (.istore_n 2, 1) := by decide +kernel
theorem dX8_movedMany_6 : decode cX8_movedMany 6 = .ok (.iconst 0, 1) := by decide +kernel
theorem dX8_movedMany_7 : decode cX8_movedMany 7 = .ok (.istore_n 3, 1) := by decide +kernel
theorem dX8_movedMany_8 : decode cX8_movedMany 8 = .ok (.aload_n 0, 1) := by decide +kernel
theorem dX8_movedMany_9 : decode cX8_movedMany 9 = .ok (.getfield 111, 3) := by decide +kernel
theorem dX8_movedMany_12 : decode cX8_movedMany 12 = .ok (.iconst 1, 1) := by decide +kernel
theorem dX8_movedMany_13 : decode cX8_movedMany 13 = .ok (.isub, 1) := by decide +kernel
theorem dX8_movedMany_14 : decode cX8_movedMany 14 = .ok (.istore 4, 2) := by decide +kernel
theorem dX8_movedMany_16 : decode cX8_movedMany 16 = .ok (.iload 4, 2) := by decide +kernel
theorem dX8_movedMany_18 : decode cX8_movedMany 18 = .ok (.ifCond .lt 31, 3) := by decide +kernel
theorem dX8_movedMany_21 : decode cX8_movedMany 21 = .ok (.aload_n 0, 1) := by decide +kernel
theorem dX8_movedMany_22 : decode cX8_movedMany 22 = .ok (.getfield 25, 3) := by decide +kernel
theorem dX8_movedMany_25 : decode cX8_movedMany 25 = .ok (.iload 4, 2) := by decide +kernel
theorem dX8_movedMany_27 : decode cX8_movedMany 27 = .ok (.iaload, 1) := by decide +kernel
theorem dX8_movedMany_28 : decode cX8_movedMany 28 = .ok (.iload_n 2, 1) := by decide +kernel
theorem dX8_movedMany_29 : decode cX8_movedMany 29 = .ok (.if_icmp .ne 14, 3) := by decide +kernel
theorem dX8_movedMany_32 : decode cX8_movedMany 32 = .ok (.iinc 3 1, 3) := by decide +kernel
theorem dX8_movedMany_35 : decode cX8_movedMany 35 = .ok (.aload_n 0, 1) := by decide +kernel
theorem dX8_movedMany_36 : decode cX8_movedMany 36 = .ok (.getfield 22, 3) := by decide +kernel
theorem dX8_movedMany_39 : decode cX8_movedMany 39 = .ok (.iload 4, 2) := by decide +kernel
theorem dX8_movedMany_41 : decode cX8_movedMany 41 = .ok (.iaload, 1) := by decide +kernel
theorem dX8_movedMany_42 : decode cX8_movedMany 42 = .ok (.istore_n 2, 1) := by decide +kernel
theorem dX8_movedMany_43 : decode cX8_movedMany 43 = .ok (.iinc 4 (-1), 3) := by decide +kernel
theorem dX8_movedMany_46 : decode cX8_movedMany 46 = .ok (.goto (-30), 3) := by decide +kernel
theorem dX8_movedMany_49 : decode cX8_movedMany 49 = .ok (.iload_n 3, 1) := by decide +kernel
theorem dX8_movedMany_50 : decode cX8_movedMany 50 = .ok (.ireturn, 1) := by decide +kernel
theorem dX8_frogNow_0 : decode cX8_frogNow 0 = .ok (.iload_n 2, 1) := by decide +kernel
theorem dX8_frogNow_1 : decode cX8_frogNow 1 = .ok (.ifCond .ne 12, 3) := by decide +kernel
theorem dX8_frogNow_4 : decode cX8_frogNow 4 = .ok (.aload_n 0, 1) := by decide +kernel
theorem dX8_frogNow_5 : decode cX8_frogNow 5 = .ok (.getfield 19, 3) := by decide +kernel
theorem dX8_frogNow_8 : decode cX8_frogNow 8 = .ok (.iload_n 1, 1) := by decide +kernel
theorem dX8_frogNow_9 : decode cX8_frogNow 9 = .ok (.iaload, 1) := by decide +kernel
theorem dX8_frogNow_10 : decode cX8_frogNow 10 = .ok (.goto 21, 3) := by decide +kernel
theorem dX8_frogNow_13 : decode cX8_frogNow 13 = .ok (.iload_n 2, 1) := by decide +kernel
theorem dX8_frogNow_14 : decode cX8_frogNow 14 = .ok (.iconst 1, 1) := by decide +kernel
theorem dX8_frogNow_15 : decode cX8_frogNow 15 = .ok (.if_icmp .ne 11, 3) := by decide +kernel
theorem dX8_frogNow_18 : decode cX8_frogNow 18 = .ok (.aload_n 0, 1) := by decide +kernel
theorem dX8_frogNow_19 : decode cX8_frogNow 19 = .ok (.iload_n 1, 1) := by decide +kernel
theorem dX8_frogNow_20 : decode cX8_frogNow 20 = .ok (.invokevirtual 125, 3) := by decide +kernel
theorem dX8_frogNow_23 : decode cX8_frogNow 23 = .ok (.goto 8, 3) := by decide +kernel
theorem dX8_frogNow_26 : decode cX8_frogNow 26 = .ok (.aload_n 0, 1) := by decide +kernel
theorem dX8_frogNow_27 : decode cX8_frogNow 27 = .ok (.iload_n 1, 1) := by decide +kernel
theorem dX8_frogNow_28 : decode cX8_frogNow 28 = .ok (.invokevirtual 128, 3) := by decide +kernel
theorem dX8_frogNow_31 : decode cX8_frogNow 31 = .ok (.ireturn, 1) := by decide +kernel
theorem dX8_about_0 : decode cX8_about 0 = .ok (.iload_n 1, 1) := by decide +kernel
theorem dX8_about_1 : decode cX8_about 1 = .ok (.iconst 0, 1) := by decide +kernel
theorem dX8_about_2 : decode cX8_about 2 = .ok (.aload_n 0, 1) := by decide +kernel
theorem dX8_about_3 : decode cX8_about 3 = .ok (.getfield 108, 3) := by decide +kernel
theorem dX8_about_6 : decode cX8_about 6 = .ok (.iconst 1, 1) := by decide +kernel
theorem dX8_about_7 : decode cX8_about 7 = .ok (.isub, 1) := by decide +kernel
theorem dX8_about_8 : decode cX8_about 8 = .ok (.invokestatic 117, 3) := by decide +kernel
theorem dX8_about_11 : decode cX8_about 11 = .ok (.ifCond .ne 6, 3) := by decide +kernel
theorem dX8_about_14 : decode cX8_about 14 = .ok (.bipush (-101), 2) := by decide +kernel
theorem dX8_about_16 : decode cX8_about 16 = .ok (.ireturn, 1) := by decide +kernel
theorem dX8_about_17 : decode cX8_about 17 = .ok (.iload_n 2, 1) := by decide +kernel
theorem dX8_about_18 : decode cX8_about 18 = .ok (.iconst 0, 1) := by decide +kernel
theorem dX8_about_19 : decode cX8_about 19 = .ok (.iconst 2, 1) := by decide +kernel
theorem dX8_about_20 : decode cX8_about 20 = .ok (.invokestatic 117, 3) := by decide +kernel
theorem dX8_about_23 : decode cX8_about 23 = .ok (.ifCond .eq 12, 3) := by decide +kernel
theorem dX8_about_26 : decode cX8_about 26 = .ok (.aload_n 0, 1) := by decide +kernel
theorem dX8_about_27 : decode cX8_about 27 = .ok (.iload_n 1, 1) := by decide +kernel
theorem dX8_about_28 : decode cX8_about 28 = .ok (.iload_n 2, 1) := by decide +kernel
theorem dX8_about_29 : decode cX8_about 29 = .ok (.invokevirtual 131, 3) := by decide +kernel
theorem dX8_about_32 : decode cX8_about 32 = .ok (.goto 5, 3) := by decide +kernel
theorem dX8_about_35 : decode cX8_about 35 = .ok (.bipush (-102), 2) := by decide +kernel
theorem dX8_about_37 : decode cX8_about 37 = .ok (.ireturn, 1) := by decide +kernel
theorem dX8_as_0 : decode cX8_as 0 = .ok (.iload_n 1, 1) := by decide +kernel
theorem dX8_as_1 : decode cX8_as 1 = .ok (.iconst 0, 1) := by decide +kernel
theorem dX8_as_2 : decode cX8_as 2 = .ok (.aload_n 0, 1) := by decide +kernel
theorem dX8_as_3 : decode cX8_as 3 = .ok (.getfield 108, 3) := by decide +kernel
theorem dX8_as_6 : decode cX8_as 6 = .ok (.iconst 1, 1) := by decide +kernel
theorem dX8_as_7 : decode cX8_as 7 = .ok (.isub, 1) := by decide +kernel
theorem dX8_as_8 : decode cX8_as 8 = .ok (.invokestatic 117, 3) := by decide +kernel
theorem dX8_as_11 : decode cX8_as 11 = .ok (.ifCond .ne 6, 3) := by decide +kernel
theorem dX8_as_14 : decode cX8_as 14 = .ok (.bipush (-101), 2) := by decide +kernel
theorem dX8_as_16 : decode cX8_as 16 = .ok (.ireturn, 1) := by decide +kernel
theorem dX8_as_17 : decode cX8_as 17 = .ok (.iload_n 2, 1) := by decide +kernel
theorem dX8_as_18 : decode cX8_as 18 = .ok (.iconst 0, 1) := by decide +kernel
theorem dX8_as_19 : decode cX8_as 19 = .ok (.iconst 4, 1) := by decide +kernel
theorem dX8_as_20 : decode cX8_as 20 = .ok (.invokestatic 117, 3) := by decide +kernel
theorem dX8_as_23 : decode cX8_as 23 = .ok (.ifCond .ne 6, 3) := by decide +kernel
theorem dX8_as_26 : decode cX8_as 26 = .ok (.bipush (-102), 2) := by decide +kernel
theorem dX8_as_28 : decode cX8_as 28 = .ok (.ireturn, 1) := by decide +kernel
theorem dX8_as_29 : decode cX8_as 29 = .ok (.aload_n 0, 1) := by decide +kernel
theorem dX8_as_30 : decode cX8_as 30 = .ok (.getfield 19, 3) := by decide +kernel
theorem dX8_as_33 : decode cX8_as 33 = .ok (.iload_n 1, 1) := by decide +kernel
theorem dX8_as_34 : decode cX8_as 34 = .ok (.iaload, 1) := by decide +kernel
theorem dX8_as_35 : decode cX8_as 35 = .ok (.istore_n 3, 1) := by decide +kernel
theorem dX8_as_36 : decode cX8_as 36 = .ok (.iload_n 2, 1) := by decide +kernel
theorem dX8_as_37 : decode cX8_as 37 = .ok (.ifCond .eq 18, 3) := by decide +kernel
theorem dX8_as_40 : decode cX8_as 40 = .ok (.iload_n 3, 1) := by decide +kernel
theorem dX8_as_41 : decode cX8_as 41 = .ok (.iload_n 2, 1) := by decide +kernel
theorem dX8_as_42 : decode cX8_as 42 = .ok (.if_icmp .eq 13, 3) := by decide +kernel
theorem dX8_as_45 : decode cX8_as 45 = .ok (.iload_n 2, 1) := by decide +kernel
theorem dX8_as_46 : decode cX8_as 46 = .ok (.iconst 1, 1) := by decide +kernel
theorem dX8_as_47 : decode cX8_as 47 = .ok (.if_icmp .ne 12, 3) := by decide +kernel
theorem dX8_as_50 : decode cX8_as 50 = .ok (.iload_n 3, 1) := by decide +kernel
theorem dX8_as_51 : decode cX8_as 51 = .ok (.iconst 4, 1) := by decide +kernel
theorem dX8_as_52 : decode cX8_as 52 = .ok (.if_icmp .ne 7, 3) := by decide +kernel
theorem dX8_as_55 : decode cX8_as 55 = .ok (.iload_n 1, 1) := by decide +kernel
theorem dX8_as_56 : decode cX8_as 56 = .ok (.goto 4, 3) := by decide +kernel
theorem dX8_as_59 : decode cX8_as 59 = .ok (.iconst (-1), 1) := by decide +kernel
theorem dX8_as_60 : decode cX8_as 60 = .ok (.ireturn, 1) := by decide +kernel
theorem dX8_besides_0 : decode cX8_besides 0 = .ok (.iload_n 1, 1) := by decide +kernel
theorem dX8_besides_1 : decode cX8_besides 1 = .ok (.iload_n 2, 1) := by decide +kernel
theorem dX8_besides_2 : decode cX8_besides 2 = .ok (.iadd, 1) := by decide +kernel
theorem dX8_besides_3 : decode cX8_besides 3 = .ok (.istore_n 3, 1) := by decide +kernel
theorem dX8_besides_4 : decode cX8_besides 4 = .ok (.aload_n 0, 1) := by decide +kernel
theorem dX8_besides_5 : decode cX8_besides 5 = .ok (.getfield 102, 3) := by decide +kernel
theorem dX8_besides_8 : decode cX8_besides 8 = .ok (.ifCond .eq 17, 3) := by decide +kernel
theorem dX8_besides_11 : decode cX8_besides 11 = .ok (.iload_n 3, 1) := by decide +kernel
theorem dX8_besides_12 : decode cX8_besides 12 = .ok (.aload_n 0, 1) := by decide +kernel
theorem dX8_besides_13 : decode cX8_besides 13 = .ok (.getfield 135, 3) := by decide +kernel
theorem dX8_besides_16 : decode cX8_besides 16 = .ok (.iadd, 1) := by decide +kernel
theorem dX8_besides_17 : decode cX8_besides 17 = .ok (.aload_n 0, 1) := by decide +kernel
theorem dX8_besides_18 : decode cX8_besides 18 = .ok (.getfield 135, 3) := by decide +kernel
theorem dX8_besides_21 : decode cX8_besides 21 = .ok (.irem, 1) := by decide +kernel
theorem dX8_besides_22 : decode cX8_besides 22 = .ok (.goto 22, 3) := by decide +kernel
theorem dX8_besides_25 : decode cX8_besides 25 = .ok (.iload_n 3, 1) := by decide +kernel
theorem dX8_besides_26 : decode cX8_besides 26 = .ok (.iconst 0, 1) := by decide +kernel
theorem dX8_besides_27 : decode cX8_besides 27 = .ok (.aload_n 0, 1) := by decide +kernel
theorem dX8_besides_28 : decode cX8_besides 28 = .ok (.getfield 135, 3) := by decide +kernel
theorem dX8_besides_31 : decode cX8_besides 31 = .ok (.iconst 1, 1) := by decide +kernel
theorem dX8_besides_32 : decode cX8_besides 32 = .ok (.isub, 1) := by decide +kernel
theorem dX8_besides_33 : decode cX8_besides 33 = .ok (.invokestatic 117, 3) := by decide +kernel
theorem dX8_besides_36 : decode cX8_besides 36 = .ok (.ifCond .eq 7, 3) := by decide +kernel
theorem dX8_besides_39 : decode cX8_besides 39 = .ok (.iload_n 3, 1) := by decide +kernel
theorem dX8_besides_40 : decode cX8_besides 40 = .ok (.goto 4, 3) := by decide +kernel
theorem dX8_besides_43 : decode cX8_besides 43 = .ok (.iconst (-1), 1) := by decide +kernel
theorem dX8_besides_44 : decode cX8_besides 44 = .ok (.ireturn, 1) := by decide +kernel
theorem dX8_colour_0 : decode cX8_colour 0 = .ok (.iload_n 0, 1) := by decide +kernel
theorem dX8_colour_1 : decode cX8_colour 1 = .ok (.iconst 1, 1) := by decide +kernel
theorem dX8_colour_2 : decode cX8_colour 2 = .ok (.if_icmp .eq 8, 3) := by decide +kernel
theorem dX8_colour_5 : decode cX8_colour 5 = .ok (.iload_n 0, 1) := by decide +kernel
theorem dX8_colour_6 : decode cX8_colour 6 = .ok (.iconst 4, 1) := by decide +kernel
theorem dX8_colour_7 : decode cX8_colour 7 = .ok (.if_icmp .ne 7, 3) := by decide +kernel
theorem dX8_colour_10 : decode cX8_colour 10 = .ok (.iconst 1, 1) := by decide +kernel
theorem dX8_colour_11 : decode cX8_colour 11 = .ok (.goto 13, 3) := by decide +kernel
theorem dX8_colour_14 : decode cX8_colour 14 = .ok (.iload_n 0, 1) := by decide +kernel
theorem dX8_colour_15 : decode cX8_colour 15 = .ok (.iconst 2, 1) := by decide +kernel
theorem dX8_colour_16 : decode cX8_colour 16 = .ok (.if_icmp .ne 7, 3) := by decide +kernel
theorem dX8_colour_19 : decode cX8_colour 19 = .ok (.iconst 2, 1) := by decide +kernel
theorem dX8_colour_20 : decode cX8_colour 20 = .ok (.goto 4, 3) := by decide +kernel
theorem dX8_colour_23 : decode cX8_colour 23 = .ok (.iconst 0, 1) := by decide +kernel
theorem dX8_colour_24 : decode cX8_colour 24 = .ok (.ireturn, 1) := by decide +kernel
theorem dX8_mayOver_0 : decode cX8_mayOver 0 = .ok (.iload_n 2, 1) := by decide +kernel
theorem dX8_mayOver_1 : decode cX8_mayOver 1 = .ok (.ifCond .le 32, 3) := by decide +kernel
theorem dX8_mayOver_4 : decode cX8_mayOver 4 = .ok (.aload_n 0, 1) := by decide +kernel
theorem dX8_mayOver_5 : decode cX8_mayOver 5 = .ok (.getfield 96, 3) := by decide +kernel
theorem dX8_mayOver_8 : decode cX8_mayOver 8 = .ok (.ifCond .ne 21, 3) := by decide +kernel
theorem dX8_mayOver_11 : decode cX8_mayOver 11 = .ok (.iload_n 2, 1) := by decide +kernel
theorem dX8_mayOver_12 : decode cX8_mayOver 12 = .ok (.invokestatic 138, 3) := by decide +kernel
theorem dX8_mayOver_15 : decode cX8_mayOver 15 = .ok (.ifCond .le 18, 3) := by decide +kernel
theorem dX8_mayOver_18 : decode cX8_mayOver 18 = .ok (.iload_n 2, 1) := by decide +kernel
theorem dX8_mayOver_19 : decode cX8_mayOver 19 = .ok (.invokestatic 138, 3) := by decide +kernel
theorem dX8_mayOver_22 : decode cX8_mayOver 22 = .ok (.iload_n 1, 1) := by decide +kernel
theorem dX8_mayOver_23 : decode cX8_mayOver 23 = .ok (.invokestatic 138, 3) := by decide +kernel
theorem dX8_mayOver_26 : decode cX8_mayOver 26 = .ok (.if_icmp .eq 7, 3) := by decide +kernel
theorem dX8_mayOver_29 : decode cX8_mayOver 29 = .ok (.iconst 1, 1) := by decide +kernel
theorem dX8_mayOver_30 : decode cX8_mayOver 30 = .ok (.goto 4, 3) := by decide +kernel
theorem dX8_mayOver_33 : decode cX8_mayOver 33 = .ok (.iconst 0, 1) := by decide +kernel
theorem dX8_mayOver_34 : decode cX8_mayOver 34 = .ok (.ireturn, 1) := by decide +kernel
theorem dX8_mayWay_0 : decode cX8_mayWay 0 = .ok (.aload_n 0, 1) := by decide +kernel
theorem dX8_mayWay_1 : decode cX8_mayWay 1 = .ok (.getfield 35, 3) := by decide +kernel
theorem dX8_mayWay_4 : decode cX8_mayWay 4 = .ok (.iload_n 1, 1) := by decide +kernel
theorem dX8_mayWay_5 : decode cX8_mayWay 5 = .ok (.iaload, 1) := by decide +kernel
theorem dX8_mayWay_6 : decode cX8_mayWay 6 = .ok (.istore 4, 2) := by decide +kernel
theorem dX8_mayWay_8 : decode cX8_mayWay 8 = .ok (.aload_n 0, 1) := by decide +kernel
theorem dX8_mayWay_9 : decode cX8_mayWay 9 = .ok (.iload_n 1, 1) := by decide +kernel
theorem dX8_mayWay_10 : decode cX8_mayWay 10 = .ok (.iload_n 3, 1) := by decide +kernel
theorem dX8_mayWay_11 : decode cX8_mayWay 11 = .ok (.invokevirtual 141, 3) := by decide +kernel
theorem dX8_mayWay_14 : decode cX8_mayWay 14 = .ok (.istore 5, 2) := by decide +kernel
theorem dX8_mayWay_16 : decode cX8_mayWay 16 = .ok (.iload 5, 2) := by decide +kernel
theorem dX8_mayWay_18 : decode cX8_mayWay 18 = .ok (.iconst (-1), 1) := by decide +kernel
theorem dX8_mayWay_19 : decode cX8_mayWay 19 = .ok (.if_icmp .eq 9, 3) := by decide +kernel
theorem dX8_mayWay_22 : decode cX8_mayWay 22 = .ok (.iload 5, 2) := by decide +kernel
theorem dX8_mayWay_24 : decode cX8_mayWay 24 = .ok (.iload_n 2, 1) := by decide +kernel
theorem dX8_mayWay_25 : decode cX8_mayWay 25 = .ok (.if_icmp .ne 24, 3) := by decide +kernel
theorem dX8_mayWay_28 : decode cX8_mayWay 28 = .ok (.iload 5, 2) := by decide +kernel
theorem dX8_mayWay_30 : decode cX8_mayWay 30 = .ok (.iload_n 2, 1) := by decide +kernel
theorem dX8_mayWay_31 : decode cX8_mayWay 31 = .ok (.if_icmp .ne 16, 3) := by decide +kernel
theorem dX8_mayWay_34 : decode cX8_mayWay 34 = .ok (.aload_n 0, 1) := by decide +kernel
theorem dX8_mayWay_35 : decode cX8_mayWay 35 = .ok (.getfield 35, 3) := by decide +kernel
theorem dX8_mayWay_38 : decode cX8_mayWay 38 = .ok (.iload_n 2, 1) := by decide +kernel
theorem dX8_mayWay_39 : decode cX8_mayWay 39 = .ok (.iaload, 1) := by decide +kernel
theorem dX8_mayWay_40 : decode cX8_mayWay 40 = .ok (.ifCond .ne 7, 3) := by decide +kernel
theorem dX8_mayWay_43 : decode cX8_mayWay 43 = .ok (.iconst 1, 1) := by decide +kernel
theorem dX8_mayWay_44 : decode cX8_mayWay 44 = .ok (.goto 4, 3) := by decide +kernel
theorem dX8_mayWay_47 : decode cX8_mayWay 47 = .ok (.iconst 0, 1) := by decide +kernel
theorem dX8_mayWay_48 : decode cX8_mayWay 48 = .ok (.ireturn, 1) := by decide +kernel
theorem dX8_mayWay_49 : decode cX8_mayWay 49 = .ok (.iload 4, 2) := by decide +kernel
theorem dX8_mayWay_51 : decode cX8_mayWay 51 = .ok (.iconst 4, 1) := by decide +kernel
theorem dX8_mayWay_52 : decode cX8_mayWay 52 = .ok (.if_icmp .eq 19, 3) := by decide +kernel
theorem dX8_mayWay_55 : decode cX8_mayWay 55 = .ok (.aload_n 0, 1) := by decide +kernel
theorem dX8_mayWay_56 : decode cX8_mayWay 56 = .ok (.iload 4, 2) := by decide +kernel
theorem dX8_mayWay_58 : decode cX8_mayWay 58 = .ok (.aload_n 0, 1) := by decide +kernel
theorem dX8_mayWay_59 : decode cX8_mayWay 59 = .ok (.getfield 35, 3) := by decide +kernel
theorem dX8_mayWay_62 : decode cX8_mayWay 62 = .ok (.iload 5, 2) := by decide +kernel
theorem dX8_mayWay_64 : decode cX8_mayWay 64 = .ok (.iaload, 1) := by decide +kernel
theorem dX8_mayWay_65 : decode cX8_mayWay 65 = .ok (.invokevirtual 144, 3) := by decide +kernel
theorem dX8_mayWay_68 : decode cX8_mayWay 68 = .ok (.ifCond .ne 5, 3) := by decide +kernel
theorem dX8_mayWay_71 : decode cX8_mayWay 71 = .ok (.iconst 0, 1) := by decide +kernel
theorem dX8_mayWay_72 : decode cX8_mayWay 72 = .ok (.ireturn, 1) := by decide +kernel
theorem dX8_mayWay_73 : decode cX8_mayWay 73 = .ok (.aload_n 0, 1) := by decide +kernel
theorem dX8_mayWay_74 : decode cX8_mayWay 74 = .ok (.iload 5, 2) := by decide +kernel
theorem dX8_mayWay_76 : decode cX8_mayWay 76 = .ok (.iload_n 3, 1) := by decide +kernel
theorem dX8_mayWay_77 : decode cX8_mayWay 77 = .ok (.invokevirtual 141, 3) := by decide +kernel
theorem dX8_mayWay_80 : decode cX8_mayWay 80 = .ok (.istore 6, 2) := by decide +kernel
theorem dX8_mayWay_82 : decode cX8_mayWay 82 = .ok (.iload 6, 2) := by decide +kernel
theorem dX8_mayWay_84 : decode cX8_mayWay 84 = .ok (.iconst (-1), 1) := by decide +kernel
theorem dX8_mayWay_85 : decode cX8_mayWay 85 = .ok (.if_icmp .eq 9, 3) := by decide +kernel
theorem dX8_mayWay_88 : decode cX8_mayWay 88 = .ok (.iload 6, 2) := by decide +kernel
theorem dX8_mayWay_90 : decode cX8_mayWay 90 = .ok (.iload_n 2, 1) := by decide +kernel
theorem dX8_mayWay_91 : decode cX8_mayWay 91 = .ok (.if_icmp .ne 24, 3) := by decide +kernel
theorem dX8_mayWay_94 : decode cX8_mayWay 94 = .ok (.iload 6, 2) := by decide +kernel
theorem dX8_mayWay_96 : decode cX8_mayWay 96 = .ok (.iload_n 2, 1) := by decide +kernel
theorem dX8_mayWay_97 : decode cX8_mayWay 97 = .ok (.if_icmp .ne 16, 3) := by decide +kernel
theorem dX8_mayWay_100 : decode cX8_mayWay 100 = .ok (.aload_n 0, 1) := by decide +kernel
theorem dX8_mayWay_101 : decode cX8_mayWay 101 = .ok (.getfield 35, 3) := by decide +kernel
theorem dX8_mayWay_104 : decode cX8_mayWay 104 = .ok (.iload_n 2, 1) := by decide +kernel
theorem dX8_mayWay_105 : decode cX8_mayWay 105 = .ok (.iaload, 1) := by decide +kernel
theorem dX8_mayWay_106 : decode cX8_mayWay 106 = .ok (.ifCond .ne 7, 3) := by decide +kernel
theorem dX8_mayWay_109 : decode cX8_mayWay 109 = .ok (.iconst 1, 1) := by decide +kernel
theorem dX8_mayWay_110 : decode cX8_mayWay 110 = .ok (.goto 4, 3) := by decide +kernel
theorem dX8_mayWay_113 : decode cX8_mayWay 113 = .ok (.iconst 0, 1) := by decide +kernel
theorem dX8_mayWay_114 : decode cX8_mayWay 114 = .ok (.ireturn, 1) := by decide +kernel
theorem dX8_mayWay_115 : decode cX8_mayWay 115 = .ok (.aload_n 0, 1) := by decide +kernel
theorem dX8_mayWay_116 : decode cX8_mayWay 116 = .ok (.iload 6, 2) := by decide +kernel
theorem dX8_mayWay_118 : decode cX8_mayWay 118 = .ok (.iload_n 3, 1) := by decide +kernel
theorem dX8_mayWay_119 : decode cX8_mayWay 119 = .ok (.invokevirtual 141, 3) := by decide +kernel
theorem dX8_mayWay_122 : decode cX8_mayWay 122 = .ok (.istore 7, 2) := by decide +kernel
theorem dX8_mayWay_124 : decode cX8_mayWay 124 = .ok (.aload_n 0, 1) := by decide +kernel
theorem dX8_mayWay_125 : decode cX8_mayWay 125 = .ok (.getfield 105, 3) := by decide +kernel
theorem dX8_mayWay_128 : decode cX8_mayWay 128 = .ok (.ifCond .eq 38, 3) := by decide +kernel
theorem dX8_mayWay_131 : decode cX8_mayWay 131 = .ok (.aload_n 0, 1) := by decide +kernel
theorem dX8_mayWay_132 : decode cX8_mayWay 132 = .ok (.iload 4, 2) := by decide +kernel
theorem dX8_mayWay_134 : decode cX8_mayWay 134 = .ok (.aload_n 0, 1) := by decide +kernel
theorem dX8_mayWay_135 : decode cX8_mayWay 135 = .ok (.getfield 35, 3) := by decide +kernel
theorem dX8_mayWay_138 : decode cX8_mayWay 138 = .ok (.iload 6, 2) := by decide +kernel
theorem dX8_mayWay_140 : decode cX8_mayWay 140 = .ok (.iaload, 1) := by decide +kernel
theorem dX8_mayWay_141 : decode cX8_mayWay 141 = .ok (.invokevirtual 144, 3) := by decide +kernel
theorem dX8_mayWay_144 : decode cX8_mayWay 144 = .ok (.ifCond .eq 22, 3) := by decide +kernel
theorem dX8_mayWay_147 : decode cX8_mayWay 147 = .ok (.iload 7, 2) := by decide +kernel
theorem dX8_mayWay_149 : decode cX8_mayWay 149 = .ok (.iload_n 2, 1) := by decide +kernel
theorem dX8_mayWay_150 : decode cX8_mayWay 150 = .ok (.if_icmp .ne 16, 3) := by decide +kernel
theorem dX8_mayWay_153 : decode cX8_mayWay 153 = .ok (.aload_n 0, 1) := by decide +kernel
theorem dX8_mayWay_154 : decode cX8_mayWay 154 = .ok (.getfield 35, 3) := by decide +kernel
theorem dX8_mayWay_157 : decode cX8_mayWay 157 = .ok (.iload_n 2, 1) := by decide +kernel
theorem dX8_mayWay_158 : decode cX8_mayWay 158 = .ok (.iaload, 1) := by decide +kernel
theorem dX8_mayWay_159 : decode cX8_mayWay 159 = .ok (.ifCond .ne 7, 3) := by decide +kernel
theorem dX8_mayWay_162 : decode cX8_mayWay 162 = .ok (.iconst 1, 1) := by decide +kernel
theorem dX8_mayWay_163 : decode cX8_mayWay 163 = .ok (.goto 4, 3) := by decide +kernel
theorem dX8_mayWay_166 : decode cX8_mayWay 166 = .ok (.iconst 0, 1) := by decide +kernel
theorem dX8_mayWay_167 : decode cX8_mayWay 167 = .ok (.ireturn, 1) := by decide +kernel
theorem dX8_mayMove_0 : decode cX8_mayMove 0 = .ok (.aload_n 0, 1) := by decide +kernel
theorem dX8_mayMove_1 : decode cX8_mayMove 1 = .ok (.getfield 35, 3) := by decide +kernel
theorem dX8_mayMove_4 : decode cX8_mayMove 4 = .ok (.iload_n 1, 1) := by decide +kernel
theorem dX8_mayMove_5 : decode cX8_mayMove 5 = .ok (.iaload, 1) := by decide +kernel
theorem dX8_mayMove_6 : decode cX8_mayMove 6 = .ok (.istore_n 3, 1) := by decide +kernel
theorem dX8_mayMove_7 : decode cX8_mayMove 7 = .ok (.iload_n 3, 1) := by decide +kernel
theorem dX8_mayMove_8 : decode cX8_mayMove 8 = .ok (.ifCond .eq 13, 3) := by decide +kernel
theorem dX8_mayMove_11 : decode cX8_mayMove 11 = .ok (.iload_n 3, 1) := by decide +kernel
theorem dX8_mayMove_12 : decode cX8_mayMove 12 = .ok (.iconst 3, 1) := by decide +kernel
theorem dX8_mayMove_13 : decode cX8_mayMove 13 = .ok (.if_icmp .eq 8, 3) := by decide +kernel
theorem dX8_mayMove_16 : decode cX8_mayMove 16 = .ok (.iload_n 1, 1) := by decide +kernel
theorem dX8_mayMove_17 : decode cX8_mayMove 17 = .ok (.iload_n 2, 1) := by decide +kernel
theorem dX8_mayMove_18 : decode cX8_mayMove 18 = .ok (.if_icmp .ne 5, 3) := by decide +kernel
theorem dX8_mayMove_21 : decode cX8_mayMove 21 = .ok (.iconst 0, 1) := by decide +kernel
theorem dX8_mayMove_22 : decode cX8_mayMove 22 = .ok (.ireturn, 1) := by decide +kernel
theorem dX8_mayMove_23 : decode cX8_mayMove 23 = .ok (.iload_n 3, 1) := by decide +kernel
theorem dX8_mayMove_24 : decode cX8_mayMove 24 = .ok (.invokestatic 138, 3) := by decide +kernel
theorem dX8_mayMove_27 : decode cX8_mayMove 27 = .ok (.iconst 1, 1) := by decide +kernel
theorem dX8_mayMove_28 : decode cX8_mayMove 28 = .ok (.if_icmp .ne 7, 3) := by decide +kernel
theorem dX8_mayMove_31 : decode cX8_mayMove 31 = .ok (.iconst 1, 1) := by decide +kernel
theorem dX8_mayMove_32 : decode cX8_mayMove 32 = .ok (.goto 4, 3) := by decide +kernel
theorem dX8_mayMove_35 : decode cX8_mayMove 35 = .ok (.iconst (-1), 1) := by decide +kernel
theorem dX8_mayMove_36 : decode cX8_mayMove 36 = .ok (.istore 4, 2) := by decide +kernel
theorem dX8_mayMove_38 : decode cX8_mayMove 38 = .ok (.aload_n 0, 1) := by decide +kernel
theorem dX8_mayMove_39 : decode cX8_mayMove 39 = .ok (.iload_n 1, 1) := by decide +kernel
theorem dX8_mayMove_40 : decode cX8_mayMove 40 = .ok (.iload_n 2, 1) := by decide +kernel
theorem dX8_mayMove_41 : decode cX8_mayMove 41 = .ok (.iload 4, 2) := by decide +kernel
theorem dX8_mayMove_43 : decode cX8_mayMove 43 = .ok (.invokevirtual 148, 3) := by decide +kernel
theorem dX8_mayMove_46 : decode cX8_mayMove 46 = .ok (.ifCond .ne 22, 3) := by decide +kernel
theorem dX8_mayMove_49 : decode cX8_mayMove 49 = .ok (.aload_n 0, 1) := by decide +kernel
theorem dX8_mayMove_50 : decode cX8_mayMove 50 = .ok (.getfield 99, 3) := by decide +kernel
theorem dX8_mayMove_53 : decode cX8_mayMove 53 = .ok (.ifCond .eq 19, 3) := by decide +kernel
theorem dX8_mayMove_56 : decode cX8_mayMove 56 = .ok (.aload_n 0, 1) := by decide +kernel
theorem dX8_mayMove_57 : decode cX8_mayMove 57 = .ok (.iload_n 1, 1) := by decide +kernel
theorem dX8_mayMove_58 : decode cX8_mayMove 58 = .ok (.iload_n 2, 1) := by decide +kernel
theorem dX8_mayMove_59 : decode cX8_mayMove 59 = .ok (.iload 4, 2) := by decide +kernel
theorem dX8_mayMove_61 : decode cX8_mayMove 61 = .ok (.ineg, 1) := by decide +kernel
theorem dX8_mayMove_62 : decode cX8_mayMove 62 = .ok (.invokevirtual 148, 3) := by decide +kernel
theorem dX8_mayMove_65 : decode cX8_mayMove 65 = .ok (.ifCond .eq 7, 3) := by decide +kernel
theorem dX8_mayMove_68 : decode cX8_mayMove 68 = .ok (.iconst 1, 1) := by decide +kernel
theorem dX8_mayMove_69 : decode cX8_mayMove 69 = .ok (.goto 4, 3) := by decide +kernel
theorem dX8_mayMove_72 : decode cX8_mayMove 72 = .ok (.iconst 0, 1) := by decide +kernel
theorem dX8_mayMove_73 : decode cX8_mayMove 73 = .ok (.ireturn, 1) := by decide +kernel
theorem dX8_layNow_0 : decode cX8_layNow 0 = .ok (.aload_n 0, 1) := by decide +kernel
theorem dX8_layNow_1 : decode cX8_layNow 1 = .ok (.aload_n 0, 1) := by decide +kernel
theorem dX8_layNow_2 : decode cX8_layNow 2 = .ok (.getfield 93, 3) := by decide +kernel
theorem dX8_layNow_5 : decode cX8_layNow 5 = .ok (.putfield 135, 3) := by decide +kernel
theorem dX8_layNow_8 : decode cX8_layNow 8 = .ok (.iconst 0, 1) := by decide +kernel
theorem dX8_layNow_9 : decode cX8_layNow 9 = .ok (.istore_n 1, 1) := by decide +kernel
theorem dX8_layNow_10 : decode cX8_layNow 10 = .ok (.iload_n 1, 1) := by decide +kernel
theorem dX8_layNow_11 : decode cX8_layNow 11 = .ok (.aload_n 0, 1) := by decide +kernel
theorem dX8_layNow_12 : decode cX8_layNow 12 = .ok (.getfield 93, 3) := by decide +kernel
theorem dX8_layNow_15 : decode cX8_layNow 15 = .ok (.if_icmp .ge 21, 3) := by decide +kernel
theorem dX8_layNow_18 : decode cX8_layNow 18 = .ok (.aload_n 0, 1) := by decide +kernel
theorem dX8_layNow_19 : decode cX8_layNow 19 = .ok (.getfield 35, 3) := by decide +kernel
theorem dX8_layNow_22 : decode cX8_layNow 22 = .ok (.iload_n 1, 1) := by decide +kernel
theorem dX8_layNow_23 : decode cX8_layNow 23 = .ok (.aload_n 0, 1) := by decide +kernel
theorem dX8_layNow_24 : decode cX8_layNow 24 = .ok (.getfield 13, 3) := by decide +kernel
theorem dX8_layNow_27 : decode cX8_layNow 27 = .ok (.iload_n 1, 1) := by decide +kernel
theorem dX8_layNow_28 : decode cX8_layNow 28 = .ok (.iaload, 1) := by decide +kernel
theorem dX8_layNow_29 : decode cX8_layNow 29 = .ok (.iastore, 1) := by decide +kernel
theorem dX8_layNow_30 : decode cX8_layNow 30 = .ok (.iinc 1 1, 3) := by decide +kernel
theorem dX8_layNow_33 : decode cX8_layNow 33 = .ok (.goto (-23), 3) := by decide +kernel
theorem dX8_layNow_36 : decode cX8_layNow 36 = .ok (.return_, 1) := by decide +kernel
theorem dX8_may_0 : decode cX8_may 0 = .ok (.aload_n 0, 1) := by decide +kernel
theorem dX8_may_1 : decode cX8_may 1 = .ok (.iload_n 1, 1) := by decide +kernel
theorem dX8_may_2 : decode cX8_may 2 = .ok (.invokevirtual 121, 3) := by decide +kernel
theorem dX8_may_5 : decode cX8_may 5 = .ok (.ifCond .eq 11, 3) := by decide +kernel
theorem dX8_may_8 : decode cX8_may 8 = .ok (.aload_n 0, 1) := by decide +kernel
theorem dX8_may_9 : decode cX8_may 9 = .ok (.iload_n 2, 1) := by decide +kernel
theorem dX8_may_10 : decode cX8_may 10 = .ok (.invokevirtual 121, 3) := by decide +kernel
theorem dX8_may_13 : decode cX8_may 13 = .ok (.ifCond .ne 6, 3) := by decide +kernel
theorem dX8_may_16 : decode cX8_may 16 = .ok (.bipush (-101), 2) := by decide +kernel
theorem dX8_may_18 : decode cX8_may 18 = .ok (.ireturn, 1) := by decide +kernel
theorem dX8_may_19 : decode cX8_may 19 = .ok (.aload_n 0, 1) := by decide +kernel
theorem dX8_may_20 : decode cX8_may 20 = .ok (.invokevirtual 151, 3) := by decide +kernel
theorem dX8_may_23 : decode cX8_may 23 = .ok (.aload_n 0, 1) := by decide +kernel
theorem dX8_may_24 : decode cX8_may 24 = .ok (.iload_n 1, 1) := by decide +kernel
theorem dX8_may_25 : decode cX8_may 25 = .ok (.iload_n 2, 1) := by decide +kernel
theorem dX8_may_26 : decode cX8_may 26 = .ok (.invokevirtual 154, 3) := by decide +kernel
theorem dX8_may_29 : decode cX8_may 29 = .ok (.ifCond .eq 7, 3) := by decide +kernel
theorem dX8_may_32 : decode cX8_may 32 = .ok (.iconst 1, 1) := by decide +kernel
theorem dX8_may_33 : decode cX8_may 33 = .ok (.goto 4, 3) := by decide +kernel
theorem dX8_may_36 : decode cX8_may 36 = .ok (.iconst 0, 1) := by decide +kernel
theorem dX8_may_37 : decode cX8_may 37 = .ok (.ireturn, 1) := by decide +kernel
theorem dX8_moveMany_0 : decode cX8_moveMany 0 = .ok (.iconst 0, 1) := by decide +kernel
theorem dX8_moveMany_1 : decode cX8_moveMany 1 = .ok (.istore_n 1, 1) := by decide +kernel
theorem dX8_moveMany_2 : decode cX8_moveMany 2 = .ok (.iconst 0, 1) := by decide +kernel
theorem dX8_moveMany_3 : decode cX8_moveMany 3 = .ok (.istore_n 2, 1) := by decide +kernel
theorem dX8_moveMany_4 : decode cX8_moveMany 4 = .ok (.iload_n 2, 1) := by decide +kernel
theorem dX8_moveMany_5 : decode cX8_moveMany 5 = .ok (.aload_n 0, 1) := by decide +kernel
theorem dX8_moveMany_6 : decode cX8_moveMany 6 = .ok (.getfield 135, 3) := by decide +kernel
theorem dX8_moveMany_9 : decode cX8_moveMany 9 = .ok (.if_icmp .ge 42, 3) := by decide +kernel
theorem dX8_moveMany_12 : decode cX8_moveMany 12 = .ok (.iconst 0, 1) := by decide +kernel
theorem dX8_moveMany_13 : decode cX8_moveMany 13 = .ok (.istore_n 3, 1) := by decide +kernel
theorem dX8_moveMany_14 : decode cX8_moveMany 14 = .ok (.iload_n 3, 1) := by decide +kernel
theorem dX8_moveMany_15 : decode cX8_moveMany 15 = .ok (.aload_n 0, 1) := by decide +kernel
theorem dX8_moveMany_16 : decode cX8_moveMany 16 = .ok (.getfield 135, 3) := by decide +kernel
theorem dX8_moveMany_19 : decode cX8_moveMany 19 = .ok (.if_icmp .ge 26, 3) := by decide +kernel
theorem dX8_moveMany_22 : decode cX8_moveMany 22 = .ok (.iload_n 1, 1) := by decide +kernel
theorem dX8_moveMany_23 : decode cX8_moveMany 23 = .ok (.aload_n 0, 1) := by decide +kernel
theorem dX8_moveMany_24 : decode cX8_moveMany 24 = .ok (.iload_n 2, 1) := by decide +kernel
theorem dX8_moveMany_25 : decode cX8_moveMany 25 = .ok (.iload_n 3, 1) := by decide +kernel
theorem dX8_moveMany_26 : decode cX8_moveMany 26 = .ok (.invokevirtual 154, 3) := by decide +kernel
theorem dX8_moveMany_29 : decode cX8_moveMany 29 = .ok (.ifCond .eq 7, 3) := by decide +kernel
theorem dX8_moveMany_32 : decode cX8_moveMany 32 = .ok (.iconst 1, 1) := by decide +kernel
theorem dX8_moveMany_33 : decode cX8_moveMany 33 = .ok (.goto 4, 3) := by decide +kernel
theorem dX8_moveMany_36 : decode cX8_moveMany 36 = .ok (.iconst 0, 1) := by decide +kernel
theorem dX8_moveMany_37 : decode cX8_moveMany 37 = .ok (.iadd, 1) := by decide +kernel
theorem dX8_moveMany_38 : decode cX8_moveMany 38 = .ok (.istore_n 1, 1) := by decide +kernel
theorem dX8_moveMany_39 : decode cX8_moveMany 39 = .ok (.iinc 3 1, 3) := by decide +kernel
theorem dX8_moveMany_42 : decode cX8_moveMany 42 = .ok (.goto (-28), 3) := by decide +kernel
theorem dX8_moveMany_45 : decode cX8_moveMany 45 = .ok (.iinc 2 1, 3) := by decide +kernel
theorem dX8_moveMany_48 : decode cX8_moveMany 48 = .ok (.goto (-44), 3) := by decide +kernel
theorem dX8_moveMany_51 : decode cX8_moveMany 51 = .ok (.iload_n 1, 1) := by decide +kernel
theorem dX8_moveMany_52 : decode cX8_moveMany 52 = .ok (.ireturn, 1) := by decide +kernel
theorem dX8_moves_0 : decode cX8_moves 0 = .ok (.aload_n 0, 1) := by decide +kernel
theorem dX8_moves_1 : decode cX8_moves 1 = .ok (.invokevirtual 151, 3) := by decide +kernel
theorem dX8_moves_4 : decode cX8_moves 4 = .ok (.aload_n 0, 1) := by decide +kernel
theorem dX8_moves_5 : decode cX8_moves 5 = .ok (.invokevirtual 157, 3) := by decide +kernel
theorem dX8_moves_8 : decode cX8_moves 8 = .ok (.ireturn, 1) := by decide +kernel
theorem dX8_moveNow_0 : decode cX8_moveNow 0 = .ok (.aload_n 0, 1) := by decide +kernel
theorem dX8_moveNow_1 : decode cX8_moveNow 1 = .ok (.getfield 13, 3) := by decide +kernel
theorem dX8_moveNow_4 : decode cX8_moveNow 4 = .ok (.iload_n 2, 1) := by decide +kernel
theorem dX8_moveNow_5 : decode cX8_moveNow 5 = .ok (.aload_n 0, 1) := by decide +kernel
theorem dX8_moveNow_6 : decode cX8_moveNow 6 = .ok (.getfield 13, 3) := by decide +kernel
theorem dX8_moveNow_9 : decode cX8_moveNow 9 = .ok (.iload_n 1, 1) := by decide +kernel
theorem dX8_moveNow_10 : decode cX8_moveNow 10 = .ok (.iaload, 1) := by decide +kernel
theorem dX8_moveNow_11 : decode cX8_moveNow 11 = .ok (.iastore, 1) := by decide +kernel
theorem dX8_moveNow_12 : decode cX8_moveNow 12 = .ok (.aload_n 0, 1) := by decide +kernel
theorem dX8_moveNow_13 : decode cX8_moveNow 13 = .ok (.getfield 13, 3) := by decide +kernel
theorem dX8_moveNow_16 : decode cX8_moveNow 16 = .ok (.iload_n 1, 1) := by decide +kernel
theorem dX8_moveNow_17 : decode cX8_moveNow 17 = .ok (.iconst 0, 1) := by decide +kernel
theorem dX8_moveNow_18 : decode cX8_moveNow 18 = .ok (.iastore, 1) := by decide +kernel
theorem dX8_moveNow_19 : decode cX8_moveNow 19 = .ok (.aload_n 0, 1) := by decide +kernel
theorem dX8_moveNow_20 : decode cX8_moveNow 20 = .ok (.getfield 16, 3) := by decide +kernel
theorem dX8_moveNow_23 : decode cX8_moveNow 23 = .ok (.iload_n 2, 1) := by decide +kernel
theorem dX8_moveNow_24 : decode cX8_moveNow 24 = .ok (.aload_n 0, 1) := by decide +kernel
theorem dX8_moveNow_25 : decode cX8_moveNow 25 = .ok (.getfield 16, 3) := by decide +kernel
theorem dX8_moveNow_28 : decode cX8_moveNow 28 = .ok (.iload_n 1, 1) := by decide +kernel
theorem dX8_moveNow_29 : decode cX8_moveNow 29 = .ok (.iaload, 1) := by decide +kernel
theorem dX8_moveNow_30 : decode cX8_moveNow 30 = .ok (.iastore, 1) := by decide +kernel
theorem dX8_moveNow_31 : decode cX8_moveNow 31 = .ok (.aload_n 0, 1) := by decide +kernel
theorem dX8_moveNow_32 : decode cX8_moveNow 32 = .ok (.getfield 16, 3) := by decide +kernel
theorem dX8_moveNow_35 : decode cX8_moveNow 35 = .ok (.iload_n 1, 1) := by decide +kernel
theorem dX8_moveNow_36 : decode cX8_moveNow 36 = .ok (.iconst (-1), 1) := by decide +kernel
theorem dX8_moveNow_37 : decode cX8_moveNow 37 = .ok (.iastore, 1) := by decide +kernel
theorem dX8_moveNow_38 : decode cX8_moveNow 38 = .ok (.return_, 1) := by decide +kernel
theorem dX8_move_0 : decode cX8_move 0 = .ok (.aload_n 0, 1) := by decide +kernel
theorem dX8_move_1 : decode cX8_move 1 = .ok (.iload_n 1, 1) := by decide +kernel
theorem dX8_move_2 : decode cX8_move 2 = .ok (.invokevirtual 121, 3) := by decide +kernel
theorem dX8_move_5 : decode cX8_move 5 = .ok (.ifCond .eq 11, 3) := by decide +kernel
theorem dX8_move_8 : decode cX8_move 8 = .ok (.aload_n 0, 1) := by decide +kernel
theorem dX8_move_9 : decode cX8_move 9 = .ok (.iload_n 2, 1) := by decide +kernel
theorem dX8_move_10 : decode cX8_move 10 = .ok (.invokevirtual 121, 3) := by decide +kernel
theorem dX8_move_13 : decode cX8_move 13 = .ok (.ifCond .ne 6, 3) := by decide +kernel
theorem dX8_move_16 : decode cX8_move 16 = .ok (.bipush (-101), 2) := by decide +kernel
theorem dX8_move_18 : decode cX8_move 18 = .ok (.ireturn, 1) := by decide +kernel
theorem dX8_move_19 : decode cX8_move 19 = .ok (.aload_n 0, 1) := by decide +kernel
theorem dX8_move_20 : decode cX8_move 20 = .ok (.invokevirtual 151, 3) := by decide +kernel
theorem dX8_move_23 : decode cX8_move 23 = .ok (.aload_n 0, 1) := by decide +kernel
theorem dX8_move_24 : decode cX8_move 24 = .ok (.iload_n 1, 1) := by decide +kernel
theorem dX8_move_25 : decode cX8_move 25 = .ok (.iload_n 2, 1) := by decide +kernel
theorem dX8_move_26 : decode cX8_move 26 = .ok (.invokevirtual 154, 3) := by decide +kernel
theorem dX8_move_29 : decode cX8_move 29 = .ok (.ifCond .ne 6, 3) := by decide +kernel
theorem dX8_move_32 : decode cX8_move 32 = .ok (.bipush (-103), 2) := by decide +kernel
theorem dX8_move_34 : decode cX8_move 34 = .ok (.ireturn, 1) := by decide +kernel
theorem dX8_move_35 : decode cX8_move 35 = .ok (.aload_n 0, 1) := by decide +kernel
theorem dX8_move_36 : decode cX8_move 36 = .ok (.getfield 111, 3) := by decide +kernel
theorem dX8_move_39 : decode cX8_move 39 = .ok (.bipush 60, 2) := by decide +kernel
theorem dX8_move_41 : decode cX8_move 41 = .ok (.if_icmp .ne 6, 3) := by decide +kernel
theorem dX8_move_44 : decode cX8_move 44 = .ok (.bipush (-104), 2) := by decide +kernel
theorem dX8_move_46 : decode cX8_move 46 = .ok (.ireturn, 1) := by decide +kernel
theorem dX8_move_47 : decode cX8_move 47 = .ok (.aload_n 0, 1) := by decide +kernel
theorem dX8_move_48 : decode cX8_move 48 = .ok (.iload_n 1, 1) := by decide +kernel
theorem dX8_move_49 : decode cX8_move 49 = .ok (.iload_n 2, 1) := by decide +kernel
theorem dX8_move_50 : decode cX8_move 50 = .ok (.invokevirtual 161, 3) := by decide +kernel
theorem dX8_move_53 : decode cX8_move 53 = .ok (.aload_n 0, 1) := by decide +kernel
theorem dX8_move_54 : decode cX8_move 54 = .ok (.getfield 22, 3) := by decide +kernel
theorem dX8_move_57 : decode cX8_move 57 = .ok (.aload_n 0, 1) := by decide +kernel
theorem dX8_move_58 : decode cX8_move 58 = .ok (.getfield 111, 3) := by decide +kernel
theorem dX8_move_61 : decode cX8_move 61 = .ok (.iload_n 1, 1) := by decide +kernel
theorem dX8_move_62 : decode cX8_move 62 = .ok (.iastore, 1) := by decide +kernel
theorem dX8_move_63 : decode cX8_move 63 = .ok (.aload_n 0, 1) := by decide +kernel
theorem dX8_move_64 : decode cX8_move 64 = .ok (.getfield 25, 3) := by decide +kernel
theorem dX8_move_67 : decode cX8_move 67 = .ok (.aload_n 0, 1) := by decide +kernel
theorem dX8_move_68 : decode cX8_move 68 = .ok (.getfield 111, 3) := by decide +kernel
theorem dX8_move_71 : decode cX8_move 71 = .ok (.iload_n 2, 1) := by decide +kernel
theorem dX8_move_72 : decode cX8_move 72 = .ok (.iastore, 1) := by decide +kernel
theorem dX8_move_73 : decode cX8_move 73 = .ok (.aload_n 0, 1) := by decide +kernel
theorem dX8_move_74 : decode cX8_move 74 = .ok (.dup, 1) := by decide +kernel
theorem dX8_move_75 : decode cX8_move 75 = .ok (.getfield 111, 3) := by decide +kernel
theorem dX8_move_78 : decode cX8_move 78 = .ok (.iconst 1, 1) := by decide +kernel
theorem dX8_move_79 : decode cX8_move 79 = .ok (.iadd, 1) := by decide +kernel
theorem dX8_move_80 : decode cX8_move 80 = .ok (.putfield 111, 3) := by decide +kernel
theorem dX8_move_83 : decode cX8_move 83 = .ok (.aload_n 0, 1) := by decide +kernel
theorem dX8_move_84 : decode cX8_move 84 = .ok (.getfield 111, 3) := by decide +kernel
theorem dX8_move_87 : decode cX8_move 87 = .ok (.ireturn, 1) := by decide +kernel
theorem dX8_back_0 : decode cX8_back 0 = .ok (.aload_n 0, 1) := by decide +kernel
theorem dX8_back_1 : decode cX8_back 1 = .ok (.getfield 111, 3) := by decide +kernel
theorem dX8_back_4 : decode cX8_back 4 = .ok (.ifCond .ne 6, 3) := by decide +kernel
theorem dX8_back_7 : decode cX8_back 7 = .ok (.bipush (-103), 2) := by decide +kernel
theorem dX8_back_9 : decode cX8_back 9 = .ok (.ireturn, 1) := by decide +kernel
theorem dX8_back_10 : decode cX8_back 10 = .ok (.aload_n 0, 1) := by decide +kernel
theorem dX8_back_11 : decode cX8_back 11 = .ok (.dup, 1) := by decide +kernel
theorem dX8_back_12 : decode cX8_back 12 = .ok (.getfield 111, 3) := by decide +kernel
theorem dX8_back_15 : decode cX8_back 15 = .ok (.iconst 1, 1) := by decide +kernel
theorem dX8_back_16 : decode cX8_back 16 = .ok (.isub, 1) := by decide +kernel
theorem dX8_back_17 : decode cX8_back 17 = .ok (.putfield 111, 3) := by decide +kernel
theorem dX8_back_20 : decode cX8_back 20 = .ok (.aload_n 0, 1) := by decide +kernel
theorem dX8_back_21 : decode cX8_back 21 = .ok (.aload_n 0, 1) := by decide +kernel
theorem dX8_back_22 : decode cX8_back 22 = .ok (.getfield 25, 3) := by decide +kernel
theorem dX8_back_25 : decode cX8_back 25 = .ok (.aload_n 0, 1) := by decide +kernel
theorem dX8_back_26 : decode cX8_back 26 = .ok (.getfield 111, 3) := by decide +kernel
theorem dX8_back_29 : decode cX8_back 29 = .ok (.iaload, 1) := by decide +kernel
theorem dX8_back_30 : decode cX8_back 30 = .ok (.aload_n 0, 1) := by decide +kernel
theorem dX8_back_31 : decode cX8_back 31 = .ok (.getfield 22, 3) := by decide +kernel
theorem dX8_back_34 : decode cX8_back 34 = .ok (.aload_n 0, 1) := by decide +kernel
theorem dX8_back_35 : decode cX8_back 35 = .ok (.getfield 111, 3) := by decide +kernel
theorem dX8_back_38 : decode cX8_back 38 = .ok (.iaload, 1) := by decide +kernel
theorem dX8_back_39 : decode cX8_back 39 = .ok (.invokevirtual 161, 3) := by decide +kernel
theorem dX8_back_42 : decode cX8_back 42 = .ok (.aload_n 0, 1) := by decide +kernel
theorem dX8_back_43 : decode cX8_back 43 = .ok (.getfield 22, 3) := by decide +kernel
theorem dX8_back_46 : decode cX8_back 46 = .ok (.aload_n 0, 1) := by decide +kernel
theorem dX8_back_47 : decode cX8_back 47 = .ok (.getfield 111, 3) := by decide +kernel
theorem dX8_back_50 : decode cX8_back 50 = .ok (.iaload, 1) := by decide +kernel
theorem dX8_back_51 : decode cX8_back 51 = .ok (.ireturn, 1) := by decide +kernel
theorem dX8_power_0 : decode cX8_power 0 = .ok (.iconst 1, 1) := by decide +kernel
theorem dX8_power_1 : decode cX8_power 1 = .ok (.istore_n 1, 1) := by decide +kernel
theorem dX8_power_2 : decode cX8_power 2 = .ok (.iconst 0, 1) := by decide +kernel
theorem dX8_power_3 : decode cX8_power 3 = .ok (.istore_n 2, 1) := by decide +kernel
theorem dX8_power_4 : decode cX8_power 4 = .ok (.iload_n 2, 1) := by decide +kernel
theorem dX8_power_5 : decode cX8_power 5 = .ok (.iload_n 0, 1) := by decide +kernel
theorem dX8_power_6 : decode cX8_power 6 = .ok (.if_icmp .ge 13, 3) := by decide +kernel
theorem dX8_power_9 : decode cX8_power 9 = .ok (.iload_n 1, 1) := by decide +kernel
theorem dX8_power_10 : decode cX8_power 10 = .ok (.iconst 5, 1) := by decide +kernel
theorem dX8_power_11 : decode cX8_power 11 = .ok (.imul, 1) := by decide +kernel
theorem dX8_power_12 : decode cX8_power 12 = .ok (.istore_n 1, 1) := by decide +kernel
theorem dX8_power_13 : decode cX8_power 13 = .ok (.iinc 2 1, 3) := by decide +kernel
theorem dX8_power_16 : decode cX8_power 16 = .ok (.goto (-12), 3) := by decide +kernel
theorem dX8_power_19 : decode cX8_power 19 = .ok (.iload_n 1, 1) := by decide +kernel
theorem dX8_power_20 : decode cX8_power 20 = .ok (.ireturn, 1) := by decide +kernel
theorem dX8_codeOf_0 : decode cX8_codeOf 0 = .ok (.iconst 0, 1) := by decide +kernel
theorem dX8_codeOf_1 : decode cX8_codeOf 1 = .ok (.istore_n 1, 1) := by decide +kernel
theorem dX8_codeOf_2 : decode cX8_codeOf 2 = .ok (.aload_n 0, 1) := by decide +kernel
theorem dX8_codeOf_3 : decode cX8_codeOf 3 = .ok (.getfield 135, 3) := by decide +kernel
theorem dX8_codeOf_6 : decode cX8_codeOf 6 = .ok (.iconst 1, 1) := by decide +kernel
theorem dX8_codeOf_7 : decode cX8_codeOf 7 = .ok (.isub, 1) := by decide +kernel
theorem dX8_codeOf_8 : decode cX8_codeOf 8 = .ok (.istore_n 2, 1) := by decide +kernel
theorem dX8_codeOf_9 : decode cX8_codeOf 9 = .ok (.iload_n 2, 1) := by decide +kernel
theorem dX8_codeOf_10 : decode cX8_codeOf 10 = .ok (.ifCond .lt 20, 3) := by decide +kernel
theorem dX8_codeOf_13 : decode cX8_codeOf 13 = .ok (.iconst 5, 1) := by decide +kernel
theorem dX8_codeOf_14 : decode cX8_codeOf 14 = .ok (.iload_n 1, 1) := by decide +kernel
theorem dX8_codeOf_15 : decode cX8_codeOf 15 = .ok (.imul, 1) := by decide +kernel
theorem dX8_codeOf_16 : decode cX8_codeOf 16 = .ok (.aload_n 0, 1) := by decide +kernel
theorem dX8_codeOf_17 : decode cX8_codeOf 17 = .ok (.getfield 35, 3) := by decide +kernel
theorem dX8_codeOf_20 : decode cX8_codeOf 20 = .ok (.iload_n 2, 1) := by decide +kernel
theorem dX8_codeOf_21 : decode cX8_codeOf 21 = .ok (.iaload, 1) := by decide +kernel
theorem dX8_codeOf_22 : decode cX8_codeOf 22 = .ok (.iadd, 1) := by decide +kernel
theorem dX8_codeOf_23 : decode cX8_codeOf 23 = .ok (.istore_n 1, 1) := by decide +kernel
theorem dX8_codeOf_24 : decode cX8_codeOf 24 = .ok (.iinc 2 (-1), 3) := by decide +kernel
theorem dX8_codeOf_27 : decode cX8_codeOf 27 = .ok (.goto (-18), 3) := by decide +kernel
theorem dX8_codeOf_30 : decode cX8_codeOf 30 = .ok (.iload_n 1, 1) := by decide +kernel
theorem dX8_codeOf_31 : decode cX8_codeOf 31 = .ok (.ireturn, 1) := by decide +kernel
theorem dX8_turnedCode_0 : decode cX8_turnedCode 0 = .ok (.iconst 0, 1) := by decide +kernel
theorem dX8_turnedCode_1 : decode cX8_turnedCode 1 = .ok (.istore_n 1, 1) := by decide +kernel
theorem dX8_turnedCode_2 : decode cX8_turnedCode 2 = .ok (.iconst 0, 1) := by decide +kernel
theorem dX8_turnedCode_3 : decode cX8_turnedCode 3 = .ok (.istore_n 2, 1) := by decide +kernel
theorem dX8_turnedCode_4 : decode cX8_turnedCode 4 = .ok (.iload_n 2, 1) := by decide +kernel
theorem dX8_turnedCode_5 : decode cX8_turnedCode 5 = .ok (.aload_n 0, 1) := by decide +kernel
theorem dX8_turnedCode_6 : decode cX8_turnedCode 6 = .ok (.getfield 135, 3) := by decide +kernel
theorem dX8_turnedCode_9 : decode cX8_turnedCode 9 = .ok (.if_icmp .ge 20, 3) := by decide +kernel
theorem dX8_turnedCode_12 : decode cX8_turnedCode 12 = .ok (.iconst 5, 1) := by decide +kernel
theorem dX8_turnedCode_13 : decode cX8_turnedCode 13 = .ok (.iload_n 1, 1) := by decide +kernel
theorem dX8_turnedCode_14 : decode cX8_turnedCode 14 = .ok (.imul, 1) := by decide +kernel
theorem dX8_turnedCode_15 : decode cX8_turnedCode 15 = .ok (.aload_n 0, 1) := by decide +kernel
theorem dX8_turnedCode_16 : decode cX8_turnedCode 16 = .ok (.getfield 35, 3) := by decide +kernel
theorem dX8_turnedCode_19 : decode cX8_turnedCode 19 = .ok (.iload_n 2, 1) := by decide +kernel
theorem dX8_turnedCode_20 : decode cX8_turnedCode 20 = .ok (.iaload, 1) := by decide +kernel
theorem dX8_turnedCode_21 : decode cX8_turnedCode 21 = .ok (.iadd, 1) := by decide +kernel
theorem dX8_turnedCode_22 : decode cX8_turnedCode 22 = .ok (.istore_n 1, 1) := by decide +kernel
theorem dX8_turnedCode_23 : decode cX8_turnedCode 23 = .ok (.iinc 2 1, 3) := by decide +kernel
theorem dX8_turnedCode_26 : decode cX8_turnedCode 26 = .ok (.goto (-22), 3) := by decide +kernel
theorem dX8_turnedCode_29 : decode cX8_turnedCode 29 = .ok (.iload_n 1, 1) := by decide +kernel
theorem dX8_turnedCode_30 : decode cX8_turnedCode 30 = .ok (.ireturn, 1) := by decide +kernel
theorem dX8_layRow_0 : decode cX8_layRow 0 = .ok (.iload_n 1, 1) := by decide +kernel
theorem dX8_layRow_1 : decode cX8_layRow 1 = .ok (.istore_n 2, 1) := by decide +kernel
theorem dX8_layRow_2 : decode cX8_layRow 2 = .ok (.iconst 0, 1) := by decide +kernel
theorem dX8_layRow_3 : decode cX8_layRow 3 = .ok (.istore_n 3, 1) := by decide +kernel
theorem dX8_layRow_4 : decode cX8_layRow 4 = .ok (.iload_n 3, 1) := by decide +kernel
theorem dX8_layRow_5 : decode cX8_layRow 5 = .ok (.aload_n 0, 1) := by decide +kernel
theorem dX8_layRow_6 : decode cX8_layRow 6 = .ok (.getfield 135, 3) := by decide +kernel
theorem dX8_layRow_9 : decode cX8_layRow 9 = .ok (.if_icmp .ge 22, 3) := by decide +kernel
theorem dX8_layRow_12 : decode cX8_layRow 12 = .ok (.aload_n 0, 1) := by decide +kernel
theorem dX8_layRow_13 : decode cX8_layRow 13 = .ok (.getfield 35, 3) := by decide +kernel
theorem dX8_layRow_16 : decode cX8_layRow 16 = .ok (.iload_n 3, 1) := by decide +kernel
theorem dX8_layRow_17 : decode cX8_layRow 17 = .ok (.iload_n 2, 1) := by decide +kernel
theorem dX8_layRow_18 : decode cX8_layRow 18 = .ok (.iconst 5, 1) := by decide +kernel

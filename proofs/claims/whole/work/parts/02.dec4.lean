theorem dX8_layRow_19 : decode cX8_layRow 19 = .ok (.irem, 1) := by decide +kernel
theorem dX8_layRow_20 : decode cX8_layRow 20 = .ok (.iastore, 1) := by decide +kernel
theorem dX8_layRow_21 : decode cX8_layRow 21 = .ok (.iload_n 2, 1) := by decide +kernel
theorem dX8_layRow_22 : decode cX8_layRow 22 = .ok (.iconst 5, 1) := by decide +kernel
theorem dX8_layRow_23 : decode cX8_layRow 23 = .ok (.idiv, 1) := by decide +kernel
theorem dX8_layRow_24 : decode cX8_layRow 24 = .ok (.istore_n 2, 1) := by decide +kernel
theorem dX8_layRow_25 : decode cX8_layRow 25 = .ok (.iinc 3 1, 3) := by decide +kernel
theorem dX8_layRow_28 : decode cX8_layRow 28 = .ok (.goto (-24), 3) := by decide +kernel
theorem dX8_layRow_31 : decode cX8_layRow 31 = .ok (.return_, 1) := by decide +kernel
theorem dX8_behindMove_0 : decode cX8_behindMove 0 = .ok (.iload_n 0, 1) := by decide +kernel
theorem dX8_behindMove_1 : decode cX8_behindMove 1 = .ok (.iload_n 1, 1) := by decide +kernel
theorem dX8_behindMove_2 : decode cX8_behindMove 2 = .ok (.iload_n 2, 1) := by decide +kernel
theorem dX8_behindMove_3 : decode cX8_behindMove 3 = .ok (.invokestatic 165, 3) := by decide +kernel
theorem dX8_behindMove_6 : decode cX8_behindMove 6 = .ok (.imul, 1) := by decide +kernel
theorem dX8_behindMove_7 : decode cX8_behindMove 7 = .ok (.isub, 1) := by decide +kernel
theorem dX8_behindMove_8 : decode cX8_behindMove 8 = .ok (.iload_n 1, 1) := by decide +kernel
theorem dX8_behindMove_9 : decode cX8_behindMove 9 = .ok (.iload_n 3, 1) := by decide +kernel
theorem dX8_behindMove_10 : decode cX8_behindMove 10 = .ok (.invokestatic 165, 3) := by decide +kernel
theorem dX8_behindMove_13 : decode cX8_behindMove 13 = .ok (.imul, 1) := by decide +kernel
theorem dX8_behindMove_14 : decode cX8_behindMove 14 = .ok (.iadd, 1) := by decide +kernel
theorem dX8_behindMove_15 : decode cX8_behindMove 15 = .ok (.ireturn, 1) := by decide +kernel
theorem dX8_come_0 : decode cX8_come 0 = .ok (.aload_n 0, 1) := by decide +kernel
theorem dX8_come_1 : decode cX8_come 1 = .ok (.getfield 39, 3) := by decide +kernel
theorem dX8_come_4 : decode cX8_come 4 = .ok (.iload_n 1, 1) := by decide +kernel
theorem dX8_come_5 : decode cX8_come 5 = .ok (.iaload, 1) := by decide +kernel
theorem dX8_come_6 : decode cX8_come 6 = .ok (.ifCond .ne 46, 3) := by decide +kernel
theorem dX8_come_9 : decode cX8_come 9 = .ok (.aload_n 0, 1) := by decide +kernel
theorem dX8_come_10 : decode cX8_come 10 = .ok (.getfield 39, 3) := by decide +kernel
theorem dX8_come_13 : decode cX8_come 13 = .ok (.iload_n 1, 1) := by decide +kernel
theorem dX8_come_14 : decode cX8_come 14 = .ok (.iload_n 2, 1) := by decide +kernel
theorem dX8_come_15 : decode cX8_come 15 = .ok (.iconst (-1), 1) := by decide +kernel
theorem dX8_come_16 : decode cX8_come 16 = .ok (.if_icmp .ne 7, 3) := by decide +kernel
theorem dX8_come_19 : decode cX8_come 19 = .ok (.iconst 1, 1) := by decide +kernel
theorem dX8_come_20 : decode cX8_come 20 = .ok (.goto 11, 3) := by decide +kernel
theorem dX8_come_23 : decode cX8_come 23 = .ok (.aload_n 0, 1) := by decide +kernel
theorem dX8_come_24 : decode cX8_come 24 = .ok (.getfield 39, 3) := by decide +kernel
theorem dX8_come_27 : decode cX8_come 27 = .ok (.iload_n 2, 1) := by decide +kernel
theorem dX8_come_28 : decode cX8_come 28 = .ok (.iaload, 1) := by decide +kernel
theorem dX8_come_29 : decode cX8_come 29 = .ok (.iconst 1, 1) := by decide +kernel
theorem dX8_come_30 : decode cX8_come 30 = .ok (.iadd, 1) := by decide +kernel
theorem dX8_come_31 : decode cX8_come 31 = .ok (.iastore, 1) := by decide +kernel
theorem dX8_come_32 : decode cX8_come 32 = .ok (.aload_n 0, 1) := by decide +kernel
theorem dX8_come_33 : decode cX8_come 33 = .ok (.getfield 46, 3) := by decide +kernel
theorem dX8_come_36 : decode cX8_come 36 = .ok (.aload_n 0, 1) := by decide +kernel
theorem dX8_come_37 : decode cX8_come 37 = .ok (.getfield 168, 3) := by decide +kernel
theorem dX8_come_40 : decode cX8_come 40 = .ok (.iload_n 1, 1) := by decide +kernel
theorem dX8_come_41 : decode cX8_come 41 = .ok (.iastore, 1) := by decide +kernel
theorem dX8_come_42 : decode cX8_come 42 = .ok (.aload_n 0, 1) := by decide +kernel
theorem dX8_come_43 : decode cX8_come 43 = .ok (.dup, 1) := by decide +kernel
theorem dX8_come_44 : decode cX8_come 44 = .ok (.getfield 168, 3) := by decide +kernel
theorem dX8_come_47 : decode cX8_come 47 = .ok (.iconst 1, 1) := by decide +kernel
theorem dX8_come_48 : decode cX8_come 48 = .ok (.iadd, 1) := by decide +kernel
theorem dX8_come_49 : decode cX8_come 49 = .ok (.putfield 168, 3) := by decide +kernel
theorem dX8_come_52 : decode cX8_come 52 = .ok (.aload_n 0, 1) := by decide +kernel
theorem dX8_come_53 : decode cX8_come 53 = .ok (.getfield 42, 3) := by decide +kernel
theorem dX8_come_56 : decode cX8_come 56 = .ok (.iload_n 1, 1) := by decide +kernel
theorem dX8_come_57 : decode cX8_come 57 = .ok (.dup2, 1) := by decide +kernel
theorem dX8_come_58 : decode cX8_come 58 = .ok (.laload, 1) := by decide +kernel
theorem dX8_come_59 : decode cX8_come 59 = .ok (.iload_n 2, 1) := by decide +kernel
theorem dX8_come_60 : decode cX8_come 60 = .ok (.iconst (-1), 1) := by decide +kernel
theorem dX8_come_61 : decode cX8_come 61 = .ok (.if_icmp .ne 7, 3) := by decide +kernel
theorem dX8_come_64 : decode cX8_come 64 = .ok (.lconst 1, 1) := by decide +kernel
theorem dX8_come_65 : decode cX8_come 65 = .ok (.goto 30, 3) := by decide +kernel
theorem dX8_come_68 : decode cX8_come 68 = .ok (.aload_n 0, 1) := by decide +kernel
theorem dX8_come_69 : decode cX8_come 69 = .ok (.getfield 39, 3) := by decide +kernel
theorem dX8_come_72 : decode cX8_come 72 = .ok (.iload_n 1, 1) := by decide +kernel
theorem dX8_come_73 : decode cX8_come 73 = .ok (.iaload, 1) := by decide +kernel
theorem dX8_come_74 : decode cX8_come 74 = .ok (.aload_n 0, 1) := by decide +kernel
theorem dX8_come_75 : decode cX8_come 75 = .ok (.getfield 39, 3) := by decide +kernel
theorem dX8_come_78 : decode cX8_come 78 = .ok (.iload_n 2, 1) := by decide +kernel
theorem dX8_come_79 : decode cX8_come 79 = .ok (.iaload, 1) := by decide +kernel
theorem dX8_come_80 : decode cX8_come 80 = .ok (.iconst 1, 1) := by decide +kernel
theorem dX8_come_81 : decode cX8_come 81 = .ok (.iadd, 1) := by decide +kernel
theorem dX8_come_82 : decode cX8_come 82 = .ok (.if_icmp .ne 12, 3) := by decide +kernel
theorem dX8_come_85 : decode cX8_come 85 = .ok (.aload_n 0, 1) := by decide +kernel
theorem dX8_come_86 : decode cX8_come 86 = .ok (.getfield 42, 3) := by decide +kernel
theorem dX8_come_89 : decode cX8_come 89 = .ok (.iload_n 2, 1) := by decide +kernel
theorem dX8_come_90 : decode cX8_come 90 = .ok (.laload, 1) := by decide +kernel
theorem dX8_come_91 : decode cX8_come 91 = .ok (.goto 4, 3) := by decide +kernel
theorem dX8_come_94 : decode cX8_come 94 = .ok (.lconst 0, 1) := by decide +kernel
theorem dX8_come_95 : decode cX8_come 95 = .ok (.ladd, 1) := by decide +kernel
theorem dX8_come_96 : decode cX8_come 96 = .ok (.lastore, 1) := by decide +kernel
theorem dX8_come_97 : decode cX8_come 97 = .ok (.return_, 1) := by decide +kernel
theorem dX8_layFar_0 : decode cX8_layFar 0 = .ok (.iconst 0, 1) := by decide +kernel
theorem dX8_layFar_1 : decode cX8_layFar 1 = .ok (.istore_n 1, 1) := by decide +kernel
theorem dX8_layFar_2 : decode cX8_layFar 2 = .ok (.iload_n 1, 1) := by decide +kernel
theorem dX8_layFar_3 : decode cX8_layFar 3 = .ok (.aload_n 0, 1) := by decide +kernel
theorem dX8_layFar_4 : decode cX8_layFar 4 = .ok (.getfield 168, 3) := by decide +kernel
theorem dX8_layFar_7 : decode cX8_layFar 7 = .ok (.if_icmp .ge 33, 3) := by decide +kernel
theorem dX8_layFar_10 : decode cX8_layFar 10 = .ok (.aload_n 0, 1) := by decide +kernel
theorem dX8_layFar_11 : decode cX8_layFar 11 = .ok (.getfield 39, 3) := by decide +kernel
theorem dX8_layFar_14 : decode cX8_layFar 14 = .ok (.aload_n 0, 1) := by decide +kernel
theorem dX8_layFar_15 : decode cX8_layFar 15 = .ok (.getfield 46, 3) := by decide +kernel
theorem dX8_layFar_18 : decode cX8_layFar 18 = .ok (.iload_n 1, 1) := by decide +kernel
theorem dX8_layFar_19 : decode cX8_layFar 19 = .ok (.iaload, 1) := by decide +kernel
theorem dX8_layFar_20 : decode cX8_layFar 20 = .ok (.iconst 0, 1) := by decide +kernel
theorem dX8_layFar_21 : decode cX8_layFar 21 = .ok (.iastore, 1) := by decide +kernel
theorem dX8_layFar_22 : decode cX8_layFar 22 = .ok (.aload_n 0, 1) := by decide +kernel
theorem dX8_layFar_23 : decode cX8_layFar 23 = .ok (.getfield 42, 3) := by decide +kernel
theorem dX8_layFar_26 : decode cX8_layFar 26 = .ok (.aload_n 0, 1) := by decide +kernel
theorem dX8_layFar_27 : decode cX8_layFar 27 = .ok (.getfield 46, 3) := by decide +kernel
theorem dX8_layFar_30 : decode cX8_layFar 30 = .ok (.iload_n 1, 1) := by decide +kernel
theorem dX8_layFar_31 : decode cX8_layFar 31 = .ok (.iaload, 1) := by decide +kernel
theorem dX8_layFar_32 : decode cX8_layFar 32 = .ok (.lconst 0, 1) := by decide +kernel
theorem dX8_layFar_33 : decode cX8_layFar 33 = .ok (.lastore, 1) := by decide +kernel
theorem dX8_layFar_34 : decode cX8_layFar 34 = .ok (.iinc 1 1, 3) := by decide +kernel
theorem dX8_layFar_37 : decode cX8_layFar 37 = .ok (.goto (-35), 3) := by decide +kernel
theorem dX8_layFar_40 : decode cX8_layFar 40 = .ok (.aload_n 0, 1) := by decide +kernel
theorem dX8_layFar_41 : decode cX8_layFar 41 = .ok (.iconst 0, 1) := by decide +kernel
theorem dX8_layFar_42 : decode cX8_layFar 42 = .ok (.putfield 168, 3) := by decide +kernel
theorem dX8_layFar_45 : decode cX8_layFar 45 = .ok (.aload_n 0, 1) := by decide +kernel
theorem dX8_layFar_46 : decode cX8_layFar 46 = .ok (.aload_n 0, 1) := by decide +kernel
theorem dX8_layFar_47 : decode cX8_layFar 47 = .ok (.invokevirtual 171, 3) := by decide +kernel
theorem dX8_layFar_50 : decode cX8_layFar 50 = .ok (.iconst (-1), 1) := by decide +kernel
theorem dX8_layFar_51 : decode cX8_layFar 51 = .ok (.invokevirtual 174, 3) := by decide +kernel
theorem dX8_layFar_54 : decode cX8_layFar 54 = .ok (.iconst 0, 1) := by decide +kernel
theorem dX8_layFar_55 : decode cX8_layFar 55 = .ok (.istore_n 1, 1) := by decide +kernel
theorem dX8_layFar_56 : decode cX8_layFar 56 = .ok (.iload_n 1, 1) := by decide +kernel
theorem dX8_layFar_57 : decode cX8_layFar 57 = .ok (.aload_n 0, 1) := by decide +kernel
theorem dX8_layFar_58 : decode cX8_layFar 58 = .ok (.getfield 168, 3) := by decide +kernel
theorem dX8_layFar_61 : decode cX8_layFar 61 = .ok (.if_icmp .ge 83, 3) := by decide +kernel
theorem dX8_layFar_64 : decode cX8_layFar 64 = .ok (.aload_n 0, 1) := by decide +kernel
theorem dX8_layFar_65 : decode cX8_layFar 65 = .ok (.getfield 46, 3) := by decide +kernel
theorem dX8_layFar_68 : decode cX8_layFar 68 = .ok (.iload_n 1, 1) := by decide +kernel
theorem dX8_layFar_69 : decode cX8_layFar 69 = .ok (.iaload, 1) := by decide +kernel
theorem dX8_layFar_70 : decode cX8_layFar 70 = .ok (.istore_n 2, 1) := by decide +kernel
theorem dX8_layFar_71 : decode cX8_layFar 71 = .ok (.aload_n 0, 1) := by decide +kernel
theorem dX8_layFar_72 : decode cX8_layFar 72 = .ok (.iload_n 2, 1) := by decide +kernel
theorem dX8_layFar_73 : decode cX8_layFar 73 = .ok (.invokevirtual 177, 3) := by decide +kernel
theorem dX8_layFar_76 : decode cX8_layFar 76 = .ok (.iconst 0, 1) := by decide +kernel
theorem dX8_layFar_77 : decode cX8_layFar 77 = .ok (.istore_n 3, 1) := by decide +kernel
theorem dX8_layFar_78 : decode cX8_layFar 78 = .ok (.iload_n 3, 1) := by decide +kernel
theorem dX8_layFar_79 : decode cX8_layFar 79 = .ok (.aload_n 0, 1) := by decide +kernel
theorem dX8_layFar_80 : decode cX8_layFar 80 = .ok (.getfield 135, 3) := by decide +kernel
theorem dX8_layFar_83 : decode cX8_layFar 83 = .ok (.if_icmp .ge 55, 3) := by decide +kernel
theorem dX8_layFar_86 : decode cX8_layFar 86 = .ok (.iconst 0, 1) := by decide +kernel
theorem dX8_layFar_87 : decode cX8_layFar 87 = .ok (.istore 4, 2) := by decide +kernel
theorem dX8_layFar_89 : decode cX8_layFar 89 = .ok (.iload 4, 2) := by decide +kernel
theorem dX8_layFar_91 : decode cX8_layFar 91 = .ok (.aload_n 0, 1) := by decide +kernel
theorem dX8_layFar_92 : decode cX8_layFar 92 = .ok (.getfield 135, 3) := by decide +kernel
theorem dX8_layFar_95 : decode cX8_layFar 95 = .ok (.if_icmp .ge 37, 3) := by decide +kernel
theorem dX8_layFar_98 : decode cX8_layFar 98 = .ok (.aload_n 0, 1) := by decide +kernel
theorem dX8_layFar_99 : decode cX8_layFar 99 = .ok (.iload_n 3, 1) := by decide +kernel
theorem dX8_layFar_100 : decode cX8_layFar 100 = .ok (.iload 4, 2) := by decide +kernel
theorem dX8_layFar_102 : decode cX8_layFar 102 = .ok (.invokevirtual 154, 3) := by decide +kernel
theorem dX8_layFar_105 : decode cX8_layFar 105 = .ok (.ifCond .eq 21, 3) := by decide +kernel
theorem dX8_layFar_108 : decode cX8_layFar 108 = .ok (.aload_n 0, 1) := by decide +kernel
theorem dX8_layFar_109 : decode cX8_layFar 109 = .ok (.iload_n 2, 1) := by decide +kernel
theorem dX8_layFar_110 : decode cX8_layFar 110 = .ok (.aload_n 0, 1) := by decide +kernel
theorem dX8_layFar_111 : decode cX8_layFar 111 = .ok (.getfield 35, 3) := by decide +kernel
theorem dX8_layFar_114 : decode cX8_layFar 114 = .ok (.iload_n 3, 1) := by decide +kernel
theorem dX8_layFar_115 : decode cX8_layFar 115 = .ok (.iaload, 1) := by decide +kernel
theorem dX8_layFar_116 : decode cX8_layFar 116 = .ok (.iload_n 3, 1) := by decide +kernel
theorem dX8_layFar_117 : decode cX8_layFar 117 = .ok (.iload 4, 2) := by decide +kernel
theorem dX8_layFar_119 : decode cX8_layFar 119 = .ok (.invokestatic 181, 3) := by decide +kernel
theorem dX8_layFar_122 : decode cX8_layFar 122 = .ok (.iload_n 2, 1) := by decide +kernel
theorem dX8_layFar_123 : decode cX8_layFar 123 = .ok (.invokevirtual 174, 3) := by decide +kernel
theorem dX8_layFar_126 : decode cX8_layFar 126 = .ok (.iinc 4 1, 3) := by decide +kernel
theorem dX8_layFar_129 : decode cX8_layFar 129 = .ok (.goto (-40), 3) := by decide +kernel
theorem dX8_layFar_132 : decode cX8_layFar 132 = .ok (.iinc 3 1, 3) := by decide +kernel
theorem dX8_layFar_135 : decode cX8_layFar 135 = .ok (.goto (-57), 3) := by decide +kernel
theorem dX8_layFar_138 : decode cX8_layFar 138 = .ok (.iinc 1 1, 3) := by decide +kernel
theorem dX8_layFar_141 : decode cX8_layFar 141 = .ok (.goto (-85), 3) := by decide +kernel
theorem dX8_layFar_144 : decode cX8_layFar 144 = .ok (.aload_n 0, 1) := by decide +kernel
theorem dX8_layFar_145 : decode cX8_layFar 145 = .ok (.aload_n 0, 1) := by decide +kernel
theorem dX8_layFar_146 : decode cX8_layFar 146 = .ok (.getfield 46, 3) := by decide +kernel
theorem dX8_layFar_149 : decode cX8_layFar 149 = .ok (.iconst 0, 1) := by decide +kernel
theorem dX8_layFar_150 : decode cX8_layFar 150 = .ok (.iaload, 1) := by decide +kernel
theorem dX8_layFar_151 : decode cX8_layFar 151 = .ok (.invokevirtual 177, 3) := by decide +kernel
theorem dX8_layFar_154 : decode cX8_layFar 154 = .ok (.return_, 1) := by decide +kernel
theorem dX8_layRead_0 : decode cX8_layRead 0 = .ok (.aload_n 0, 1) := by decide +kernel
theorem dX8_layRead_1 : decode cX8_layRead 1 = .ok (.aload_n 0, 1) := by decide +kernel
theorem dX8_layRead_2 : decode cX8_layRead 2 = .ok (.getfield 93, 3) := by decide +kernel
theorem dX8_layRead_5 : decode cX8_layRead 5 = .ok (.putfield 135, 3) := by decide +kernel
theorem dX8_layRead_8 : decode cX8_layRead 8 = .ok (.iconst 0, 1) := by decide +kernel
theorem dX8_layRead_9 : decode cX8_layRead 9 = .ok (.istore_n 1, 1) := by decide +kernel
theorem dX8_layRead_10 : decode cX8_layRead 10 = .ok (.iload_n 1, 1) := by decide +kernel
theorem dX8_layRead_11 : decode cX8_layRead 11 = .ok (.aload_n 0, 1) := by decide +kernel
theorem dX8_layRead_12 : decode cX8_layRead 12 = .ok (.getfield 93, 3) := by decide +kernel
theorem dX8_layRead_15 : decode cX8_layRead 15 = .ok (.if_icmp .ge 21, 3) := by decide +kernel
theorem dX8_layRead_18 : decode cX8_layRead 18 = .ok (.aload_n 0, 1) := by decide +kernel
theorem dX8_layRead_19 : decode cX8_layRead 19 = .ok (.getfield 35, 3) := by decide +kernel
theorem dX8_layRead_22 : decode cX8_layRead 22 = .ok (.iload_n 1, 1) := by decide +kernel
theorem dX8_layRead_23 : decode cX8_layRead 23 = .ok (.aload_n 0, 1) := by decide +kernel
theorem dX8_layRead_24 : decode cX8_layRead 24 = .ok (.getfield 7, 3) := by decide +kernel
theorem dX8_layRead_27 : decode cX8_layRead 27 = .ok (.iload_n 1, 1) := by decide +kernel
theorem dX8_layRead_28 : decode cX8_layRead 28 = .ok (.iaload, 1) := by decide +kernel
theorem dX8_layRead_29 : decode cX8_layRead 29 = .ok (.iastore, 1) := by decide +kernel
theorem dX8_layRead_30 : decode cX8_layRead 30 = .ok (.iinc 1 1, 3) := by decide +kernel
theorem dX8_layRead_33 : decode cX8_layRead 33 = .ok (.goto (-23), 3) := by decide +kernel
theorem dX8_layRead_36 : decode cX8_layRead 36 = .ok (.return_, 1) := by decide +kernel
theorem dX8_goal_0 : decode cX8_goal 0 = .ok (.aload_n 0, 1) := by decide +kernel
theorem dX8_goal_1 : decode cX8_goal 1 = .ok (.invokevirtual 185, 3) := by decide +kernel
theorem dX8_goal_4 : decode cX8_goal 4 = .ok (.aload_n 0, 1) := by decide +kernel
theorem dX8_goal_5 : decode cX8_goal 5 = .ok (.invokevirtual 188, 3) := by decide +kernel
theorem dX8_goal_8 : decode cX8_goal 8 = .ok (.ireturn, 1) := by decide +kernel
theorem dX8_farTo_0 : decode cX8_farTo 0 = .ok (.aload_n 0, 1) := by decide +kernel
theorem dX8_farTo_1 : decode cX8_farTo 1 = .ok (.invokevirtual 191, 3) := by decide +kernel
theorem dX8_farTo_4 : decode cX8_farTo 4 = .ok (.aload_n 0, 1) := by decide +kernel
theorem dX8_farTo_5 : decode cX8_farTo 5 = .ok (.getfield 39, 3) := by decide +kernel
theorem dX8_farTo_8 : decode cX8_farTo 8 = .ok (.iload_n 1, 1) := by decide +kernel
theorem dX8_farTo_9 : decode cX8_farTo 9 = .ok (.iaload, 1) := by decide +kernel
theorem dX8_farTo_10 : decode cX8_farTo 10 = .ok (.iconst 1, 1) := by decide +kernel
theorem dX8_farTo_11 : decode cX8_farTo 11 = .ok (.isub, 1) := by decide +kernel
theorem dX8_farTo_12 : decode cX8_farTo 12 = .ok (.ireturn, 1) := by decide +kernel
theorem dX8_fewestNow_0 : decode cX8_fewestNow 0 = .ok (.aload_n 0, 1) := by decide +kernel
theorem dX8_fewestNow_1 : decode cX8_fewestNow 1 = .ok (.invokevirtual 194, 3) := by decide +kernel
theorem dX8_fewestNow_4 : decode cX8_fewestNow 4 = .ok (.istore_n 2, 1) := by decide +kernel
theorem dX8_fewestNow_5 : decode cX8_fewestNow 5 = .ok (.aload_n 0, 1) := by decide +kernel
theorem dX8_fewestNow_6 : decode cX8_fewestNow 6 = .ok (.invokevirtual 151, 3) := by decide +kernel
theorem dX8_fewestNow_9 : decode cX8_fewestNow 9 = .ok (.aload_n 0, 1) := by decide +kernel
theorem dX8_fewestNow_10 : decode cX8_fewestNow 10 = .ok (.iload_n 2, 1) := by decide +kernel
theorem dX8_fewestNow_11 : decode cX8_fewestNow 11 = .ok (.invokevirtual 197, 3) := by decide +kernel
theorem dX8_fewestNow_14 : decode cX8_fewestNow 14 = .ok (.istore_n 3, 1) := by decide +kernel
theorem dX8_fewestNow_15 : decode cX8_fewestNow 15 = .ok (.iload_n 3, 1) := by decide +kernel
theorem dX8_fewestNow_16 : decode cX8_fewestNow 16 = .ok (.iconst 1, 1) := by decide +kernel
theorem dX8_fewestNow_17 : decode cX8_fewestNow 17 = .ok (.if_icmp .lt 7, 3) := by decide +kernel
theorem dX8_fewestNow_20 : decode cX8_fewestNow 20 = .ok (.iload_n 1, 1) := by decide +kernel
theorem dX8_fewestNow_21 : decode cX8_fewestNow 21 = .ok (.ifCond .ne 13, 3) := by decide +kernel
theorem dX8_fewestNow_24 : decode cX8_fewestNow 24 = .ok (.iload_n 1, 1) := by decide +kernel
theorem dX8_fewestNow_25 : decode cX8_fewestNow 25 = .ok (.ifCond .ne 7, 3) := by decide +kernel
theorem dX8_fewestNow_28 : decode cX8_fewestNow 28 = .ok (.iload_n 3, 1) := by decide +kernel
theorem dX8_fewestNow_29 : decode cX8_fewestNow 29 = .ok (.goto 4, 3) := by decide +kernel
theorem dX8_fewestNow_32 : decode cX8_fewestNow 32 = .ok (.iconst (-1), 1) := by decide +kernel
theorem dX8_fewestNow_33 : decode cX8_fewestNow 33 = .ok (.ireturn, 1) := by decide +kernel
theorem dX8_fewestNow_34 : decode cX8_fewestNow 34 = .ok (.aload_n 0, 1) := by decide +kernel
theorem dX8_fewestNow_35 : decode cX8_fewestNow 35 = .ok (.getfield 46, 3) := by decide +kernel
theorem dX8_fewestNow_38 : decode cX8_fewestNow 38 = .ok (.iconst 0, 1) := by decide +kernel
theorem dX8_fewestNow_39 : decode cX8_fewestNow 39 = .ok (.iaload, 1) := by decide +kernel
theorem dX8_fewestNow_40 : decode cX8_fewestNow 40 = .ok (.istore 4, 2) := by decide +kernel
theorem dX8_fewestNow_42 : decode cX8_fewestNow 42 = .ok (.iconst 0, 1) := by decide +kernel
theorem dX8_fewestNow_43 : decode cX8_fewestNow 43 = .ok (.istore 5, 2) := by decide +kernel
theorem dX8_fewestNow_45 : decode cX8_fewestNow 45 = .ok (.iload 5, 2) := by decide +kernel
theorem dX8_fewestNow_47 : decode cX8_fewestNow 47 = .ok (.aload_n 0, 1) := by decide +kernel
theorem dX8_fewestNow_48 : decode cX8_fewestNow 48 = .ok (.getfield 135, 3) := by decide +kernel
theorem dX8_fewestNow_51 : decode cX8_fewestNow 51 = .ok (.if_icmp .ge 88, 3) := by decide +kernel
theorem dX8_fewestNow_54 : decode cX8_fewestNow 54 = .ok (.iconst 0, 1) := by decide +kernel
theorem dX8_fewestNow_55 : decode cX8_fewestNow 55 = .ok (.istore 6, 2) := by decide +kernel
theorem dX8_fewestNow_57 : decode cX8_fewestNow 57 = .ok (.iload 6, 2) := by decide +kernel
theorem dX8_fewestNow_59 : decode cX8_fewestNow 59 = .ok (.aload_n 0, 1) := by decide +kernel
theorem dX8_fewestNow_60 : decode cX8_fewestNow 60 = .ok (.getfield 135, 3) := by decide +kernel
theorem dX8_fewestNow_63 : decode cX8_fewestNow 63 = .ok (.if_icmp .ge 70, 3) := by decide +kernel
theorem dX8_fewestNow_66 : decode cX8_fewestNow 66 = .ok (.aload_n 0, 1) := by decide +kernel
theorem dX8_fewestNow_67 : decode cX8_fewestNow 67 = .ok (.iload 5, 2) := by decide +kernel
theorem dX8_fewestNow_69 : decode cX8_fewestNow 69 = .ok (.iload 6, 2) := by decide +kernel
theorem dX8_fewestNow_71 : decode cX8_fewestNow 71 = .ok (.invokevirtual 154, 3) := by decide +kernel
theorem dX8_fewestNow_74 : decode cX8_fewestNow 74 = .ok (.ifCond .eq 53, 3) := by decide +kernel
theorem dX8_fewestNow_77 : decode cX8_fewestNow 77 = .ok (.aload_n 0, 1) := by decide +kernel
theorem dX8_fewestNow_78 : decode cX8_fewestNow 78 = .ok (.iload 4, 2) := by decide +kernel
theorem dX8_fewestNow_80 : decode cX8_fewestNow 80 = .ok (.aload_n 0, 1) := by decide +kernel
theorem dX8_fewestNow_81 : decode cX8_fewestNow 81 = .ok (.getfield 35, 3) := by decide +kernel
theorem dX8_fewestNow_84 : decode cX8_fewestNow 84 = .ok (.iload 5, 2) := by decide +kernel
theorem dX8_fewestNow_86 : decode cX8_fewestNow 86 = .ok (.iaload, 1) := by decide +kernel
theorem dX8_fewestNow_87 : decode cX8_fewestNow 87 = .ok (.iload 5, 2) := by decide +kernel
theorem dX8_fewestNow_89 : decode cX8_fewestNow 89 = .ok (.iload 6, 2) := by decide +kernel
theorem dX8_fewestNow_91 : decode cX8_fewestNow 91 = .ok (.invokestatic 181, 3) := by decide +kernel
theorem dX8_fewestNow_94 : decode cX8_fewestNow 94 = .ok (.invokevirtual 177, 3) := by decide +kernel
theorem dX8_fewestNow_97 : decode cX8_fewestNow 97 = .ok (.aload_n 0, 1) := by decide +kernel
theorem dX8_fewestNow_98 : decode cX8_fewestNow 98 = .ok (.iload_n 2, 1) := by decide +kernel
theorem dX8_fewestNow_99 : decode cX8_fewestNow 99 = .ok (.invokevirtual 197, 3) := by decide +kernel
theorem dX8_fewestNow_102 : decode cX8_fewestNow 102 = .ok (.iload_n 3, 1) := by decide +kernel
theorem dX8_fewestNow_103 : decode cX8_fewestNow 103 = .ok (.iconst 1, 1) := by decide +kernel
theorem dX8_fewestNow_104 : decode cX8_fewestNow 104 = .ok (.isub, 1) := by decide +kernel
theorem dX8_fewestNow_105 : decode cX8_fewestNow 105 = .ok (.if_icmp .ne 16, 3) := by decide +kernel
theorem dX8_fewestNow_108 : decode cX8_fewestNow 108 = .ok (.iload_n 1, 1) := by decide +kernel
theorem dX8_fewestNow_109 : decode cX8_fewestNow 109 = .ok (.iconst 1, 1) := by decide +kernel
theorem dX8_fewestNow_110 : decode cX8_fewestNow 110 = .ok (.if_icmp .ne 8, 3) := by decide +kernel
theorem dX8_fewestNow_113 : decode cX8_fewestNow 113 = .ok (.iload 5, 2) := by decide +kernel
theorem dX8_fewestNow_115 : decode cX8_fewestNow 115 = .ok (.goto 5, 3) := by decide +kernel
theorem dX8_fewestNow_118 : decode cX8_fewestNow 118 = .ok (.iload 6, 2) := by decide +kernel
theorem dX8_fewestNow_120 : decode cX8_fewestNow 120 = .ok (.ireturn, 1) := by decide +kernel
theorem dX8_fewestNow_121 : decode cX8_fewestNow 121 = .ok (.aload_n 0, 1) := by decide +kernel
theorem dX8_fewestNow_122 : decode cX8_fewestNow 122 = .ok (.iload 4, 2) := by decide +kernel
theorem dX8_fewestNow_124 : decode cX8_fewestNow 124 = .ok (.invokevirtual 177, 3) := by decide +kernel
theorem dX8_fewestNow_127 : decode cX8_fewestNow 127 = .ok (.iinc 6 1, 3) := by decide +kernel
theorem dX8_fewestNow_130 : decode cX8_fewestNow 130 = .ok (.goto (-73), 3) := by decide +kernel
theorem dX8_fewestNow_133 : decode cX8_fewestNow 133 = .ok (.iinc 5 1, 3) := by decide +kernel
theorem dX8_fewestNow_136 : decode cX8_fewestNow 136 = .ok (.goto (-91), 3) := by decide +kernel
theorem dX8_fewestNow_139 : decode cX8_fewestNow 139 = .ok (.iconst (-1), 1) := by decide +kernel
theorem dX8_fewestNow_140 : decode cX8_fewestNow 140 = .ok (.ireturn, 1) := by decide +kernel
theorem dX8_fewest_0 : decode cX8_fewest 0 = .ok (.iload_n 1, 1) := by decide +kernel
theorem dX8_fewest_1 : decode cX8_fewest 1 = .ok (.iconst 0, 1) := by decide +kernel
theorem dX8_fewest_2 : decode cX8_fewest 2 = .ok (.iconst 2, 1) := by decide +kernel
theorem dX8_fewest_3 : decode cX8_fewest 3 = .ok (.invokestatic 117, 3) := by decide +kernel
theorem dX8_fewest_6 : decode cX8_fewest 6 = .ok (.ifCond .ne 6, 3) := by decide +kernel
theorem dX8_fewest_9 : decode cX8_fewest 9 = .ok (.bipush (-102), 2) := by decide +kernel
theorem dX8_fewest_11 : decode cX8_fewest 11 = .ok (.ireturn, 1) := by decide +kernel
theorem dX8_fewest_12 : decode cX8_fewest 12 = .ok (.aload_n 0, 1) := by decide +kernel
theorem dX8_fewest_13 : decode cX8_fewest 13 = .ok (.getfield 93, 3) := by decide +kernel
theorem dX8_fewest_16 : decode cX8_fewest 16 = .ok (.ifCond .ne 8, 3) := by decide +kernel
theorem dX8_fewest_19 : decode cX8_fewest 19 = .ok (.bipush (-103), 2) := by decide +kernel
theorem dX8_fewest_21 : decode cX8_fewest 21 = .ok (.goto 8, 3) := by decide +kernel
theorem dX8_fewest_24 : decode cX8_fewest 24 = .ok (.aload_n 0, 1) := by decide +kernel
theorem dX8_fewest_25 : decode cX8_fewest 25 = .ok (.iload_n 1, 1) := by decide +kernel
theorem dX8_fewest_26 : decode cX8_fewest 26 = .ok (.invokevirtual 200, 3) := by decide +kernel
theorem dX8_fewest_29 : decode cX8_fewest 29 = .ok (.ireturn, 1) := by decide +kernel
theorem dX8_waysNow_0 : decode cX8_waysNow 0 = .ok (.aload_n 0, 1) := by decide +kernel
theorem dX8_waysNow_1 : decode cX8_waysNow 1 = .ok (.invokevirtual 194, 3) := by decide +kernel
theorem dX8_waysNow_4 : decode cX8_waysNow 4 = .ok (.istore_n 1, 1) := by decide +kernel
theorem dX8_waysNow_5 : decode cX8_waysNow 5 = .ok (.aload_n 0, 1) := by decide +kernel
theorem dX8_waysNow_6 : decode cX8_waysNow 6 = .ok (.invokevirtual 151, 3) := by decide +kernel
theorem dX8_waysNow_9 : decode cX8_waysNow 9 = .ok (.aload_n 0, 1) := by decide +kernel
theorem dX8_waysNow_10 : decode cX8_waysNow 10 = .ok (.invokevirtual 191, 3) := by decide +kernel
theorem dX8_waysNow_13 : decode cX8_waysNow 13 = .ok (.aload_n 0, 1) := by decide +kernel
theorem dX8_waysNow_14 : decode cX8_waysNow 14 = .ok (.getfield 42, 3) := by decide +kernel
theorem dX8_waysNow_17 : decode cX8_waysNow 17 = .ok (.iload_n 1, 1) := by decide +kernel
theorem dX8_waysNow_18 : decode cX8_waysNow 18 = .ok (.laload, 1) := by decide +kernel
theorem dX8_waysNow_19 : decode cX8_waysNow 19 = .ok (.l2i, 1) := by decide +kernel
theorem dX8_waysNow_20 : decode cX8_waysNow 20 = .ok (.ireturn, 1) := by decide +kernel
theorem dX8_ways_0 : decode cX8_ways 0 = .ok (.aload_n 0, 1) := by decide +kernel
theorem dX8_ways_1 : decode cX8_ways 1 = .ok (.getfield 93, 3) := by decide +kernel
theorem dX8_ways_4 : decode cX8_ways 4 = .ok (.ifCond .ne 8, 3) := by decide +kernel
theorem dX8_ways_7 : decode cX8_ways 7 = .ok (.bipush (-103), 2) := by decide +kernel
theorem dX8_ways_9 : decode cX8_ways 9 = .ok (.goto 7, 3) := by decide +kernel
theorem dX8_ways_12 : decode cX8_ways 12 = .ok (.aload_n 0, 1) := by decide +kernel
theorem dX8_ways_13 : decode cX8_ways 13 = .ok (.invokevirtual 203, 3) := by decide +kernel
theorem dX8_ways_16 : decode cX8_ways 16 = .ok (.ireturn, 1) := by decide +kernel
theorem dX8_wrongNow_0 : decode cX8_wrongNow 0 = .ok (.aload_n 0, 1) := by decide +kernel
theorem dX8_wrongNow_1 : decode cX8_wrongNow 1 = .ok (.invokevirtual 194, 3) := by decide +kernel
theorem dX8_wrongNow_4 : decode cX8_wrongNow 4 = .ok (.istore_n 1, 1) := by decide +kernel
theorem dX8_wrongNow_5 : decode cX8_wrongNow 5 = .ok (.aload_n 0, 1) := by decide +kernel
theorem dX8_wrongNow_6 : decode cX8_wrongNow 6 = .ok (.invokevirtual 185, 3) := by decide +kernel
theorem dX8_wrongNow_9 : decode cX8_wrongNow 9 = .ok (.aload_n 0, 1) := by decide +kernel
theorem dX8_wrongNow_10 : decode cX8_wrongNow 10 = .ok (.iload_n 1, 1) := by decide +kernel
theorem dX8_wrongNow_11 : decode cX8_wrongNow 11 = .ok (.invokevirtual 197, 3) := by decide +kernel
theorem dX8_wrongNow_14 : decode cX8_wrongNow 14 = .ok (.ifCond .lt 7, 3) := by decide +kernel
theorem dX8_wrongNow_17 : decode cX8_wrongNow 17 = .ok (.iconst 1, 1) := by decide +kernel
theorem dX8_wrongNow_18 : decode cX8_wrongNow 18 = .ok (.goto 4, 3) := by decide +kernel
theorem dX8_wrongNow_21 : decode cX8_wrongNow 21 = .ok (.iconst 0, 1) := by decide +kernel
theorem dX8_wrongNow_22 : decode cX8_wrongNow 22 = .ok (.istore_n 2, 1) := by decide +kernel
theorem dX8_wrongNow_23 : decode cX8_wrongNow 23 = .ok (.iconst 0, 1) := by decide +kernel
theorem dX8_wrongNow_24 : decode cX8_wrongNow 24 = .ok (.istore_n 3, 1) := by decide +kernel
theorem dX8_wrongNow_25 : decode cX8_wrongNow 25 = .ok (.iload_n 3, 1) := by decide +kernel
theorem dX8_wrongNow_26 : decode cX8_wrongNow 26 = .ok (.aload_n 0, 1) := by decide +kernel
theorem dX8_wrongNow_27 : decode cX8_wrongNow 27 = .ok (.getfield 111, 3) := by decide +kernel
theorem dX8_wrongNow_30 : decode cX8_wrongNow 30 = .ok (.if_icmp .ge 69, 3) := by decide +kernel
theorem dX8_wrongNow_33 : decode cX8_wrongNow 33 = .ok (.iload_n 2, 1) := by decide +kernel
theorem dX8_wrongNow_34 : decode cX8_wrongNow 34 = .ok (.ifCond .eq 65, 3) := by decide +kernel
theorem dX8_wrongNow_37 : decode cX8_wrongNow 37 = .ok (.aload_n 0, 1) := by decide +kernel
theorem dX8_wrongNow_38 : decode cX8_wrongNow 38 = .ok (.getfield 35, 3) := by decide +kernel
theorem dX8_wrongNow_41 : decode cX8_wrongNow 41 = .ok (.aload_n 0, 1) := by decide +kernel
theorem dX8_wrongNow_42 : decode cX8_wrongNow 42 = .ok (.getfield 25, 3) := by decide +kernel
theorem dX8_wrongNow_45 : decode cX8_wrongNow 45 = .ok (.iload_n 3, 1) := by decide +kernel
theorem dX8_wrongNow_46 : decode cX8_wrongNow 46 = .ok (.iaload, 1) := by decide +kernel
theorem dX8_wrongNow_47 : decode cX8_wrongNow 47 = .ok (.aload_n 0, 1) := by decide +kernel
theorem dX8_wrongNow_48 : decode cX8_wrongNow 48 = .ok (.getfield 35, 3) := by decide +kernel
theorem dX8_wrongNow_51 : decode cX8_wrongNow 51 = .ok (.aload_n 0, 1) := by decide +kernel
theorem dX8_wrongNow_52 : decode cX8_wrongNow 52 = .ok (.getfield 22, 3) := by decide +kernel
theorem dX8_wrongNow_55 : decode cX8_wrongNow 55 = .ok (.iload_n 3, 1) := by decide +kernel
theorem dX8_wrongNow_56 : decode cX8_wrongNow 56 = .ok (.iaload, 1) := by decide +kernel
theorem dX8_wrongNow_57 : decode cX8_wrongNow 57 = .ok (.iaload, 1) := by decide +kernel
theorem dX8_wrongNow_58 : decode cX8_wrongNow 58 = .ok (.iastore, 1) := by decide +kernel
theorem dX8_wrongNow_59 : decode cX8_wrongNow 59 = .ok (.aload_n 0, 1) := by decide +kernel
theorem dX8_wrongNow_60 : decode cX8_wrongNow 60 = .ok (.getfield 35, 3) := by decide +kernel
theorem dX8_wrongNow_63 : decode cX8_wrongNow 63 = .ok (.aload_n 0, 1) := by decide +kernel
theorem dX8_wrongNow_64 : decode cX8_wrongNow 64 = .ok (.getfield 22, 3) := by decide +kernel
theorem dX8_wrongNow_67 : decode cX8_wrongNow 67 = .ok (.iload_n 3, 1) := by decide +kernel
theorem dX8_wrongNow_68 : decode cX8_wrongNow 68 = .ok (.iaload, 1) := by decide +kernel
theorem dX8_wrongNow_69 : decode cX8_wrongNow 69 = .ok (.iconst 0, 1) := by decide +kernel
theorem dX8_wrongNow_70 : decode cX8_wrongNow 70 = .ok (.iastore, 1) := by decide +kernel
theorem dX8_wrongNow_71 : decode cX8_wrongNow 71 = .ok (.aload_n 0, 1) := by decide +kernel
theorem dX8_wrongNow_72 : decode cX8_wrongNow 72 = .ok (.iload_n 1, 1) := by decide +kernel
theorem dX8_wrongNow_73 : decode cX8_wrongNow 73 = .ok (.invokevirtual 197, 3) := by decide +kernel
theorem dX8_wrongNow_76 : decode cX8_wrongNow 76 = .ok (.ifCond .lt 7, 3) := by decide +kernel
theorem dX8_wrongNow_79 : decode cX8_wrongNow 79 = .ok (.iconst 1, 1) := by decide +kernel
theorem dX8_wrongNow_80 : decode cX8_wrongNow 80 = .ok (.goto 4, 3) := by decide +kernel
theorem dX8_wrongNow_83 : decode cX8_wrongNow 83 = .ok (.iconst 0, 1) := by decide +kernel
theorem dX8_wrongNow_84 : decode cX8_wrongNow 84 = .ok (.istore_n 2, 1) := by decide +kernel
theorem dX8_wrongNow_85 : decode cX8_wrongNow 85 = .ok (.iload_n 2, 1) := by decide +kernel
theorem dX8_wrongNow_86 : decode cX8_wrongNow 86 = .ok (.ifCond .ne 7, 3) := by decide +kernel
theorem dX8_wrongNow_89 : decode cX8_wrongNow 89 = .ok (.iload_n 3, 1) := by decide +kernel
theorem dX8_wrongNow_90 : decode cX8_wrongNow 90 = .ok (.iconst 1, 1) := by decide +kernel
theorem dX8_wrongNow_91 : decode cX8_wrongNow 91 = .ok (.iadd, 1) := by decide +kernel
theorem dX8_wrongNow_92 : decode cX8_wrongNow 92 = .ok (.ireturn, 1) := by decide +kernel
theorem dX8_wrongNow_93 : decode cX8_wrongNow 93 = .ok (.iinc 3 1, 3) := by decide +kernel
theorem dX8_wrongNow_96 : decode cX8_wrongNow 96 = .ok (.goto (-71), 3) := by decide +kernel
theorem dX8_wrongNow_99 : decode cX8_wrongNow 99 = .ok (.iconst (-1), 1) := by decide +kernel
theorem dX8_wrongNow_100 : decode cX8_wrongNow 100 = .ok (.ireturn, 1) := by decide +kernel
theorem dX8_wrong_0 : decode cX8_wrong 0 = .ok (.aload_n 0, 1) := by decide +kernel
theorem dX8_wrong_1 : decode cX8_wrong 1 = .ok (.getfield 93, 3) := by decide +kernel
theorem dX8_wrong_4 : decode cX8_wrong 4 = .ok (.ifCond .ne 8, 3) := by decide +kernel
theorem dX8_wrong_7 : decode cX8_wrong 7 = .ok (.bipush (-103), 2) := by decide +kernel
theorem dX8_wrong_9 : decode cX8_wrong 9 = .ok (.goto 7, 3) := by decide +kernel
theorem dX8_wrong_12 : decode cX8_wrong 12 = .ok (.aload_n 0, 1) := by decide +kernel
theorem dX8_wrong_13 : decode cX8_wrong 13 = .ok (.invokevirtual 206, 3) := by decide +kernel
theorem dX8_wrong_16 : decode cX8_wrong 16 = .ok (.ireturn, 1) := by decide +kernel
theorem dX8_layEnds_0 : decode cX8_layEnds 0 = .ok (.aload_n 0, 1) := by decide +kernel
theorem dX8_layEnds_1 : decode cX8_layEnds 1 = .ok (.invokevirtual 151, 3) := by decide +kernel
theorem dX8_layEnds_4 : decode cX8_layEnds 4 = .ok (.aload_n 0, 1) := by decide +kernel
theorem dX8_layEnds_5 : decode cX8_layEnds 5 = .ok (.invokevirtual 191, 3) := by decide +kernel
theorem dX8_layEnds_8 : decode cX8_layEnds 8 = .ok (.aload_n 0, 1) := by decide +kernel
theorem dX8_layEnds_9 : decode cX8_layEnds 9 = .ok (.iconst 0, 1) := by decide +kernel
theorem dX8_layEnds_10 : decode cX8_layEnds 10 = .ok (.putfield 209, 3) := by decide +kernel
theorem dX8_layEnds_13 : decode cX8_layEnds 13 = .ok (.aload_n 0, 1) := by decide +kernel
theorem dX8_layEnds_14 : decode cX8_layEnds 14 = .ok (.iconst (-1), 1) := by decide +kernel
theorem dX8_layEnds_15 : decode cX8_layEnds 15 = .ok (.putfield 212, 3) := by decide +kernel
theorem dX8_layEnds_18 : decode cX8_layEnds 18 = .ok (.iconst 0, 1) := by decide +kernel
theorem dX8_layEnds_19 : decode cX8_layEnds 19 = .ok (.istore_n 1, 1) := by decide +kernel
theorem dX8_layEnds_20 : decode cX8_layEnds 20 = .ok (.iload_n 1, 1) := by decide +kernel
theorem dX8_layEnds_21 : decode cX8_layEnds 21 = .ok (.aload_n 0, 1) := by decide +kernel
theorem dX8_layEnds_22 : decode cX8_layEnds 22 = .ok (.getfield 168, 3) := by decide +kernel
theorem dX8_layEnds_25 : decode cX8_layEnds 25 = .ok (.if_icmp .ge 67, 3) := by decide +kernel
theorem dX8_layEnds_28 : decode cX8_layEnds 28 = .ok (.aload_n 0, 1) := by decide +kernel
theorem dX8_layEnds_29 : decode cX8_layEnds 29 = .ok (.aload_n 0, 1) := by decide +kernel
theorem dX8_layEnds_30 : decode cX8_layEnds 30 = .ok (.getfield 46, 3) := by decide +kernel
theorem dX8_layEnds_33 : decode cX8_layEnds 33 = .ok (.iload_n 1, 1) := by decide +kernel
theorem dX8_layEnds_34 : decode cX8_layEnds 34 = .ok (.iaload, 1) := by decide +kernel
theorem dX8_layEnds_35 : decode cX8_layEnds 35 = .ok (.invokevirtual 177, 3) := by decide +kernel
theorem dX8_layEnds_38 : decode cX8_layEnds 38 = .ok (.aload_n 0, 1) := by decide +kernel
theorem dX8_layEnds_39 : decode cX8_layEnds 39 = .ok (.invokevirtual 157, 3) := by decide +kernel
theorem dX8_layEnds_42 : decode cX8_layEnds 42 = .ok (.ifCond .ne 44, 3) := by decide +kernel
theorem dX8_layEnds_45 : decode cX8_layEnds 45 = .ok (.aload_n 0, 1) := by decide +kernel
theorem dX8_layEnds_46 : decode cX8_layEnds 46 = .ok (.aload_n 0, 1) := by decide +kernel
theorem dX8_layEnds_47 : decode cX8_layEnds 47 = .ok (.getfield 209, 3) := by decide +kernel
theorem dX8_layEnds_50 : decode cX8_layEnds 50 = .ok (.ifCond .ne 19, 3) := by decide +kernel
theorem dX8_layEnds_53 : decode cX8_layEnds 53 = .ok (.aload_n 0, 1) := by decide +kernel
theorem dX8_layEnds_54 : decode cX8_layEnds 54 = .ok (.getfield 39, 3) := by decide +kernel
theorem dX8_layEnds_57 : decode cX8_layEnds 57 = .ok (.aload_n 0, 1) := by decide +kernel
theorem dX8_layEnds_58 : decode cX8_layEnds 58 = .ok (.getfield 46, 3) := by decide +kernel
theorem dX8_layEnds_61 : decode cX8_layEnds 61 = .ok (.iload_n 1, 1) := by decide +kernel
theorem dX8_layEnds_62 : decode cX8_layEnds 62 = .ok (.iaload, 1) := by decide +kernel
theorem dX8_layEnds_63 : decode cX8_layEnds 63 = .ok (.iaload, 1) := by decide +kernel
theorem dX8_layEnds_64 : decode cX8_layEnds 64 = .ok (.iconst 1, 1) := by decide +kernel
theorem dX8_layEnds_65 : decode cX8_layEnds 65 = .ok (.isub, 1) := by decide +kernel
theorem dX8_layEnds_66 : decode cX8_layEnds 66 = .ok (.goto 7, 3) := by decide +kernel
theorem dX8_layEnds_69 : decode cX8_layEnds 69 = .ok (.aload_n 0, 1) := by decide +kernel
theorem dX8_layEnds_70 : decode cX8_layEnds 70 = .ok (.getfield 212, 3) := by decide +kernel
theorem dX8_layEnds_73 : decode cX8_layEnds 73 = .ok (.putfield 212, 3) := by decide +kernel
theorem dX8_layEnds_76 : decode cX8_layEnds 76 = .ok (.aload_n 0, 1) := by decide +kernel
theorem dX8_layEnds_77 : decode cX8_layEnds 77 = .ok (.dup, 1) := by decide +kernel
theorem dX8_layEnds_78 : decode cX8_layEnds 78 = .ok (.getfield 209, 3) := by decide +kernel
theorem dX8_layEnds_81 : decode cX8_layEnds 81 = .ok (.iconst 1, 1) := by decide +kernel
theorem dX8_layEnds_82 : decode cX8_layEnds 82 = .ok (.iadd, 1) := by decide +kernel
theorem dX8_layEnds_83 : decode cX8_layEnds 83 = .ok (.putfield 209, 3) := by decide +kernel
theorem dX8_layEnds_86 : decode cX8_layEnds 86 = .ok (.iinc 1 1, 3) := by decide +kernel
theorem dX8_layEnds_89 : decode cX8_layEnds 89 = .ok (.goto (-69), 3) := by decide +kernel
theorem dX8_layEnds_92 : decode cX8_layEnds 92 = .ok (.return_, 1) := by decide +kernel
theorem dX8_ends_0 : decode cX8_ends 0 = .ok (.aload_n 0, 1) := by decide +kernel
theorem dX8_ends_1 : decode cX8_ends 1 = .ok (.getfield 93, 3) := by decide +kernel
theorem dX8_ends_4 : decode cX8_ends 4 = .ok (.ifCond .ne 6, 3) := by decide +kernel
theorem dX8_ends_7 : decode cX8_ends 7 = .ok (.bipush (-103), 2) := by decide +kernel
theorem dX8_ends_9 : decode cX8_ends 9 = .ok (.ireturn, 1) := by decide +kernel
theorem dX8_ends_10 : decode cX8_ends 10 = .ok (.aload_n 0, 1) := by decide +kernel
theorem dX8_ends_11 : decode cX8_ends 11 = .ok (.invokevirtual 215, 3) := by decide +kernel
theorem dX8_ends_14 : decode cX8_ends 14 = .ok (.aload_n 0, 1) := by decide +kernel
theorem dX8_ends_15 : decode cX8_ends 15 = .ok (.getfield 209, 3) := by decide +kernel
theorem dX8_ends_18 : decode cX8_ends 18 = .ok (.ireturn, 1) := by decide +kernel
theorem dX8_soon_0 : decode cX8_soon 0 = .ok (.aload_n 0, 1) := by decide +kernel
theorem dX8_soon_1 : decode cX8_soon 1 = .ok (.getfield 93, 3) := by decide +kernel
theorem dX8_soon_4 : decode cX8_soon 4 = .ok (.ifCond .ne 6, 3) := by decide +kernel
theorem dX8_soon_7 : decode cX8_soon 7 = .ok (.bipush (-103), 2) := by decide +kernel
theorem dX8_soon_9 : decode cX8_soon 9 = .ok (.ireturn, 1) := by decide +kernel
theorem dX8_soon_10 : decode cX8_soon 10 = .ok (.aload_n 0, 1) := by decide +kernel
theorem dX8_soon_11 : decode cX8_soon 11 = .ok (.invokevirtual 215, 3) := by decide +kernel
theorem dX8_soon_14 : decode cX8_soon 14 = .ok (.aload_n 0, 1) := by decide +kernel
theorem dX8_soon_15 : decode cX8_soon 15 = .ok (.getfield 212, 3) := by decide +kernel
theorem dX8_soon_18 : decode cX8_soon 18 = .ok (.ireturn, 1) := by decide +kernel
theorem dX8_comes_0 : decode cX8_comes 0 = .ok (.aload_n 0, 1) := by decide +kernel
theorem dX8_comes_1 : decode cX8_comes 1 = .ok (.invokevirtual 90, 3) := by decide +kernel
theorem dX8_comes_4 : decode cX8_comes 4 = .ok (.aload_n 0, 1) := by decide +kernel
theorem dX8_comes_5 : decode cX8_comes 5 = .ok (.getfield 93, 3) := by decide +kernel
theorem dX8_comes_8 : decode cX8_comes 8 = .ok (.ifCond .eq 36, 3) := by decide +kernel
theorem dX8_comes_11 : decode cX8_comes 11 = .ok (.aload_n 0, 1) := by decide +kernel
theorem dX8_comes_12 : decode cX8_comes 12 = .ok (.getfield 83, 3) := by decide +kernel
theorem dX8_comes_15 : decode cX8_comes 15 = .ok (.aload_n 0, 1) := by decide +kernel
theorem dX8_comes_16 : decode cX8_comes 16 = .ok (.getfield 66, 3) := by decide +kernel
theorem dX8_comes_19 : decode cX8_comes 19 = .ok (.if_icmp .ne 25, 3) := by decide +kernel
theorem dX8_comes_22 : decode cX8_comes 22 = .ok (.aload_n 0, 1) := by decide +kernel
theorem dX8_comes_23 : decode cX8_comes 23 = .ok (.getfield 70, 3) := by decide +kernel
theorem dX8_comes_26 : decode cX8_comes 26 = .ok (.aload_n 0, 1) := by decide +kernel
theorem dX8_comes_27 : decode cX8_comes 27 = .ok (.getfield 93, 3) := by decide +kernel
theorem dX8_comes_30 : decode cX8_comes 30 = .ok (.if_icmp .ne 14, 3) := by decide +kernel
theorem dX8_comes_33 : decode cX8_comes 33 = .ok (.aload_n 0, 1) := by decide +kernel
theorem dX8_comes_34 : decode cX8_comes 34 = .ok (.getfield 66, 3) := by decide +kernel
theorem dX8_comes_37 : decode cX8_comes 37 = .ok (.aload_n 0, 1) := by decide +kernel
theorem dX8_comes_38 : decode cX8_comes 38 = .ok (.getfield 93, 3) := by decide +kernel
theorem dX8_comes_41 : decode cX8_comes 41 = .ok (.if_icmp .eq 6, 3) := by decide +kernel
theorem dX8_comes_44 : decode cX8_comes 44 = .ok (.bipush (-103), 2) := by decide +kernel
theorem dX8_comes_46 : decode cX8_comes 46 = .ok (.ireturn, 1) := by decide +kernel
theorem dX8_comes_47 : decode cX8_comes 47 = .ok (.iconst 0, 1) := by decide +kernel
theorem dX8_comes_48 : decode cX8_comes 48 = .ok (.istore_n 1, 1) := by decide +kernel
theorem dX8_comes_49 : decode cX8_comes 49 = .ok (.aload_n 0, 1) := by decide +kernel
theorem dX8_comes_50 : decode cX8_comes 50 = .ok (.getfield 93, 3) := by decide +kernel
theorem dX8_comes_53 : decode cX8_comes 53 = .ok (.iconst 1, 1) := by decide +kernel
theorem dX8_comes_54 : decode cX8_comes 54 = .ok (.isub, 1) := by decide +kernel
theorem dX8_comes_55 : decode cX8_comes 55 = .ok (.istore_n 2, 1) := by decide +kernel
theorem dX8_comes_56 : decode cX8_comes 56 = .ok (.iload_n 2, 1) := by decide +kernel
theorem dX8_comes_57 : decode cX8_comes 57 = .ok (.ifCond .lt 20, 3) := by decide +kernel
theorem dX8_comes_60 : decode cX8_comes 60 = .ok (.iconst 5, 1) := by decide +kernel
theorem dX8_comes_61 : decode cX8_comes 61 = .ok (.iload_n 1, 1) := by decide +kernel
theorem dX8_comes_62 : decode cX8_comes 62 = .ok (.imul, 1) := by decide +kernel
theorem dX8_comes_63 : decode cX8_comes 63 = .ok (.aload_n 0, 1) := by decide +kernel
theorem dX8_comes_64 : decode cX8_comes 64 = .ok (.getfield 32, 3) := by decide +kernel
theorem dX8_comes_67 : decode cX8_comes 67 = .ok (.iload_n 2, 1) := by decide +kernel
theorem dX8_comes_68 : decode cX8_comes 68 = .ok (.iaload, 1) := by decide +kernel
theorem dX8_comes_69 : decode cX8_comes 69 = .ok (.iadd, 1) := by decide +kernel
theorem dX8_comes_70 : decode cX8_comes 70 = .ok (.istore_n 1, 1) := by decide +kernel
theorem dX8_comes_71 : decode cX8_comes 71 = .ok (.iinc 2 (-1), 3) := by decide +kernel
theorem dX8_comes_74 : decode cX8_comes 74 = .ok (.goto (-18), 3) := by decide +kernel
theorem dX8_comes_77 : decode cX8_comes 77 = .ok (.aload_n 0, 1) := by decide +kernel
theorem dX8_comes_78 : decode cX8_comes 78 = .ok (.invokevirtual 151, 3) := by decide +kernel
theorem dX8_comes_81 : decode cX8_comes 81 = .ok (.aload_n 0, 1) := by decide +kernel
theorem dX8_comes_82 : decode cX8_comes 82 = .ok (.iload_n 1, 1) := by decide +kernel
theorem dX8_comes_83 : decode cX8_comes 83 = .ok (.invokevirtual 197, 3) := by decide +kernel
theorem dX8_comes_86 : decode cX8_comes 86 = .ok (.ireturn, 1) := by decide +kernel
theorem dX8_turns_0 : decode cX8_turns 0 = .ok (.aload_n 0, 1) := by decide +kernel
theorem dX8_turns_1 : decode cX8_turns 1 = .ok (.aload_n 0, 1) := by decide +kernel
theorem dX8_turns_2 : decode cX8_turns 2 = .ok (.invokevirtual 188, 3) := by decide +kernel
theorem dX8_turns_5 : decode cX8_turns 5 = .ok (.invokevirtual 197, 3) := by decide +kernel
theorem dX8_turns_8 : decode cX8_turns 8 = .ok (.ireturn, 1) := by decide +kernel
theorem dX8_moreNow_0 : decode cX8_moreNow 0 = .ok (.iconst (-1), 1) := by decide +kernel
theorem dX8_moreNow_1 : decode cX8_moreNow 1 = .ok (.istore_n 2, 1) := by decide +kernel
theorem dX8_moreNow_2 : decode cX8_moreNow 2 = .ok (.ldc 38, 2) := by decide +kernel
theorem dX8_moreNow_4 : decode cX8_moreNow 4 = .ok (.istore_n 3, 1) := by decide +kernel
theorem dX8_moreNow_5 : decode cX8_moreNow 5 = .ok (.iconst 0, 1) := by decide +kernel
theorem dX8_moreNow_6 : decode cX8_moreNow 6 = .ok (.istore 4, 2) := by decide +kernel
theorem dX8_moreNow_8 : decode cX8_moreNow 8 = .ok (.iload 4, 2) := by decide +kernel
theorem dX8_moreNow_10 : decode cX8_moreNow 10 = .ok (.aload_n 0, 1) := by decide +kernel
theorem dX8_moreNow_11 : decode cX8_moreNow 11 = .ok (.getfield 93, 3) := by decide +kernel
theorem dX8_moreNow_14 : decode cX8_moreNow 14 = .ok (.if_icmp .gt 118, 3) := by decide +kernel
theorem dX8_moreNow_17 : decode cX8_moreNow 17 = .ok (.aload_n 0, 1) := by decide +kernel
theorem dX8_moreNow_18 : decode cX8_moreNow 18 = .ok (.aload_n 0, 1) := by decide +kernel
theorem dX8_moreNow_19 : decode cX8_moreNow 19 = .ok (.getfield 93, 3) := by decide +kernel
theorem dX8_moreNow_22 : decode cX8_moreNow 22 = .ok (.iconst 1, 1) := by decide +kernel
theorem dX8_moreNow_23 : decode cX8_moreNow 23 = .ok (.iadd, 1) := by decide +kernel
theorem dX8_moreNow_24 : decode cX8_moreNow 24 = .ok (.putfield 135, 3) := by decide +kernel
theorem dX8_moreNow_27 : decode cX8_moreNow 27 = .ok (.iconst 0, 1) := by decide +kernel
theorem dX8_moreNow_28 : decode cX8_moreNow 28 = .ok (.istore 5, 2) := by decide +kernel
theorem dX8_moreNow_30 : decode cX8_moreNow 30 = .ok (.iload 5, 2) := by decide +kernel
theorem dX8_moreNow_32 : decode cX8_moreNow 32 = .ok (.aload_n 0, 1) := by decide +kernel
theorem dX8_moreNow_33 : decode cX8_moreNow 33 = .ok (.getfield 135, 3) := by decide +kernel
theorem dX8_moreNow_36 : decode cX8_moreNow 36 = .ok (.if_icmp .ge 48, 3) := by decide +kernel
theorem dX8_moreNow_39 : decode cX8_moreNow 39 = .ok (.aload_n 0, 1) := by decide +kernel
theorem dX8_moreNow_40 : decode cX8_moreNow 40 = .ok (.getfield 35, 3) := by decide +kernel
theorem dX8_moreNow_43 : decode cX8_moreNow 43 = .ok (.iload 5, 2) := by decide +kernel
theorem dX8_moreNow_45 : decode cX8_moreNow 45 = .ok (.iload 5, 2) := by decide +kernel
theorem dX8_moreNow_47 : decode cX8_moreNow 47 = .ok (.iload 4, 2) := by decide +kernel
theorem dX8_moreNow_49 : decode cX8_moreNow 49 = .ok (.if_icmp .ne 7, 3) := by decide +kernel
theorem dX8_moreNow_52 : decode cX8_moreNow 52 = .ok (.iconst 0, 1) := by decide +kernel
theorem dX8_moreNow_53 : decode cX8_moreNow 53 = .ok (.goto 24, 3) := by decide +kernel
theorem dX8_moreNow_56 : decode cX8_moreNow 56 = .ok (.aload_n 0, 1) := by decide +kernel
theorem dX8_moreNow_57 : decode cX8_moreNow 57 = .ok (.getfield 7, 3) := by decide +kernel
theorem dX8_moreNow_60 : decode cX8_moreNow 60 = .ok (.iload 5, 2) := by decide +kernel
theorem dX8_moreNow_62 : decode cX8_moreNow 62 = .ok (.iload 4, 2) := by decide +kernel
theorem dX8_moreNow_64 : decode cX8_moreNow 64 = .ok (.if_icmp .ge 8, 3) := by decide +kernel
theorem dX8_moreNow_67 : decode cX8_moreNow 67 = .ok (.iload 5, 2) := by decide +kernel
theorem dX8_moreNow_69 : decode cX8_moreNow 69 = .ok (.goto 7, 3) := by decide +kernel
theorem dX8_moreNow_72 : decode cX8_moreNow 72 = .ok (.iload 5, 2) := by decide +kernel
theorem dX8_moreNow_74 : decode cX8_moreNow 74 = .ok (.iconst 1, 1) := by decide +kernel
theorem dX8_moreNow_75 : decode cX8_moreNow 75 = .ok (.isub, 1) := by decide +kernel
theorem dX8_moreNow_76 : decode cX8_moreNow 76 = .ok (.iaload, 1) := by decide +kernel
theorem dX8_moreNow_77 : decode cX8_moreNow 77 = .ok (.iastore, 1) := by decide +kernel
theorem dX8_moreNow_78 : decode cX8_moreNow 78 = .ok (.iinc 5 1, 3) := by decide +kernel
theorem dX8_moreNow_81 : decode cX8_moreNow 81 = .ok (.goto (-51), 3) := by decide +kernel
theorem dX8_moreNow_84 : decode cX8_moreNow 84 = .ok (.aload_n 0, 1) := by decide +kernel
theorem dX8_moreNow_85 : decode cX8_moreNow 85 = .ok (.invokevirtual 218, 3) := by decide +kernel
theorem dX8_moreNow_88 : decode cX8_moreNow 88 = .ok (.istore 5, 2) := by decide +kernel
theorem dX8_moreNow_90 : decode cX8_moreNow 90 = .ok (.iload 5, 2) := by decide +kernel
theorem dX8_moreNow_92 : decode cX8_moreNow 92 = .ok (.ifCond .lt 14, 3) := by decide +kernel
theorem dX8_moreNow_95 : decode cX8_moreNow 95 = .ok (.iload 5, 2) := by decide +kernel
theorem dX8_moreNow_97 : decode cX8_moreNow 97 = .ok (.iload_n 3, 1) := by decide +kernel
theorem dX8_moreNow_98 : decode cX8_moreNow 98 = .ok (.if_icmp .ge 8, 3) := by decide +kernel
theorem dX8_moreNow_101 : decode cX8_moreNow 101 = .ok (.iload 4, 2) := by decide +kernel
theorem dX8_moreNow_103 : decode cX8_moreNow 103 = .ok (.goto 4, 3) := by decide +kernel
theorem dX8_moreNow_106 : decode cX8_moreNow 106 = .ok (.iload_n 2, 1) := by decide +kernel
theorem dX8_moreNow_107 : decode cX8_moreNow 107 = .ok (.istore_n 2, 1) := by decide +kernel
theorem dX8_moreNow_108 : decode cX8_moreNow 108 = .ok (.iload 5, 2) := by decide +kernel
theorem dX8_moreNow_110 : decode cX8_moreNow 110 = .ok (.ifCond .lt 14, 3) := by decide +kernel
theorem dX8_moreNow_113 : decode cX8_moreNow 113 = .ok (.iload 5, 2) := by decide +kernel
theorem dX8_moreNow_115 : decode cX8_moreNow 115 = .ok (.iload_n 3, 1) := by decide +kernel
theorem dX8_moreNow_116 : decode cX8_moreNow 116 = .ok (.if_icmp .ge 8, 3) := by decide +kernel
theorem dX8_moreNow_119 : decode cX8_moreNow 119 = .ok (.iload 5, 2) := by decide +kernel
theorem dX8_moreNow_121 : decode cX8_moreNow 121 = .ok (.goto 4, 3) := by decide +kernel
theorem dX8_moreNow_124 : decode cX8_moreNow 124 = .ok (.iload_n 3, 1) := by decide +kernel
theorem dX8_moreNow_125 : decode cX8_moreNow 125 = .ok (.istore_n 3, 1) := by decide +kernel
theorem dX8_moreNow_126 : decode cX8_moreNow 126 = .ok (.iinc 4 1, 3) := by decide +kernel
theorem dX8_moreNow_129 : decode cX8_moreNow 129 = .ok (.goto (-121), 3) := by decide +kernel
theorem dX8_moreNow_132 : decode cX8_moreNow 132 = .ok (.iload_n 2, 1) := by decide +kernel
theorem dX8_moreNow_133 : decode cX8_moreNow 133 = .ok (.iconst (-1), 1) := by decide +kernel
theorem dX8_moreNow_134 : decode cX8_moreNow 134 = .ok (.if_icmp .eq 7, 3) := by decide +kernel
theorem dX8_moreNow_137 : decode cX8_moreNow 137 = .ok (.iload_n 1, 1) := by decide +kernel
theorem dX8_moreNow_138 : decode cX8_moreNow 138 = .ok (.ifCond .ne 7, 3) := by decide +kernel
theorem dX8_moreNow_141 : decode cX8_moreNow 141 = .ok (.iload_n 2, 1) := by decide +kernel
theorem dX8_moreNow_142 : decode cX8_moreNow 142 = .ok (.goto 4, 3) := by decide +kernel
theorem dX8_moreNow_145 : decode cX8_moreNow 145 = .ok (.iload_n 3, 1) := by decide +kernel
theorem dX8_moreNow_146 : decode cX8_moreNow 146 = .ok (.ireturn, 1) := by decide +kernel
theorem dX8_more_0 : decode cX8_more 0 = .ok (.iload_n 1, 1) := by decide +kernel
theorem dX8_more_1 : decode cX8_more 1 = .ok (.iconst 0, 1) := by decide +kernel
theorem dX8_more_2 : decode cX8_more 2 = .ok (.iconst 1, 1) := by decide +kernel
theorem dX8_more_3 : decode cX8_more 3 = .ok (.invokestatic 117, 3) := by decide +kernel
theorem dX8_more_6 : decode cX8_more 6 = .ok (.ifCond .ne 6, 3) := by decide +kernel
theorem dX8_more_9 : decode cX8_more 9 = .ok (.bipush (-102), 2) := by decide +kernel
theorem dX8_more_11 : decode cX8_more 11 = .ok (.ireturn, 1) := by decide +kernel
theorem dX8_more_12 : decode cX8_more 12 = .ok (.aload_n 0, 1) := by decide +kernel
theorem dX8_more_13 : decode cX8_more 13 = .ok (.getfield 93, 3) := by decide +kernel
theorem dX8_more_16 : decode cX8_more 16 = .ok (.ifCond .eq 12, 3) := by decide +kernel
theorem dX8_more_19 : decode cX8_more 19 = .ok (.aload_n 0, 1) := by decide +kernel
theorem dX8_more_20 : decode cX8_more 20 = .ok (.getfield 93, 3) := by decide +kernel
theorem dX8_more_23 : decode cX8_more 23 = .ok (.bipush 7, 2) := by decide +kernel
theorem dX8_more_25 : decode cX8_more 25 = .ok (.if_icmp .ne 8, 3) := by decide +kernel
theorem dX8_more_28 : decode cX8_more 28 = .ok (.bipush (-103), 2) := by decide +kernel
theorem dX8_more_30 : decode cX8_more 30 = .ok (.goto 8, 3) := by decide +kernel
theorem dX8_more_33 : decode cX8_more 33 = .ok (.aload_n 0, 1) := by decide +kernel
theorem dX8_more_34 : decode cX8_more 34 = .ok (.iload_n 1, 1) := by decide +kernel
theorem dX8_more_35 : decode cX8_more 35 = .ok (.invokevirtual 221, 3) := by decide +kernel
theorem dX8_more_38 : decode cX8_more 38 = .ok (.ireturn, 1) := by decide +kernel
theorem dX8_offNow_0 : decode cX8_offNow 0 = .ok (.iconst (-1), 1) := by decide +kernel
theorem dX8_offNow_1 : decode cX8_offNow 1 = .ok (.istore_n 2, 1) := by decide +kernel
theorem dX8_offNow_2 : decode cX8_offNow 2 = .ok (.ldc 38, 2) := by decide +kernel
theorem dX8_offNow_4 : decode cX8_offNow 4 = .ok (.istore_n 3, 1) := by decide +kernel
theorem dX8_offNow_5 : decode cX8_offNow 5 = .ok (.iconst 0, 1) := by decide +kernel
theorem dX8_offNow_6 : decode cX8_offNow 6 = .ok (.istore 4, 2) := by decide +kernel
theorem dX8_offNow_8 : decode cX8_offNow 8 = .ok (.iconst 0, 1) := by decide +kernel
theorem dX8_offNow_9 : decode cX8_offNow 9 = .ok (.istore 5, 2) := by decide +kernel
theorem dX8_offNow_11 : decode cX8_offNow 11 = .ok (.iload 5, 2) := by decide +kernel
theorem dX8_offNow_13 : decode cX8_offNow 13 = .ok (.aload_n 0, 1) := by decide +kernel
theorem dX8_offNow_14 : decode cX8_offNow 14 = .ok (.getfield 93, 3) := by decide +kernel
theorem dX8_offNow_17 : decode cX8_offNow 17 = .ok (.if_icmp .ge 76, 3) := by decide +kernel
theorem dX8_offNow_20 : decode cX8_offNow 20 = .ok (.aload_n 0, 1) := by decide +kernel
theorem dX8_offNow_21 : decode cX8_offNow 21 = .ok (.getfield 7, 3) := by decide +kernel
theorem dX8_offNow_24 : decode cX8_offNow 24 = .ok (.iload 5, 2) := by decide +kernel
theorem dX8_offNow_26 : decode cX8_offNow 26 = .ok (.iaload, 1) := by decide +kernel
theorem dX8_offNow_27 : decode cX8_offNow 27 = .ok (.ifCond .le 60, 3) := by decide +kernel
theorem dX8_offNow_30 : decode cX8_offNow 30 = .ok (.aload_n 0, 1) := by decide +kernel
theorem dX8_offNow_31 : decode cX8_offNow 31 = .ok (.invokevirtual 185, 3) := by decide +kernel
theorem dX8_offNow_34 : decode cX8_offNow 34 = .ok (.aload_n 0, 1) := by decide +kernel
theorem dX8_offNow_35 : decode cX8_offNow 35 = .ok (.getfield 35, 3) := by decide +kernel
theorem dX8_offNow_38 : decode cX8_offNow 38 = .ok (.iload 5, 2) := by decide +kernel
theorem dX8_offNow_40 : decode cX8_offNow 40 = .ok (.iconst 0, 1) := by decide +kernel
theorem dX8_offNow_41 : decode cX8_offNow 41 = .ok (.iastore, 1) := by decide +kernel
theorem dX8_offNow_42 : decode cX8_offNow 42 = .ok (.aload_n 0, 1) := by decide +kernel
theorem dX8_offNow_43 : decode cX8_offNow 43 = .ok (.invokevirtual 218, 3) := by decide +kernel
theorem dX8_offNow_46 : decode cX8_offNow 46 = .ok (.istore 6, 2) := by decide +kernel
theorem dX8_offNow_48 : decode cX8_offNow 48 = .ok (.iload 6, 2) := by decide +kernel
theorem dX8_offNow_50 : decode cX8_offNow 50 = .ok (.ifCond .lt 14, 3) := by decide +kernel
theorem dX8_offNow_53 : decode cX8_offNow 53 = .ok (.iload 6, 2) := by decide +kernel
theorem dX8_offNow_55 : decode cX8_offNow 55 = .ok (.iload_n 3, 1) := by decide +kernel
theorem dX8_offNow_56 : decode cX8_offNow 56 = .ok (.if_icmp .ge 8, 3) := by decide +kernel
theorem dX8_offNow_59 : decode cX8_offNow 59 = .ok (.iload 4, 2) := by decide +kernel
theorem dX8_offNow_61 : decode cX8_offNow 61 = .ok (.goto 4, 3) := by decide +kernel
theorem dX8_offNow_64 : decode cX8_offNow 64 = .ok (.iload_n 2, 1) := by decide +kernel
theorem dX8_offNow_65 : decode cX8_offNow 65 = .ok (.istore_n 2, 1) := by decide +kernel
theorem dX8_offNow_66 : decode cX8_offNow 66 = .ok (.iload 6, 2) := by decide +kernel
theorem dX8_offNow_68 : decode cX8_offNow 68 = .ok (.ifCond .lt 14, 3) := by decide +kernel
theorem dX8_offNow_71 : decode cX8_offNow 71 = .ok (.iload 6, 2) := by decide +kernel
theorem dX8_offNow_73 : decode cX8_offNow 73 = .ok (.iload_n 3, 1) := by decide +kernel
theorem dX8_offNow_74 : decode cX8_offNow 74 = .ok (.if_icmp .ge 8, 3) := by decide +kernel
theorem dX8_offNow_77 : decode cX8_offNow 77 = .ok (.iload 6, 2) := by decide +kernel
theorem dX8_offNow_79 : decode cX8_offNow 79 = .ok (.goto 4, 3) := by decide +kernel
theorem dX8_offNow_82 : decode cX8_offNow 82 = .ok (.iload_n 3, 1) := by decide +kernel
theorem dX8_offNow_83 : decode cX8_offNow 83 = .ok (.istore_n 3, 1) := by decide +kernel
theorem dX8_offNow_84 : decode cX8_offNow 84 = .ok (.iinc 4 1, 3) := by decide +kernel
theorem dX8_offNow_87 : decode cX8_offNow 87 = .ok (.iinc 5 1, 3) := by decide +kernel
theorem dX8_offNow_90 : decode cX8_offNow 90 = .ok (.goto (-79), 3) := by decide +kernel
theorem dX8_offNow_93 : decode cX8_offNow 93 = .ok (.iload_n 2, 1) := by decide +kernel
theorem dX8_offNow_94 : decode cX8_offNow 94 = .ok (.iconst (-1), 1) := by decide +kernel
theorem dX8_offNow_95 : decode cX8_offNow 95 = .ok (.if_icmp .eq 7, 3) := by decide +kernel
theorem dX8_offNow_98 : decode cX8_offNow 98 = .ok (.iload_n 1, 1) := by decide +kernel
theorem dX8_offNow_99 : decode cX8_offNow 99 = .ok (.ifCond .ne 7, 3) := by decide +kernel
theorem dX8_offNow_102 : decode cX8_offNow 102 = .ok (.iload_n 2, 1) := by decide +kernel
theorem dX8_offNow_103 : decode cX8_offNow 103 = .ok (.goto 4, 3) := by decide +kernel
theorem dX8_offNow_106 : decode cX8_offNow 106 = .ok (.iload_n 3, 1) := by decide +kernel
theorem dX8_offNow_107 : decode cX8_offNow 107 = .ok (.ireturn, 1) := by decide +kernel
theorem dX8_off_0 : decode cX8_off 0 = .ok (.iload_n 1, 1) := by decide +kernel
theorem dX8_off_1 : decode cX8_off 1 = .ok (.iconst 0, 1) := by decide +kernel
theorem dX8_off_2 : decode cX8_off 2 = .ok (.iconst 1, 1) := by decide +kernel
theorem dX8_off_3 : decode cX8_off 3 = .ok (.invokestatic 117, 3) := by decide +kernel
theorem dX8_off_6 : decode cX8_off 6 = .ok (.ifCond .ne 6, 3) := by decide +kernel
theorem dX8_off_9 : decode cX8_off 9 = .ok (.bipush (-102), 2) := by decide +kernel
theorem dX8_off_11 : decode cX8_off 11 = .ok (.ireturn, 1) := by decide +kernel
theorem dX8_off_12 : decode cX8_off 12 = .ok (.aload_n 0, 1) := by decide +kernel
theorem dX8_off_13 : decode cX8_off 13 = .ok (.getfield 93, 3) := by decide +kernel
theorem dX8_off_16 : decode cX8_off 16 = .ok (.ifCond .ne 8, 3) := by decide +kernel
theorem dX8_off_19 : decode cX8_off 19 = .ok (.bipush (-103), 2) := by decide +kernel
theorem dX8_off_21 : decode cX8_off 21 = .ok (.goto 8, 3) := by decide +kernel
theorem dX8_off_24 : decode cX8_off 24 = .ok (.aload_n 0, 1) := by decide +kernel
theorem dX8_off_25 : decode cX8_off 25 = .ok (.iload_n 1, 1) := by decide +kernel
theorem dX8_off_26 : decode cX8_off 26 = .ok (.invokevirtual 224, 3) := by decide +kernel
theorem dX8_off_29 : decode cX8_off 29 = .ok (.ireturn, 1) := by decide +kernel
theorem dX8_isOf_0 : decode cX8_isOf 0 = .ok (.iload_n 1, 1) := by decide +kernel
theorem dX8_isOf_1 : decode cX8_isOf 1 = .ok (.invokestatic 138, 3) := by decide +kernel
theorem dX8_isOf_4 : decode cX8_isOf 4 = .ok (.iload_n 2, 1) := by decide +kernel
theorem dX8_isOf_5 : decode cX8_isOf 5 = .ok (.ifCond .ne 7, 3) := by decide +kernel
theorem dX8_isOf_8 : decode cX8_isOf 8 = .ok (.iconst 1, 1) := by decide +kernel
theorem dX8_isOf_9 : decode cX8_isOf 9 = .ok (.goto 4, 3) := by decide +kernel
theorem dX8_isOf_12 : decode cX8_isOf 12 = .ok (.iconst 2, 1) := by decide +kernel
theorem dX8_isOf_13 : decode cX8_isOf 13 = .ok (.if_icmp .ne 7, 3) := by decide +kernel
theorem dX8_isOf_16 : decode cX8_isOf 16 = .ok (.iconst 1, 1) := by decide +kernel
theorem dX8_isOf_17 : decode cX8_isOf 17 = .ok (.goto 4, 3) := by decide +kernel
theorem dX8_isOf_20 : decode cX8_isOf 20 = .ok (.iconst 0, 1) := by decide +kernel
theorem dX8_isOf_21 : decode cX8_isOf 21 = .ok (.ireturn, 1) := by decide +kernel
theorem dX8_progress_0 : decode cX8_progress 0 = .ok (.iload_n 1, 1) := by decide +kernel
theorem dX8_progress_1 : decode cX8_progress 1 = .ok (.istore_n 2, 1) := by decide +kernel
theorem dX8_progress_2 : decode cX8_progress 2 = .ok (.iconst 0, 1) := by decide +kernel
theorem dX8_progress_3 : decode cX8_progress 3 = .ok (.istore_n 3, 1) := by decide +kernel
theorem dX8_progress_4 : decode cX8_progress 4 = .ok (.iconst 0, 1) := by decide +kernel
theorem dX8_progress_5 : decode cX8_progress 5 = .ok (.istore 4, 2) := by decide +kernel
theorem dX8_progress_7 : decode cX8_progress 7 = .ok (.iload 4, 2) := by decide +kernel
theorem dX8_progress_9 : decode cX8_progress 9 = .ok (.aload_n 0, 1) := by decide +kernel
theorem dX8_progress_10 : decode cX8_progress 10 = .ok (.getfield 135, 3) := by decide +kernel
theorem dX8_progress_13 : decode cX8_progress 13 = .ok (.if_icmp .ge 54, 3) := by decide +kernel
theorem dX8_progress_16 : decode cX8_progress 16 = .ok (.iload_n 2, 1) := by decide +kernel
theorem dX8_progress_17 : decode cX8_progress 17 = .ok (.iconst 5, 1) := by decide +kernel
theorem dX8_progress_18 : decode cX8_progress 18 = .ok (.irem, 1) := by decide +kernel
theorem dX8_progress_19 : decode cX8_progress 19 = .ok (.invokestatic 138, 3) := by decide +kernel
theorem dX8_progress_22 : decode cX8_progress 22 = .ok (.istore 5, 2) := by decide +kernel
theorem dX8_progress_24 : decode cX8_progress 24 = .ok (.iload_n 3, 1) := by decide +kernel
theorem dX8_progress_25 : decode cX8_progress 25 = .ok (.iload 5, 2) := by decide +kernel
theorem dX8_progress_27 : decode cX8_progress 27 = .ok (.iconst 1, 1) := by decide +kernel
theorem dX8_progress_28 : decode cX8_progress 28 = .ok (.if_icmp .ne 8, 3) := by decide +kernel
theorem dX8_progress_31 : decode cX8_progress 31 = .ok (.iload 4, 2) := by decide +kernel
theorem dX8_progress_33 : decode cX8_progress 33 = .ok (.goto 22, 3) := by decide +kernel
theorem dX8_progress_36 : decode cX8_progress 36 = .ok (.iload 5, 2) := by decide +kernel
theorem dX8_progress_38 : decode cX8_progress 38 = .ok (.iconst 2, 1) := by decide +kernel
theorem dX8_progress_39 : decode cX8_progress 39 = .ok (.if_icmp .ne 15, 3) := by decide +kernel
theorem dX8_progress_42 : decode cX8_progress 42 = .ok (.aload_n 0, 1) := by decide +kernel
theorem dX8_progress_43 : decode cX8_progress 43 = .ok (.getfield 135, 3) := by decide +kernel
theorem dX8_progress_46 : decode cX8_progress 46 = .ok (.iconst 1, 1) := by decide +kernel
theorem dX8_progress_47 : decode cX8_progress 47 = .ok (.isub, 1) := by decide +kernel
theorem dX8_progress_48 : decode cX8_progress 48 = .ok (.iload 4, 2) := by decide +kernel
theorem dX8_progress_50 : decode cX8_progress 50 = .ok (.isub, 1) := by decide +kernel
theorem dX8_progress_51 : decode cX8_progress 51 = .ok (.goto 4, 3) := by decide +kernel
theorem dX8_progress_54 : decode cX8_progress 54 = .ok (.iconst 0, 1) := by decide +kernel
theorem dX8_progress_55 : decode cX8_progress 55 = .ok (.iadd, 1) := by decide +kernel
theorem dX8_progress_56 : decode cX8_progress 56 = .ok (.istore_n 3, 1) := by decide +kernel
theorem dX8_progress_57 : decode cX8_progress 57 = .ok (.iload_n 2, 1) := by decide +kernel
theorem dX8_progress_58 : decode cX8_progress 58 = .ok (.iconst 5, 1) := by decide +kernel
theorem dX8_progress_59 : decode cX8_progress 59 = .ok (.idiv, 1) := by decide +kernel
theorem dX8_progress_60 : decode cX8_progress 60 = .ok (.istore_n 2, 1) := by decide +kernel
theorem dX8_progress_61 : decode cX8_progress 61 = .ok (.iinc 4 1, 3) := by decide +kernel
theorem dX8_progress_64 : decode cX8_progress 64 = .ok (.goto (-57), 3) := by decide +kernel
theorem dX8_progress_67 : decode cX8_progress 67 = .ok (.iload_n 3, 1) := by decide +kernel
theorem dX8_progress_68 : decode cX8_progress 68 = .ok (.ireturn, 1) := by decide +kernel
theorem dX8_winsBy_0 : decode cX8_winsBy 0 = .ok (.aload_n 0, 1) := by decide +kernel
theorem dX8_winsBy_1 : decode cX8_winsBy 1 = .ok (.iload_n 1, 1) := by decide +kernel
theorem dX8_winsBy_2 : decode cX8_winsBy 2 = .ok (.invokevirtual 177, 3) := by decide +kernel
theorem dX8_winsBy_5 : decode cX8_winsBy 5 = .ok (.iconst 0, 1) := by decide +kernel
theorem dX8_winsBy_6 : decode cX8_winsBy 6 = .ok (.istore_n 3, 1) := by decide +kernel
theorem dX8_winsBy_7 : decode cX8_winsBy 7 = .ok (.iload_n 3, 1) := by decide +kernel
theorem dX8_winsBy_8 : decode cX8_winsBy 8 = .ok (.aload_n 0, 1) := by decide +kernel
theorem dX8_winsBy_9 : decode cX8_winsBy 9 = .ok (.getfield 135, 3) := by decide +kernel
theorem dX8_winsBy_12 : decode cX8_winsBy 12 = .ok (.if_icmp .ge 80, 3) := by decide +kernel
theorem dX8_winsBy_15 : decode cX8_winsBy 15 = .ok (.iconst 0, 1) := by decide +kernel
theorem dX8_winsBy_16 : decode cX8_winsBy 16 = .ok (.istore 4, 2) := by decide +kernel
theorem dX8_winsBy_18 : decode cX8_winsBy 18 = .ok (.iload 4, 2) := by decide +kernel
theorem dX8_winsBy_20 : decode cX8_winsBy 20 = .ok (.aload_n 0, 1) := by decide +kernel
theorem dX8_winsBy_21 : decode cX8_winsBy 21 = .ok (.getfield 135, 3) := by decide +kernel
theorem dX8_winsBy_24 : decode cX8_winsBy 24 = .ok (.if_icmp .ge 62, 3) := by decide +kernel
theorem dX8_winsBy_27 : decode cX8_winsBy 27 = .ok (.aload_n 0, 1) := by decide +kernel
theorem dX8_winsBy_28 : decode cX8_winsBy 28 = .ok (.aload_n 0, 1) := by decide +kernel
theorem dX8_winsBy_29 : decode cX8_winsBy 29 = .ok (.getfield 35, 3) := by decide +kernel
theorem dX8_winsBy_32 : decode cX8_winsBy 32 = .ok (.iload_n 3, 1) := by decide +kernel
theorem dX8_winsBy_33 : decode cX8_winsBy 33 = .ok (.iaload, 1) := by decide +kernel
theorem dX8_winsBy_34 : decode cX8_winsBy 34 = .ok (.iload_n 2, 1) := by decide +kernel
theorem dX8_winsBy_35 : decode cX8_winsBy 35 = .ok (.invokevirtual 227, 3) := by decide +kernel
theorem dX8_winsBy_38 : decode cX8_winsBy 38 = .ok (.ifCond .eq 42, 3) := by decide +kernel
theorem dX8_winsBy_41 : decode cX8_winsBy 41 = .ok (.aload_n 0, 1) := by decide +kernel
theorem dX8_winsBy_42 : decode cX8_winsBy 42 = .ok (.iload_n 3, 1) := by decide +kernel
theorem dX8_winsBy_43 : decode cX8_winsBy 43 = .ok (.iload 4, 2) := by decide +kernel
theorem dX8_winsBy_45 : decode cX8_winsBy 45 = .ok (.invokevirtual 154, 3) := by decide +kernel
theorem dX8_winsBy_48 : decode cX8_winsBy 48 = .ok (.ifCond .eq 32, 3) := by decide +kernel
theorem dX8_winsBy_51 : decode cX8_winsBy 51 = .ok (.aload_n 0, 1) := by decide +kernel
theorem dX8_winsBy_52 : decode cX8_winsBy 52 = .ok (.getfield 49, 3) := by decide +kernel
theorem dX8_winsBy_55 : decode cX8_winsBy 55 = .ok (.iload_n 1, 1) := by decide +kernel
theorem dX8_winsBy_56 : decode cX8_winsBy 56 = .ok (.aload_n 0, 1) := by decide +kernel
theorem dX8_winsBy_57 : decode cX8_winsBy 57 = .ok (.getfield 35, 3) := by decide +kernel
theorem dX8_winsBy_60 : decode cX8_winsBy 60 = .ok (.iload_n 3, 1) := by decide +kernel
theorem dX8_winsBy_61 : decode cX8_winsBy 61 = .ok (.iaload, 1) := by decide +kernel
theorem dX8_winsBy_62 : decode cX8_winsBy 62 = .ok (.iload_n 3, 1) := by decide +kernel
theorem dX8_winsBy_63 : decode cX8_winsBy 63 = .ok (.iload 4, 2) := by decide +kernel
theorem dX8_winsBy_65 : decode cX8_winsBy 65 = .ok (.invokestatic 181, 3) := by decide +kernel
theorem dX8_winsBy_68 : decode cX8_winsBy 68 = .ok (.baload, 1) := by decide +kernel
theorem dX8_winsBy_69 : decode cX8_winsBy 69 = .ok (.iconst 2, 1) := by decide +kernel
theorem dX8_winsBy_70 : decode cX8_winsBy 70 = .ok (.iload_n 2, 1) := by decide +kernel
theorem dX8_winsBy_71 : decode cX8_winsBy 71 = .ok (.isub, 1) := by decide +kernel
theorem dX8_winsBy_72 : decode cX8_winsBy 72 = .ok (.ishr, 1) := by decide +kernel
theorem dX8_winsBy_73 : decode cX8_winsBy 73 = .ok (.iconst 1, 1) := by decide +kernel
theorem dX8_winsBy_74 : decode cX8_winsBy 74 = .ok (.iand, 1) := by decide +kernel
theorem dX8_winsBy_75 : decode cX8_winsBy 75 = .ok (.ifCond .ne 5, 3) := by decide +kernel
theorem dX8_winsBy_78 : decode cX8_winsBy 78 = .ok (.iconst 1, 1) := by decide +kernel
theorem dX8_winsBy_79 : decode cX8_winsBy 79 = .ok (.ireturn, 1) := by decide +kernel
theorem dX8_winsBy_80 : decode cX8_winsBy 80 = .ok (.iinc 4 1, 3) := by decide +kernel
theorem dX8_winsBy_83 : decode cX8_winsBy 83 = .ok (.goto (-65), 3) := by decide +kernel
theorem dX8_winsBy_86 : decode cX8_winsBy 86 = .ok (.iinc 3 1, 3) := by decide +kernel
theorem dX8_winsBy_89 : decode cX8_winsBy 89 = .ok (.goto (-82), 3) := by decide +kernel
theorem dX8_winsBy_92 : decode cX8_winsBy 92 = .ok (.iconst 0, 1) := by decide +kernel
theorem dX8_winsBy_93 : decode cX8_winsBy 93 = .ok (.ireturn, 1) := by decide +kernel
theorem dX8_layGame_0 : decode cX8_layGame 0 = .ok (.aload_n 0, 1) := by decide +kernel
theorem dX8_layGame_1 : decode cX8_layGame 1 = .ok (.invokevirtual 151, 3) := by decide +kernel
theorem dX8_layGame_4 : decode cX8_layGame 4 = .ok (.aload_n 0, 1) := by decide +kernel
theorem dX8_layGame_5 : decode cX8_layGame 5 = .ok (.invokevirtual 191, 3) := by decide +kernel
theorem dX8_layGame_8 : decode cX8_layGame 8 = .ok (.aload_n 0, 1) := by decide +kernel
theorem dX8_layGame_9 : decode cX8_layGame 9 = .ok (.getfield 46, 3) := by decide +kernel
theorem dX8_layGame_12 : decode cX8_layGame 12 = .ok (.iconst 0, 1) := by decide +kernel
theorem dX8_layGame_13 : decode cX8_layGame 13 = .ok (.iaload, 1) := by decide +kernel
theorem dX8_layGame_14 : decode cX8_layGame 14 = .ok (.istore_n 1, 1) := by decide +kernel
theorem dX8_layGame_15 : decode cX8_layGame 15 = .ok (.bipush 42, 2) := by decide +kernel
theorem dX8_layGame_17 : decode cX8_layGame 17 = .ok (.istore_n 2, 1) := by decide +kernel
theorem dX8_layGame_18 : decode cX8_layGame 18 = .ok (.iload_n 2, 1) := by decide +kernel
theorem dX8_layGame_19 : decode cX8_layGame 19 = .ok (.ifCond .lt 90, 3) := by decide +kernel
theorem dX8_layGame_22 : decode cX8_layGame 22 = .ok (.iconst 0, 1) := by decide +kernel
theorem dX8_layGame_23 : decode cX8_layGame 23 = .ok (.istore_n 3, 1) := by decide +kernel
theorem dX8_layGame_24 : decode cX8_layGame 24 = .ok (.iload_n 3, 1) := by decide +kernel
theorem dX8_layGame_25 : decode cX8_layGame 25 = .ok (.aload_n 0, 1) := by decide +kernel
theorem dX8_layGame_26 : decode cX8_layGame 26 = .ok (.getfield 168, 3) := by decide +kernel
theorem dX8_layGame_29 : decode cX8_layGame 29 = .ok (.if_icmp .ge 74, 3) := by decide +kernel
theorem dX8_layGame_32 : decode cX8_layGame 32 = .ok (.aload_n 0, 1) := by decide +kernel
theorem dX8_layGame_33 : decode cX8_layGame 33 = .ok (.getfield 46, 3) := by decide +kernel
theorem dX8_layGame_36 : decode cX8_layGame 36 = .ok (.iload_n 3, 1) := by decide +kernel
theorem dX8_layGame_37 : decode cX8_layGame 37 = .ok (.iaload, 1) := by decide +kernel
theorem dX8_layGame_38 : decode cX8_layGame 38 = .ok (.istore 4, 2) := by decide +kernel
theorem dX8_layGame_40 : decode cX8_layGame 40 = .ok (.aload_n 0, 1) := by decide +kernel
theorem dX8_layGame_41 : decode cX8_layGame 41 = .ok (.iload 4, 2) := by decide +kernel
theorem dX8_layGame_43 : decode cX8_layGame 43 = .ok (.invokevirtual 230, 3) := by decide +kernel
theorem dX8_layGame_46 : decode cX8_layGame 46 = .ok (.iload_n 2, 1) := by decide +kernel
theorem dX8_layGame_47 : decode cX8_layGame 47 = .ok (.if_icmp .ne 50, 3) := by decide +kernel
theorem dX8_layGame_50 : decode cX8_layGame 50 = .ok (.aload_n 0, 1) := by decide +kernel
theorem dX8_layGame_51 : decode cX8_layGame 51 = .ok (.iload 4, 2) := by decide +kernel
theorem dX8_layGame_53 : decode cX8_layGame 53 = .ok (.iconst 0, 1) := by decide +kernel
theorem dX8_layGame_54 : decode cX8_layGame 54 = .ok (.invokevirtual 233, 3) := by decide +kernel
theorem dX8_layGame_57 : decode cX8_layGame 57 = .ok (.ifCond .eq 7, 3) := by decide +kernel
theorem dX8_layGame_60 : decode cX8_layGame 60 = .ok (.iconst 2, 1) := by decide +kernel
theorem dX8_layGame_61 : decode cX8_layGame 61 = .ok (.goto 4, 3) := by decide +kernel
theorem dX8_layGame_64 : decode cX8_layGame 64 = .ok (.iconst 0, 1) := by decide +kernel
theorem dX8_layGame_65 : decode cX8_layGame 65 = .ok (.istore 5, 2) := by decide +kernel
theorem dX8_layGame_67 : decode cX8_layGame 67 = .ok (.iload 5, 2) := by decide +kernel
theorem dX8_layGame_69 : decode cX8_layGame 69 = .ok (.aload_n 0, 1) := by decide +kernel
theorem dX8_layGame_70 : decode cX8_layGame 70 = .ok (.iload 4, 2) := by decide +kernel
theorem dX8_layGame_72 : decode cX8_layGame 72 = .ok (.iconst 1, 1) := by decide +kernel
theorem dX8_layGame_73 : decode cX8_layGame 73 = .ok (.invokevirtual 233, 3) := by decide +kernel
theorem dX8_layGame_76 : decode cX8_layGame 76 = .ok (.ifCond .eq 7, 3) := by decide +kernel
theorem dX8_layGame_79 : decode cX8_layGame 79 = .ok (.iconst 4, 1) := by decide +kernel
theorem dX8_layGame_80 : decode cX8_layGame 80 = .ok (.goto 4, 3) := by decide +kernel
theorem dX8_layGame_83 : decode cX8_layGame 83 = .ok (.iconst 0, 1) := by decide +kernel
theorem dX8_layGame_84 : decode cX8_layGame 84 = .ok (.ior, 1) := by decide +kernel
theorem dX8_layGame_85 : decode cX8_layGame 85 = .ok (.istore 5, 2) := by decide +kernel
theorem dX8_layGame_87 : decode cX8_layGame 87 = .ok (.aload_n 0, 1) := by decide +kernel
theorem dX8_layGame_88 : decode cX8_layGame 88 = .ok (.getfield 49, 3) := by decide +kernel
theorem dX8_layGame_91 : decode cX8_layGame 91 = .ok (.iload 4, 2) := by decide +kernel
theorem dX8_layGame_93 : decode cX8_layGame 93 = .ok (.iload 5, 2) := by decide +kernel
theorem dX8_layGame_95 : decode cX8_layGame 95 = .ok (.i2b, 1) := by decide +kernel
theorem dX8_layGame_96 : decode cX8_layGame 96 = .ok (.bastore, 1) := by decide +kernel
theorem dX8_layGame_97 : decode cX8_layGame 97 = .ok (.iinc 3 1, 3) := by decide +kernel
theorem dX8_layGame_100 : decode cX8_layGame 100 = .ok (.goto (-76), 3) := by decide +kernel
theorem dX8_layGame_103 : decode cX8_layGame 103 = .ok (.iinc 2 (-1), 3) := by decide +kernel
theorem dX8_layGame_106 : decode cX8_layGame 106 = .ok (.goto (-88), 3) := by decide +kernel
theorem dX8_layGame_109 : decode cX8_layGame 109 = .ok (.aload_n 0, 1) := by decide +kernel
theorem dX8_layGame_110 : decode cX8_layGame 110 = .ok (.iload_n 1, 1) := by decide +kernel
theorem dX8_layGame_111 : decode cX8_layGame 111 = .ok (.invokevirtual 177, 3) := by decide +kernel
theorem dX8_layGame_114 : decode cX8_layGame 114 = .ok (.return_, 1) := by decide +kernel
theorem dX8_winsNow_0 : decode cX8_winsNow 0 = .ok (.aload_n 0, 1) := by decide +kernel
theorem dX8_winsNow_1 : decode cX8_winsNow 1 = .ok (.invokevirtual 236, 3) := by decide +kernel
theorem dX8_winsNow_4 : decode cX8_winsNow 4 = .ok (.aload_n 0, 1) := by decide +kernel
theorem dX8_winsNow_5 : decode cX8_winsNow 5 = .ok (.getfield 49, 3) := by decide +kernel
theorem dX8_winsNow_8 : decode cX8_winsNow 8 = .ok (.aload_n 0, 1) := by decide +kernel
theorem dX8_winsNow_9 : decode cX8_winsNow 9 = .ok (.invokevirtual 171, 3) := by decide +kernel
theorem dX8_winsNow_12 : decode cX8_winsNow 12 = .ok (.baload, 1) := by decide +kernel
theorem dX8_winsNow_13 : decode cX8_winsNow 13 = .ok (.iconst 1, 1) := by decide +kernel
theorem dX8_winsNow_14 : decode cX8_winsNow 14 = .ok (.iload_n 1, 1) := by decide +kernel
theorem dX8_winsNow_15 : decode cX8_winsNow 15 = .ok (.iadd, 1) := by decide +kernel
theorem dX8_winsNow_16 : decode cX8_winsNow 16 = .ok (.ishr, 1) := by decide +kernel
theorem dX8_winsNow_17 : decode cX8_winsNow 17 = .ok (.iconst 1, 1) := by decide +kernel
theorem dX8_winsNow_18 : decode cX8_winsNow 18 = .ok (.iand, 1) := by decide +kernel
theorem dX8_winsNow_19 : decode cX8_winsNow 19 = .ok (.ireturn, 1) := by decide +kernel
theorem dX8_isGame_0 : decode cX8_isGame 0 = .ok (.aload_n 0, 1) := by decide +kernel
theorem dX8_isGame_1 : decode cX8_isGame 1 = .ok (.getfield 93, 3) := by decide +kernel
theorem dX8_isGame_4 : decode cX8_isGame 4 = .ok (.ifCond .le 21, 3) := by decide +kernel
theorem dX8_isGame_7 : decode cX8_isGame 7 = .ok (.aload_n 0, 1) := by decide +kernel
theorem dX8_isGame_8 : decode cX8_isGame 8 = .ok (.getfield 99, 3) := by decide +kernel
theorem dX8_isGame_11 : decode cX8_isGame 11 = .ok (.ifCond .ne 14, 3) := by decide +kernel
theorem dX8_isGame_14 : decode cX8_isGame 14 = .ok (.aload_n 0, 1) := by decide +kernel
theorem dX8_isGame_15 : decode cX8_isGame 15 = .ok (.getfield 102, 3) := by decide +kernel
theorem dX8_isGame_18 : decode cX8_isGame 18 = .ok (.ifCond .ne 7, 3) := by decide +kernel
theorem dX8_isGame_21 : decode cX8_isGame 21 = .ok (.iconst 1, 1) := by decide +kernel
theorem dX8_isGame_22 : decode cX8_isGame 22 = .ok (.goto 4, 3) := by decide +kernel
theorem dX8_isGame_25 : decode cX8_isGame 25 = .ok (.iconst 0, 1) := by decide +kernel
theorem dX8_isGame_26 : decode cX8_isGame 26 = .ok (.ireturn, 1) := by decide +kernel
theorem dX8_wins_0 : decode cX8_wins 0 = .ok (.iload_n 1, 1) := by decide +kernel
theorem dX8_wins_1 : decode cX8_wins 1 = .ok (.iconst 0, 1) := by decide +kernel
theorem dX8_wins_2 : decode cX8_wins 2 = .ok (.iconst 1, 1) := by decide +kernel
theorem dX8_wins_3 : decode cX8_wins 3 = .ok (.invokestatic 117, 3) := by decide +kernel
theorem dX8_wins_6 : decode cX8_wins 6 = .ok (.ifCond .ne 6, 3) := by decide +kernel
theorem dX8_wins_9 : decode cX8_wins 9 = .ok (.bipush (-102), 2) := by decide +kernel
theorem dX8_wins_11 : decode cX8_wins 11 = .ok (.ireturn, 1) := by decide +kernel
theorem dX8_wins_12 : decode cX8_wins 12 = .ok (.aload_n 0, 1) := by decide +kernel
theorem dX8_wins_13 : decode cX8_wins 13 = .ok (.invokevirtual 239, 3) := by decide +kernel
theorem dX8_wins_16 : decode cX8_wins 16 = .ok (.ifCond .eq 11, 3) := by decide +kernel
theorem dX8_wins_19 : decode cX8_wins 19 = .ok (.aload_n 0, 1) := by decide +kernel
theorem dX8_wins_20 : decode cX8_wins 20 = .ok (.iload_n 1, 1) := by decide +kernel
theorem dX8_wins_21 : decode cX8_wins 21 = .ok (.invokevirtual 243, 3) := by decide +kernel
theorem dX8_wins_24 : decode cX8_wins 24 = .ok (.goto 5, 3) := by decide +kernel
theorem dX8_wins_27 : decode cX8_wins 27 = .ok (.bipush (-103), 2) := by decide +kernel
theorem dX8_wins_29 : decode cX8_wins 29 = .ok (.ireturn, 1) := by decide +kernel
theorem dX8_byNow_0 : decode cX8_byNow 0 = .ok (.aload_n 0, 1) := by decide +kernel
theorem dX8_byNow_1 : decode cX8_byNow 1 = .ok (.invokevirtual 236, 3) := by decide +kernel
theorem dX8_byNow_4 : decode cX8_byNow 4 = .ok (.aload_n 0, 1) := by decide +kernel
theorem dX8_byNow_5 : decode cX8_byNow 5 = .ok (.invokevirtual 171, 3) := by decide +kernel
theorem dX8_byNow_8 : decode cX8_byNow 8 = .ok (.istore_n 3, 1) := by decide +kernel
theorem dX8_byNow_9 : decode cX8_byNow 9 = .ok (.iconst 0, 1) := by decide +kernel
theorem dX8_byNow_10 : decode cX8_byNow 10 = .ok (.istore 4, 2) := by decide +kernel
theorem dX8_byNow_12 : decode cX8_byNow 12 = .ok (.iload 4, 2) := by decide +kernel
theorem dX8_byNow_14 : decode cX8_byNow 14 = .ok (.aload_n 0, 1) := by decide +kernel
theorem dX8_byNow_15 : decode cX8_byNow 15 = .ok (.getfield 135, 3) := by decide +kernel
theorem dX8_byNow_18 : decode cX8_byNow 18 = .ok (.if_icmp .ge 94, 3) := by decide +kernel
theorem dX8_byNow_21 : decode cX8_byNow 21 = .ok (.iconst 0, 1) := by decide +kernel
theorem dX8_byNow_22 : decode cX8_byNow 22 = .ok (.istore 5, 2) := by decide +kernel
theorem dX8_byNow_24 : decode cX8_byNow 24 = .ok (.iload 5, 2) := by decide +kernel
theorem dX8_byNow_26 : decode cX8_byNow 26 = .ok (.aload_n 0, 1) := by decide +kernel
theorem dX8_byNow_27 : decode cX8_byNow 27 = .ok (.getfield 135, 3) := by decide +kernel
theorem dX8_byNow_30 : decode cX8_byNow 30 = .ok (.if_icmp .ge 76, 3) := by decide +kernel
theorem dX8_byNow_33 : decode cX8_byNow 33 = .ok (.aload_n 0, 1) := by decide +kernel
theorem dX8_byNow_34 : decode cX8_byNow 34 = .ok (.aload_n 0, 1) := by decide +kernel
theorem dX8_byNow_35 : decode cX8_byNow 35 = .ok (.getfield 35, 3) := by decide +kernel
theorem dX8_byNow_38 : decode cX8_byNow 38 = .ok (.iload 4, 2) := by decide +kernel
theorem dX8_byNow_40 : decode cX8_byNow 40 = .ok (.iaload, 1) := by decide +kernel
theorem dX8_byNow_41 : decode cX8_byNow 41 = .ok (.iload_n 1, 1) := by decide +kernel
theorem dX8_byNow_42 : decode cX8_byNow 42 = .ok (.invokevirtual 227, 3) := by decide +kernel
theorem dX8_byNow_45 : decode cX8_byNow 45 = .ok (.ifCond .eq 55, 3) := by decide +kernel
theorem dX8_byNow_48 : decode cX8_byNow 48 = .ok (.aload_n 0, 1) := by decide +kernel
theorem dX8_byNow_49 : decode cX8_byNow 49 = .ok (.iload 4, 2) := by decide +kernel
theorem dX8_byNow_51 : decode cX8_byNow 51 = .ok (.iload 5, 2) := by decide +kernel
theorem dX8_byNow_53 : decode cX8_byNow 53 = .ok (.invokevirtual 154, 3) := by decide +kernel
theorem dX8_byNow_56 : decode cX8_byNow 56 = .ok (.ifCond .eq 44, 3) := by decide +kernel
theorem dX8_byNow_59 : decode cX8_byNow 59 = .ok (.aload_n 0, 1) := by decide +kernel
theorem dX8_byNow_60 : decode cX8_byNow 60 = .ok (.getfield 49, 3) := by decide +kernel
theorem dX8_byNow_63 : decode cX8_byNow 63 = .ok (.iload_n 3, 1) := by decide +kernel
theorem dX8_byNow_64 : decode cX8_byNow 64 = .ok (.aload_n 0, 1) := by decide +kernel
theorem dX8_byNow_65 : decode cX8_byNow 65 = .ok (.getfield 35, 3) := by decide +kernel
theorem dX8_byNow_68 : decode cX8_byNow 68 = .ok (.iload 4, 2) := by decide +kernel
theorem dX8_byNow_70 : decode cX8_byNow 70 = .ok (.iaload, 1) := by decide +kernel
theorem dX8_byNow_71 : decode cX8_byNow 71 = .ok (.iload 4, 2) := by decide +kernel
theorem dX8_byNow_73 : decode cX8_byNow 73 = .ok (.iload 5, 2) := by decide +kernel
theorem dX8_byNow_75 : decode cX8_byNow 75 = .ok (.invokestatic 181, 3) := by decide +kernel
theorem dX8_byNow_78 : decode cX8_byNow 78 = .ok (.baload, 1) := by decide +kernel
theorem dX8_byNow_79 : decode cX8_byNow 79 = .ok (.iconst 2, 1) := by decide +kernel
theorem dX8_byNow_80 : decode cX8_byNow 80 = .ok (.iload_n 1, 1) := by decide +kernel
theorem dX8_byNow_81 : decode cX8_byNow 81 = .ok (.isub, 1) := by decide +kernel
theorem dX8_byNow_82 : decode cX8_byNow 82 = .ok (.ishr, 1) := by decide +kernel
theorem dX8_byNow_83 : decode cX8_byNow 83 = .ok (.iconst 1, 1) := by decide +kernel
theorem dX8_byNow_84 : decode cX8_byNow 84 = .ok (.iand, 1) := by decide +kernel
theorem dX8_byNow_85 : decode cX8_byNow 85 = .ok (.ifCond .ne 15, 3) := by decide +kernel
theorem dX8_byNow_88 : decode cX8_byNow 88 = .ok (.iload_n 2, 1) := by decide +kernel
theorem dX8_byNow_89 : decode cX8_byNow 89 = .ok (.ifCond .ne 8, 3) := by decide +kernel
theorem dX8_byNow_92 : decode cX8_byNow 92 = .ok (.iload 4, 2) := by decide +kernel
theorem dX8_byNow_94 : decode cX8_byNow 94 = .ok (.goto 5, 3) := by decide +kernel
theorem dX8_byNow_97 : decode cX8_byNow 97 = .ok (.iload 5, 2) := by decide +kernel
theorem dX8_byNow_99 : decode cX8_byNow 99 = .ok (.ireturn, 1) := by decide +kernel
theorem dX8_byNow_100 : decode cX8_byNow 100 = .ok (.iinc 5 1, 3) := by decide +kernel
theorem dX8_byNow_103 : decode cX8_byNow 103 = .ok (.goto (-79), 3) := by decide +kernel
theorem dX8_byNow_106 : decode cX8_byNow 106 = .ok (.iinc 4 1, 3) := by decide +kernel
theorem dX8_byNow_109 : decode cX8_byNow 109 = .ok (.goto (-97), 3) := by decide +kernel
theorem dX8_byNow_112 : decode cX8_byNow 112 = .ok (.iconst (-1), 1) := by decide +kernel
theorem dX8_byNow_113 : decode cX8_byNow 113 = .ok (.ireturn, 1) := by decide +kernel
theorem dX8_by_0 : decode cX8_by 0 = .ok (.iload_n 1, 1) := by decide +kernel
theorem dX8_by_1 : decode cX8_by 1 = .ok (.iconst 0, 1) := by decide +kernel
theorem dX8_by_2 : decode cX8_by 2 = .ok (.iconst 1, 1) := by decide +kernel
theorem dX8_by_3 : decode cX8_by 3 = .ok (.invokestatic 117, 3) := by decide +kernel
theorem dX8_by_6 : decode cX8_by 6 = .ok (.ifCond .eq 12, 3) := by decide +kernel
theorem dX8_by_9 : decode cX8_by 9 = .ok (.iload_n 2, 1) := by decide +kernel
theorem dX8_by_10 : decode cX8_by 10 = .ok (.iconst 0, 1) := by decide +kernel
theorem dX8_by_11 : decode cX8_by 11 = .ok (.iconst 1, 1) := by decide +kernel
theorem dX8_by_12 : decode cX8_by 12 = .ok (.invokestatic 117, 3) := by decide +kernel
theorem dX8_by_15 : decode cX8_by 15 = .ok (.ifCond .ne 6, 3) := by decide +kernel
theorem dX8_by_18 : decode cX8_by 18 = .ok (.bipush (-102), 2) := by decide +kernel
theorem dX8_by_20 : decode cX8_by 20 = .ok (.ireturn, 1) := by decide +kernel
theorem dX8_by_21 : decode cX8_by 21 = .ok (.aload_n 0, 1) := by decide +kernel
theorem dX8_by_22 : decode cX8_by 22 = .ok (.invokevirtual 239, 3) := by decide +kernel
theorem dX8_by_25 : decode cX8_by 25 = .ok (.ifCond .eq 12, 3) := by decide +kernel
theorem dX8_by_28 : decode cX8_by 28 = .ok (.aload_n 0, 1) := by decide +kernel
theorem dX8_by_29 : decode cX8_by 29 = .ok (.iload_n 1, 1) := by decide +kernel
theorem dX8_by_30 : decode cX8_by 30 = .ok (.iload_n 2, 1) := by decide +kernel
theorem dX8_by_31 : decode cX8_by 31 = .ok (.invokevirtual 246, 3) := by decide +kernel
theorem dX8_by_34 : decode cX8_by 34 = .ok (.goto 5, 3) := by decide +kernel
theorem dX8_by_37 : decode cX8_by 37 = .ok (.bipush (-103), 2) := by decide +kernel
theorem dX8_by_39 : decode cX8_by 39 = .ok (.ireturn, 1) := by decide +kernel
theorem dX8_draw_0 : decode cX8_draw 0 = .ok (.aload_n 0, 1) := by decide +kernel
theorem dX8_draw_1 : decode cX8_draw 1 = .ok (.ldc2_w 249, 3) := by decide +kernel
theorem dX8_draw_4 : decode cX8_draw 4 = .ok (.aload_n 0, 1) := by decide +kernel
theorem dX8_draw_5 : decode cX8_draw 5 = .ok (.getfield 251, 3) := by decide +kernel
theorem dX8_draw_8 : decode cX8_draw 8 = .ok (.lmul, 1) := by decide +kernel
theorem dX8_draw_9 : decode cX8_draw 9 = .ok (.ldc2_w 255, 3) := by decide +kernel
theorem dX8_draw_12 : decode cX8_draw 12 = .ok (.ladd, 1) := by decide +kernel
theorem dX8_draw_13 : decode cX8_draw 13 = .ok (.ldc2_w 257, 3) := by decide +kernel
theorem dX8_draw_16 : decode cX8_draw 16 = .ok (.land, 1) := by decide +kernel
theorem dX8_draw_17 : decode cX8_draw 17 = .ok (.putfield 251, 3) := by decide +kernel
theorem dX8_draw_20 : decode cX8_draw 20 = .ok (.aload_n 0, 1) := by decide +kernel
theorem dX8_draw_21 : decode cX8_draw 21 = .ok (.getfield 251, 3) := by decide +kernel
theorem dX8_draw_24 : decode cX8_draw 24 = .ok (.ldc2_w 259, 3) := by decide +kernel
theorem dX8_draw_27 : decode cX8_draw 27 = .ok (.ldiv, 1) := by decide +kernel
theorem dX8_draw_28 : decode cX8_draw 28 = .ok (.iload_n 1, 1) := by decide +kernel
theorem dX8_draw_29 : decode cX8_draw 29 = .ok (.i2l, 1) := by decide +kernel
theorem dX8_draw_30 : decode cX8_draw 30 = .ok (.lrem, 1) := by decide +kernel
theorem dX8_draw_31 : decode cX8_draw 31 = .ok (.l2i, 1) := by decide +kernel
theorem dX8_draw_32 : decode cX8_draw 32 = .ok (.ireturn, 1) := by decide +kernel
theorem dX8_goMove_0 : decode cX8_goMove 0 = .ok (.iload_n 1, 1) := by decide +kernel
theorem dX8_goMove_1 : decode cX8_goMove 1 = .ok (.istore_n 2, 1) := by decide +kernel
theorem dX8_goMove_2 : decode cX8_goMove 2 = .ok (.iconst 0, 1) := by decide +kernel
theorem dX8_goMove_3 : decode cX8_goMove 3 = .ok (.istore_n 3, 1) := by decide +kernel
theorem dX8_goMove_4 : decode cX8_goMove 4 = .ok (.iload_n 3, 1) := by decide +kernel
theorem dX8_goMove_5 : decode cX8_goMove 5 = .ok (.aload_n 0, 1) := by decide +kernel
theorem dX8_goMove_6 : decode cX8_goMove 6 = .ok (.getfield 135, 3) := by decide +kernel
theorem dX8_goMove_9 : decode cX8_goMove 9 = .ok (.if_icmp .ge 65, 3) := by decide +kernel
theorem dX8_goMove_12 : decode cX8_goMove 12 = .ok (.iconst 0, 1) := by decide +kernel
theorem dX8_goMove_13 : decode cX8_goMove 13 = .ok (.istore 4, 2) := by decide +kernel
theorem dX8_goMove_15 : decode cX8_goMove 15 = .ok (.iload 4, 2) := by decide +kernel
theorem dX8_goMove_17 : decode cX8_goMove 17 = .ok (.aload_n 0, 1) := by decide +kernel
theorem dX8_goMove_18 : decode cX8_goMove 18 = .ok (.getfield 135, 3) := by decide +kernel
theorem dX8_goMove_21 : decode cX8_goMove 21 = .ok (.if_icmp .ge 47, 3) := by decide +kernel
theorem dX8_goMove_24 : decode cX8_goMove 24 = .ok (.aload_n 0, 1) := by decide +kernel
theorem dX8_goMove_25 : decode cX8_goMove 25 = .ok (.iload_n 3, 1) := by decide +kernel
theorem dX8_goMove_26 : decode cX8_goMove 26 = .ok (.iload 4, 2) := by decide +kernel
theorem dX8_goMove_28 : decode cX8_goMove 28 = .ok (.invokevirtual 154, 3) := by decide +kernel
theorem dX8_goMove_31 : decode cX8_goMove 31 = .ok (.ifCond .eq 31, 3) := by decide +kernel
theorem dX8_goMove_34 : decode cX8_goMove 34 = .ok (.iload_n 2, 1) := by decide +kernel
theorem dX8_goMove_35 : decode cX8_goMove 35 = .ok (.ifCond .ne 24, 3) := by decide +kernel
theorem dX8_goMove_38 : decode cX8_goMove 38 = .ok (.aload_n 0, 1) := by decide +kernel
theorem dX8_goMove_39 : decode cX8_goMove 39 = .ok (.getfield 35, 3) := by decide +kernel
theorem dX8_goMove_42 : decode cX8_goMove 42 = .ok (.iload 4, 2) := by decide +kernel
theorem dX8_goMove_44 : decode cX8_goMove 44 = .ok (.aload_n 0, 1) := by decide +kernel
theorem dX8_goMove_45 : decode cX8_goMove 45 = .ok (.getfield 35, 3) := by decide +kernel
theorem dX8_goMove_48 : decode cX8_goMove 48 = .ok (.iload_n 3, 1) := by decide +kernel
theorem dX8_goMove_49 : decode cX8_goMove 49 = .ok (.iaload, 1) := by decide +kernel
theorem dX8_goMove_50 : decode cX8_goMove 50 = .ok (.iastore, 1) := by decide +kernel
theorem dX8_goMove_51 : decode cX8_goMove 51 = .ok (.aload_n 0, 1) := by decide +kernel
theorem dX8_goMove_52 : decode cX8_goMove 52 = .ok (.getfield 35, 3) := by decide +kernel
theorem dX8_goMove_55 : decode cX8_goMove 55 = .ok (.iload_n 3, 1) := by decide +kernel
theorem dX8_goMove_56 : decode cX8_goMove 56 = .ok (.iconst 0, 1) := by decide +kernel
theorem dX8_goMove_57 : decode cX8_goMove 57 = .ok (.iastore, 1) := by decide +kernel
theorem dX8_goMove_58 : decode cX8_goMove 58 = .ok (.return_, 1) := by decide +kernel
theorem dX8_goMove_59 : decode cX8_goMove 59 = .ok (.iinc 2 (-1), 3) := by decide +kernel
theorem dX8_goMove_62 : decode cX8_goMove 62 = .ok (.iinc 4 1, 3) := by decide +kernel
theorem dX8_goMove_65 : decode cX8_goMove 65 = .ok (.goto (-50), 3) := by decide +kernel
theorem dX8_goMove_68 : decode cX8_goMove 68 = .ok (.iinc 3 1, 3) := by decide +kernel
theorem dX8_goMove_71 : decode cX8_goMove 71 = .ok (.goto (-67), 3) := by decide +kernel
theorem dX8_goMove_74 : decode cX8_goMove 74 = .ok (.return_, 1) := by decide +kernel
theorem dX8_playNow_0 : decode cX8_playNow 0 = .ok (.aload_n 0, 1) := by decide +kernel
theorem dX8_playNow_1 : decode cX8_playNow 1 = .ok (.invokevirtual 194, 3) := by decide +kernel
theorem dX8_playNow_4 : decode cX8_playNow 4 = .ok (.istore 4, 2) := by decide +kernel
theorem dX8_playNow_6 : decode cX8_playNow 6 = .ok (.aload_n 0, 1) := by decide +kernel
theorem dX8_playNow_7 : decode cX8_playNow 7 = .ok (.invokevirtual 151, 3) := by decide +kernel
theorem dX8_playNow_10 : decode cX8_playNow 10 = .ok (.aload_n 0, 1) := by decide +kernel
theorem dX8_playNow_11 : decode cX8_playNow 11 = .ok (.iload_n 2, 1) := by decide +kernel
theorem dX8_playNow_12 : decode cX8_playNow 12 = .ok (.i2l, 1) := by decide +kernel
theorem dX8_playNow_13 : decode cX8_playNow 13 = .ok (.putfield 251, 3) := by decide +kernel
theorem dX8_playNow_16 : decode cX8_playNow 16 = .ok (.iconst 0, 1) := by decide +kernel
theorem dX8_playNow_17 : decode cX8_playNow 17 = .ok (.istore 5, 2) := by decide +kernel
theorem dX8_playNow_19 : decode cX8_playNow 19 = .ok (.iconst 1, 1) := by decide +kernel
theorem dX8_playNow_20 : decode cX8_playNow 20 = .ok (.istore 6, 2) := by decide +kernel
theorem dX8_playNow_22 : decode cX8_playNow 22 = .ok (.iload 5, 2) := by decide +kernel
theorem dX8_playNow_24 : decode cX8_playNow 24 = .ok (.iload_n 1, 1) := by decide +kernel
theorem dX8_playNow_25 : decode cX8_playNow 25 = .ok (.if_icmp .ge 47, 3) := by decide +kernel
theorem dX8_playNow_28 : decode cX8_playNow 28 = .ok (.iload 6, 2) := by decide +kernel
theorem dX8_playNow_30 : decode cX8_playNow 30 = .ok (.ifCond .eq 42, 3) := by decide +kernel
theorem dX8_playNow_33 : decode cX8_playNow 33 = .ok (.aload_n 0, 1) := by decide +kernel
theorem dX8_playNow_34 : decode cX8_playNow 34 = .ok (.invokevirtual 157, 3) := by decide +kernel
theorem dX8_playNow_37 : decode cX8_playNow 37 = .ok (.istore 7, 2) := by decide +kernel
theorem dX8_playNow_39 : decode cX8_playNow 39 = .ok (.iload 7, 2) := by decide +kernel
theorem dX8_playNow_41 : decode cX8_playNow 41 = .ok (.ifCond .le 7, 3) := by decide +kernel
theorem dX8_playNow_44 : decode cX8_playNow 44 = .ok (.iconst 1, 1) := by decide +kernel
theorem dX8_playNow_45 : decode cX8_playNow 45 = .ok (.goto 4, 3) := by decide +kernel
theorem dX8_playNow_48 : decode cX8_playNow 48 = .ok (.iconst 0, 1) := by decide +kernel
theorem dX8_playNow_49 : decode cX8_playNow 49 = .ok (.istore 6, 2) := by decide +kernel
theorem dX8_playNow_51 : decode cX8_playNow 51 = .ok (.iload 6, 2) := by decide +kernel
theorem dX8_playNow_53 : decode cX8_playNow 53 = .ok (.ifCond .eq 16, 3) := by decide +kernel
theorem dX8_playNow_56 : decode cX8_playNow 56 = .ok (.aload_n 0, 1) := by decide +kernel
theorem dX8_playNow_57 : decode cX8_playNow 57 = .ok (.aload_n 0, 1) := by decide +kernel
theorem dX8_playNow_58 : decode cX8_playNow 58 = .ok (.iload 7, 2) := by decide +kernel
theorem dX8_playNow_60 : decode cX8_playNow 60 = .ok (.invokevirtual 261, 3) := by decide +kernel
theorem dX8_playNow_63 : decode cX8_playNow 63 = .ok (.invokevirtual 264, 3) := by decide +kernel
theorem dX8_playNow_66 : decode cX8_playNow 66 = .ok (.iinc 5 1, 3) := by decide +kernel
theorem dX8_playNow_69 : decode cX8_playNow 69 = .ok (.goto (-47), 3) := by decide +kernel
theorem dX8_playNow_72 : decode cX8_playNow 72 = .ok (.iload_n 3, 1) := by decide +kernel
theorem dX8_playNow_73 : decode cX8_playNow 73 = .ok (.ifCond .ne 8, 3) := by decide +kernel
theorem dX8_playNow_76 : decode cX8_playNow 76 = .ok (.iload 5, 2) := by decide +kernel
theorem dX8_playNow_78 : decode cX8_playNow 78 = .ok (.goto 30, 3) := by decide +kernel
theorem dX8_playNow_81 : decode cX8_playNow 81 = .ok (.iload_n 3, 1) := by decide +kernel
theorem dX8_playNow_82 : decode cX8_playNow 82 = .ok (.iconst 2, 1) := by decide +kernel
theorem dX8_playNow_83 : decode cX8_playNow 83 = .ok (.if_icmp .ne 11, 3) := by decide +kernel
theorem dX8_playNow_86 : decode cX8_playNow 86 = .ok (.aload_n 0, 1) := by decide +kernel
theorem dX8_playNow_87 : decode cX8_playNow 87 = .ok (.getfield 251, 3) := by decide +kernel
theorem dX8_playNow_90 : decode cX8_playNow 90 = .ok (.l2i, 1) := by decide +kernel
theorem dX8_playNow_91 : decode cX8_playNow 91 = .ok (.goto 17, 3) := by decide +kernel
theorem dX8_playNow_94 : decode cX8_playNow 94 = .ok (.aload_n 0, 1) := by decide +kernel
theorem dX8_playNow_95 : decode cX8_playNow 95 = .ok (.invokevirtual 171, 3) := by decide +kernel
theorem dX8_playNow_98 : decode cX8_playNow 98 = .ok (.iload 4, 2) := by decide +kernel
theorem dX8_playNow_100 : decode cX8_playNow 100 = .ok (.if_icmp .ne 7, 3) := by decide +kernel
theorem dX8_playNow_103 : decode cX8_playNow 103 = .ok (.iconst 1, 1) := by decide +kernel
theorem dX8_playNow_104 : decode cX8_playNow 104 = .ok (.goto 4, 3) := by decide +kernel
theorem dX8_playNow_107 : decode cX8_playNow 107 = .ok (.iconst 0, 1) := by decide +kernel
theorem dX8_playNow_108 : decode cX8_playNow 108 = .ok (.ireturn, 1) := by decide +kernel
theorem dX8_play_0 : decode cX8_play 0 = .ok (.iload_n 1, 1) := by decide +kernel
theorem dX8_play_1 : decode cX8_play 1 = .ok (.iconst 1, 1) := by decide +kernel
theorem dX8_play_2 : decode cX8_play 2 = .ok (.bipush 60, 2) := by decide +kernel
theorem dX8_play_4 : decode cX8_play 4 = .ok (.invokestatic 117, 3) := by decide +kernel
theorem dX8_play_7 : decode cX8_play 7 = .ok (.ifCond .eq 16, 3) := by decide +kernel
theorem dX8_play_10 : decode cX8_play 10 = .ok (.iload_n 2, 1) := by decide +kernel
theorem dX8_play_11 : decode cX8_play 11 = .ok (.ifCond .lt 12, 3) := by decide +kernel
theorem dX8_play_14 : decode cX8_play 14 = .ok (.iload_n 3, 1) := by decide +kernel
theorem dX8_play_15 : decode cX8_play 15 = .ok (.iconst 0, 1) := by decide +kernel
theorem dX8_play_16 : decode cX8_play 16 = .ok (.iconst 2, 1) := by decide +kernel
theorem dX8_play_17 : decode cX8_play 17 = .ok (.invokestatic 117, 3) := by decide +kernel
theorem dX8_play_20 : decode cX8_play 20 = .ok (.ifCond .ne 6, 3) := by decide +kernel
theorem dX8_play_23 : decode cX8_play 23 = .ok (.bipush (-102), 2) := by decide +kernel
theorem dX8_play_25 : decode cX8_play 25 = .ok (.ireturn, 1) := by decide +kernel
theorem dX8_play_26 : decode cX8_play 26 = .ok (.aload_n 0, 1) := by decide +kernel
theorem dX8_play_27 : decode cX8_play 27 = .ok (.getfield 93, 3) := by decide +kernel
theorem dX8_play_30 : decode cX8_play 30 = .ok (.ifCond .ne 8, 3) := by decide +kernel
theorem dX8_play_33 : decode cX8_play 33 = .ok (.bipush (-103), 2) := by decide +kernel
theorem dX8_play_35 : decode cX8_play 35 = .ok (.goto 10, 3) := by decide +kernel
theorem dX8_play_38 : decode cX8_play 38 = .ok (.aload_n 0, 1) := by decide +kernel
theorem dX8_play_39 : decode cX8_play 39 = .ok (.iload_n 1, 1) := by decide +kernel
theorem dX8_play_40 : decode cX8_play 40 = .ok (.iload_n 2, 1) := by decide +kernel
theorem dX8_play_41 : decode cX8_play 41 = .ok (.iload_n 3, 1) := by decide +kernel
theorem dX8_play_42 : decode cX8_play 42 = .ok (.invokevirtual 267, 3) := by decide +kernel
theorem dX8_play_45 : decode cX8_play 45 = .ok (.ireturn, 1) := by decide +kernel
theorem dX8_image_0 : decode cX8_image 0 = .ok (.aload_n 0, 1) := by decide +kernel
theorem dX8_image_1 : decode cX8_image 1 = .ok (.getfield 93, 3) := by decide +kernel
theorem dX8_image_4 : decode cX8_image 4 = .ok (.ifCond .ne 6, 3) := by decide +kernel
theorem dX8_image_7 : decode cX8_image 7 = .ok (.bipush (-103), 2) := by decide +kernel
theorem dX8_image_9 : decode cX8_image 9 = .ok (.ireturn, 1) := by decide +kernel
theorem dX8_image_10 : decode cX8_image 10 = .ok (.aload_n 0, 1) := by decide +kernel
theorem dX8_image_11 : decode cX8_image 11 = .ok (.iconst 1, 1) := by decide +kernel
theorem dX8_image_12 : decode cX8_image 12 = .ok (.putfield 271, 3) := by decide +kernel
theorem dX8_image_15 : decode cX8_image 15 = .ok (.aload_n 0, 1) := by decide +kernel
theorem dX8_image_16 : decode cX8_image 16 = .ok (.aload_n 0, 1) := by decide +kernel
theorem dX8_image_17 : decode cX8_image 17 = .ok (.getfield 114, 3) := by decide +kernel
theorem dX8_image_20 : decode cX8_image 20 = .ok (.putfield 274, 3) := by decide +kernel
theorem dX8_image_23 : decode cX8_image 23 = .ok (.aload_n 0, 1) := by decide +kernel
theorem dX8_image_24 : decode cX8_image 24 = .ok (.aload_n 0, 1) := by decide +kernel
theorem dX8_image_25 : decode cX8_image 25 = .ok (.getfield 111, 3) := by decide +kernel
theorem dX8_image_28 : decode cX8_image 28 = .ok (.putfield 277, 3) := by decide +kernel
theorem dX8_image_31 : decode cX8_image 31 = .ok (.iconst 0, 1) := by decide +kernel
theorem dX8_image_32 : decode cX8_image 32 = .ok (.istore_n 1, 1) := by decide +kernel
theorem dX8_image_33 : decode cX8_image 33 = .ok (.iload_n 1, 1) := by decide +kernel
theorem dX8_image_34 : decode cX8_image 34 = .ok (.bipush 7, 2) := by decide +kernel
theorem dX8_image_36 : decode cX8_image 36 = .ok (.if_icmp .ge 33, 3) := by decide +kernel
theorem dX8_image_39 : decode cX8_image 39 = .ok (.aload_n 0, 1) := by decide +kernel
theorem dX8_image_40 : decode cX8_image 40 = .ok (.getfield 52, 3) := by decide +kernel
theorem dX8_image_43 : decode cX8_image 43 = .ok (.iload_n 1, 1) := by decide +kernel
theorem dX8_image_44 : decode cX8_image 44 = .ok (.aload_n 0, 1) := by decide +kernel
theorem dX8_image_45 : decode cX8_image 45 = .ok (.getfield 13, 3) := by decide +kernel
theorem dX8_image_48 : decode cX8_image 48 = .ok (.iload_n 1, 1) := by decide +kernel
theorem dX8_image_49 : decode cX8_image 49 = .ok (.iaload, 1) := by decide +kernel
theorem dX8_image_50 : decode cX8_image 50 = .ok (.iastore, 1) := by decide +kernel
theorem dX8_image_51 : decode cX8_image 51 = .ok (.aload_n 0, 1) := by decide +kernel
theorem dX8_image_52 : decode cX8_image 52 = .ok (.getfield 55, 3) := by decide +kernel
theorem dX8_image_55 : decode cX8_image 55 = .ok (.iload_n 1, 1) := by decide +kernel
theorem dX8_image_56 : decode cX8_image 56 = .ok (.aload_n 0, 1) := by decide +kernel
theorem dX8_image_57 : decode cX8_image 57 = .ok (.getfield 16, 3) := by decide +kernel
theorem dX8_image_60 : decode cX8_image 60 = .ok (.iload_n 1, 1) := by decide +kernel
theorem dX8_image_61 : decode cX8_image 61 = .ok (.iaload, 1) := by decide +kernel
theorem dX8_image_62 : decode cX8_image 62 = .ok (.iastore, 1) := by decide +kernel
theorem dX8_image_63 : decode cX8_image 63 = .ok (.iinc 1 1, 3) := by decide +kernel
theorem dX8_image_66 : decode cX8_image 66 = .ok (.goto (-33), 3) := by decide +kernel
theorem dX8_image_69 : decode cX8_image 69 = .ok (.iconst 0, 1) := by decide +kernel
theorem dX8_image_70 : decode cX8_image 70 = .ok (.istore_n 1, 1) := by decide +kernel
theorem dX8_image_71 : decode cX8_image 71 = .ok (.iload_n 1, 1) := by decide +kernel
theorem dX8_image_72 : decode cX8_image 72 = .ok (.bipush 60, 2) := by decide +kernel
theorem dX8_image_74 : decode cX8_image 74 = .ok (.if_icmp .ge 33, 3) := by decide +kernel
theorem dX8_image_77 : decode cX8_image 77 = .ok (.aload_n 0, 1) := by decide +kernel
theorem dX8_image_78 : decode cX8_image 78 = .ok (.getfield 58, 3) := by decide +kernel
theorem dX8_image_81 : decode cX8_image 81 = .ok (.iload_n 1, 1) := by decide +kernel
theorem dX8_image_82 : decode cX8_image 82 = .ok (.aload_n 0, 1) := by decide +kernel
theorem dX8_image_83 : decode cX8_image 83 = .ok (.getfield 22, 3) := by decide +kernel
theorem dX8_image_86 : decode cX8_image 86 = .ok (.iload_n 1, 1) := by decide +kernel
theorem dX8_image_87 : decode cX8_image 87 = .ok (.iaload, 1) := by decide +kernel
theorem dX8_image_88 : decode cX8_image 88 = .ok (.iastore, 1) := by decide +kernel
theorem dX8_image_89 : decode cX8_image 89 = .ok (.aload_n 0, 1) := by decide +kernel
theorem dX8_image_90 : decode cX8_image 90 = .ok (.getfield 61, 3) := by decide +kernel
theorem dX8_image_93 : decode cX8_image 93 = .ok (.iload_n 1, 1) := by decide +kernel
theorem dX8_image_94 : decode cX8_image 94 = .ok (.aload_n 0, 1) := by decide +kernel
theorem dX8_image_95 : decode cX8_image 95 = .ok (.getfield 25, 3) := by decide +kernel
theorem dX8_image_98 : decode cX8_image 98 = .ok (.iload_n 1, 1) := by decide +kernel
theorem dX8_image_99 : decode cX8_image 99 = .ok (.iaload, 1) := by decide +kernel
theorem dX8_image_100 : decode cX8_image 100 = .ok (.iastore, 1) := by decide +kernel
theorem dX8_image_101 : decode cX8_image 101 = .ok (.iinc 1 1, 3) := by decide +kernel
theorem dX8_image_104 : decode cX8_image 104 = .ok (.goto (-33), 3) := by decide +kernel
theorem dX8_image_107 : decode cX8_image 107 = .ok (.aload_n 0, 1) := by decide +kernel
theorem dX8_image_108 : decode cX8_image 108 = .ok (.getfield 111, 3) := by decide +kernel
theorem dX8_image_111 : decode cX8_image 111 = .ok (.ireturn, 1) := by decide +kernel
theorem dX8_restore_0 : decode cX8_restore 0 = .ok (.aload_n 0, 1) := by decide +kernel
theorem dX8_restore_1 : decode cX8_restore 1 = .ok (.getfield 271, 3) := by decide +kernel
theorem dX8_restore_4 : decode cX8_restore 4 = .ok (.ifCond .eq 14, 3) := by decide +kernel
theorem dX8_restore_7 : decode cX8_restore 7 = .ok (.aload_n 0, 1) := by decide +kernel
theorem dX8_restore_8 : decode cX8_restore 8 = .ok (.getfield 274, 3) := by decide +kernel
theorem dX8_restore_11 : decode cX8_restore 11 = .ok (.aload_n 0, 1) := by decide +kernel
theorem dX8_restore_12 : decode cX8_restore 12 = .ok (.getfield 114, 3) := by decide +kernel
theorem dX8_restore_15 : decode cX8_restore 15 = .ok (.if_icmp .eq 6, 3) := by decide +kernel
theorem dX8_restore_18 : decode cX8_restore 18 = .ok (.bipush (-103), 2) := by decide +kernel
theorem dX8_restore_20 : decode cX8_restore 20 = .ok (.ireturn, 1) := by decide +kernel
theorem dX8_restore_21 : decode cX8_restore 21 = .ok (.aload_n 0, 1) := by decide +kernel
theorem dX8_restore_22 : decode cX8_restore 22 = .ok (.aload_n 0, 1) := by decide +kernel
theorem dX8_restore_23 : decode cX8_restore 23 = .ok (.getfield 277, 3) := by decide +kernel
theorem dX8_restore_26 : decode cX8_restore 26 = .ok (.putfield 111, 3) := by decide +kernel
theorem dX8_restore_29 : decode cX8_restore 29 = .ok (.iconst 0, 1) := by decide +kernel
theorem dX8_restore_30 : decode cX8_restore 30 = .ok (.istore_n 1, 1) := by decide +kernel
theorem dX8_restore_31 : decode cX8_restore 31 = .ok (.iload_n 1, 1) := by decide +kernel
theorem dX8_restore_32 : decode cX8_restore 32 = .ok (.bipush 7, 2) := by decide +kernel
theorem dX8_restore_34 : decode cX8_restore 34 = .ok (.if_icmp .ge 33, 3) := by decide +kernel
theorem dX8_restore_37 : decode cX8_restore 37 = .ok (.aload_n 0, 1) := by decide +kernel

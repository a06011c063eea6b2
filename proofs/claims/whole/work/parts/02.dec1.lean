theorem dX0_init_0 : decode cX0_init 0 = .ok (.aload_n 0, 1) := by decide +kernel
theorem dX0_init_1 : decode cX0_init 1 = .ok (.invokespecial 3, 3) := by decide +kernel
theorem dX0_init_4 : decode cX0_init 4 = .ok (.aload_n 0, 1) := by decide +kernel
theorem dX0_init_5 : decode cX0_init 5 = .ok (.new 9, 3) := by decide +kernel
theorem dX0_init_8 : decode cX0_init 8 = .ok (.dup, 1) := by decide +kernel
theorem dX0_init_9 : decode cX0_init 9 = .ok (.invokespecial 11, 3) := by decide +kernel
theorem dX0_init_12 : decode cX0_init 12 = .ok (.putfield 12, 3) := by decide +kernel
theorem dX0_init_15 : decode cX0_init 15 = .ok (.aload_n 0, 1) := by decide +kernel
theorem dX0_init_16 : decode cX0_init 16 = .ok (.sipush 640, 3) := by decide +kernel
theorem dX0_init_19 : decode cX0_init 19 = .ok (.newarray .int, 2) := by decide +kernel
theorem dX0_init_21 : decode cX0_init 21 = .ok (.putfield 18, 3) := by decide +kernel
theorem dX0_init_24 : decode cX0_init 24 = .ok (.return_, 1) := by decide +kernel
theorem dX0_forget_0 : decode cX0_forget 0 = .ok (.aload_n 0, 1) := by decide +kernel
theorem dX0_forget_1 : decode cX0_forget 1 = .ok (.getfield 12, 3) := by decide +kernel
theorem dX0_forget_4 : decode cX0_forget 4 = .ok (.invokevirtual 22, 3) := by decide +kernel
theorem dX0_forget_7 : decode cX0_forget 7 = .ok (.aload_n 0, 1) := by decide +kernel
theorem dX0_forget_8 : decode cX0_forget 8 = .ok (.getfield 18, 3) := by decide +kernel
theorem dX0_forget_11 : decode cX0_forget 11 = .ok (.iconst 0, 1) := by decide +kernel
theorem dX0_forget_12 : decode cX0_forget 12 = .ok (.invokestatic 25, 3) := by decide +kernel
theorem dX0_forget_15 : decode cX0_forget 15 = .ok (.return_, 1) := by decide +kernel
theorem dX0_hasIt_0 : decode cX0_hasIt 0 = .ok (.aload_n 0, 1) := by decide +kernel
theorem dX0_hasIt_1 : decode cX0_hasIt 1 = .ok (.getfield 12, 3) := by decide +kernel
theorem dX0_hasIt_4 : decode cX0_hasIt 4 = .ok (.iload_n 2, 1) := by decide +kernel
theorem dX0_hasIt_5 : decode cX0_hasIt 5 = .ok (.invokevirtual 31, 3) := by decide +kernel
theorem dX0_hasIt_8 : decode cX0_hasIt 8 = .ok (.istore 5, 2) := by decide +kernel
theorem dX0_hasIt_10 : decode cX0_hasIt 10 = .ok (.iload 4, 2) := by decide +kernel
theorem dX0_hasIt_12 : decode cX0_hasIt 12 = .ok (.bipush 64, 2) := by decide +kernel
theorem dX0_hasIt_14 : decode cX0_hasIt 14 = .ok (.if_icmp .gt 16, 3) := by decide +kernel
theorem dX0_hasIt_17 : decode cX0_hasIt 17 = .ok (.iload 5, 2) := by decide +kernel
theorem dX0_hasIt_19 : decode cX0_hasIt 19 = .ok (.ifCond .lt 11, 3) := by decide +kernel
theorem dX0_hasIt_22 : decode cX0_hasIt 22 = .ok (.iload 5, 2) := by decide +kernel
theorem dX0_hasIt_24 : decode cX0_hasIt 24 = .ok (.sipush 640, 3) := by decide +kernel
theorem dX0_hasIt_27 : decode cX0_hasIt 27 = .ok (.if_icmp .lt 5, 3) := by decide +kernel
theorem dX0_hasIt_30 : decode cX0_hasIt 30 = .ok (.iconst 0, 1) := by decide +kernel
theorem dX0_hasIt_31 : decode cX0_hasIt 31 = .ok (.ireturn, 1) := by decide +kernel
theorem dX0_hasIt_32 : decode cX0_hasIt 32 = .ok (.aload_n 0, 1) := by decide +kernel
theorem dX0_hasIt_33 : decode cX0_hasIt 33 = .ok (.getfield 18, 3) := by decide +kernel
theorem dX0_hasIt_36 : decode cX0_hasIt 36 = .ok (.iload 5, 2) := by decide +kernel
theorem dX0_hasIt_38 : decode cX0_hasIt 38 = .ok (.iaload, 1) := by decide +kernel
theorem dX0_hasIt_39 : decode cX0_hasIt 39 = .ok (.iconst 2, 1) := by decide +kernel
theorem dX0_hasIt_40 : decode cX0_hasIt 40 = .ok (.iload_n 3, 1) := by decide +kernel
theorem dX0_hasIt_41 : decode cX0_hasIt 41 = .ok (.imul, 1) := by decide +kernel
theorem dX0_hasIt_42 : decode cX0_hasIt 42 = .ok (.ishr, 1) := by decide +kernel
theorem dX0_hasIt_43 : decode cX0_hasIt 43 = .ok (.iconst 3, 1) := by decide +kernel
theorem dX0_hasIt_44 : decode cX0_hasIt 44 = .ok (.iand, 1) := by decide +kernel
theorem dX0_hasIt_45 : decode cX0_hasIt 45 = .ok (.istore 6, 2) := by decide +kernel
theorem dX0_hasIt_47 : decode cX0_hasIt 47 = .ok (.iload 6, 2) := by decide +kernel
theorem dX0_hasIt_49 : decode cX0_hasIt 49 = .ok (.ifCond .eq 15, 3) := by decide +kernel
theorem dX0_hasIt_52 : decode cX0_hasIt 52 = .ok (.iload 6, 2) := by decide +kernel
theorem dX0_hasIt_54 : decode cX0_hasIt 54 = .ok (.iconst 2, 1) := by decide +kernel
theorem dX0_hasIt_55 : decode cX0_hasIt 55 = .ok (.if_icmp .ne 7, 3) := by decide +kernel
theorem dX0_hasIt_58 : decode cX0_hasIt 58 = .ok (.iconst 1, 1) := by decide +kernel
theorem dX0_hasIt_59 : decode cX0_hasIt 59 = .ok (.goto 4, 3) := by decide +kernel
theorem dX0_hasIt_62 : decode cX0_hasIt 62 = .ok (.iconst 0, 1) := by decide +kernel
theorem dX0_hasIt_63 : decode cX0_hasIt 63 = .ok (.ireturn, 1) := by decide +kernel
theorem dX0_hasIt_64 : decode cX0_hasIt 64 = .ok (.aload_n 0, 1) := by decide +kernel
theorem dX0_hasIt_65 : decode cX0_hasIt 65 = .ok (.aload_n 1, 1) := by decide +kernel
theorem dX0_hasIt_66 : decode cX0_hasIt 66 = .ok (.iload_n 2, 1) := by decide +kernel
theorem dX0_hasIt_67 : decode cX0_hasIt 67 = .ok (.iload_n 3, 1) := by decide +kernel
theorem dX0_hasIt_68 : decode cX0_hasIt 68 = .ok (.iload 4, 2) := by decide +kernel
theorem dX0_hasIt_70 : decode cX0_hasIt 70 = .ok (.invokevirtual 35, 3) := by decide +kernel
theorem dX0_hasIt_73 : decode cX0_hasIt 73 = .ok (.iconst (-1), 1) := by decide +kernel
theorem dX0_hasIt_74 : decode cX0_hasIt 74 = .ok (.if_icmp .eq 7, 3) := by decide +kernel
theorem dX0_hasIt_77 : decode cX0_hasIt 77 = .ok (.iconst 1, 1) := by decide +kernel
theorem dX0_hasIt_78 : decode cX0_hasIt 78 = .ok (.goto 4, 3) := by decide +kernel
theorem dX0_hasIt_81 : decode cX0_hasIt 81 = .ok (.iconst 0, 1) := by decide +kernel
theorem dX0_hasIt_82 : decode cX0_hasIt 82 = .ok (.istore 7, 2) := by decide +kernel
theorem dX0_hasIt_84 : decode cX0_hasIt 84 = .ok (.aload_n 0, 1) := by decide +kernel
theorem dX0_hasIt_85 : decode cX0_hasIt 85 = .ok (.getfield 18, 3) := by decide +kernel
theorem dX0_hasIt_88 : decode cX0_hasIt 88 = .ok (.iload 5, 2) := by decide +kernel
theorem dX0_hasIt_90 : decode cX0_hasIt 90 = .ok (.dup2, 1) := by decide +kernel
theorem dX0_hasIt_91 : decode cX0_hasIt 91 = .ok (.iaload, 1) := by decide +kernel
theorem dX0_hasIt_92 : decode cX0_hasIt 92 = .ok (.iload 7, 2) := by decide +kernel
theorem dX0_hasIt_94 : decode cX0_hasIt 94 = .ok (.ifCond .eq 7, 3) := by decide +kernel
theorem dX0_hasIt_97 : decode cX0_hasIt 97 = .ok (.iconst 2, 1) := by decide +kernel
theorem dX0_hasIt_98 : decode cX0_hasIt 98 = .ok (.goto 4, 3) := by decide +kernel
theorem dX0_hasIt_101 : decode cX0_hasIt 101 = .ok (.iconst 1, 1) := by decide +kernel
theorem dX0_hasIt_102 : decode cX0_hasIt 102 = .ok (.iconst 2, 1) := by decide +kernel
theorem dX0_hasIt_103 : decode cX0_hasIt 103 = .ok (.iload_n 3, 1) := by decide +kernel
theorem dX0_hasIt_104 : decode cX0_hasIt 104 = .ok (.imul, 1) := by decide +kernel
theorem dX0_hasIt_105 : decode cX0_hasIt 105 = .ok (.ishl, 1) := by decide +kernel
theorem dX0_hasIt_106 : decode cX0_hasIt 106 = .ok (.ior, 1) := by decide +kernel
theorem dX0_hasIt_107 : decode cX0_hasIt 107 = .ok (.iastore, 1) := by decide +kernel
theorem dX0_hasIt_108 : decode cX0_hasIt 108 = .ok (.iload 7, 2) := by decide +kernel
theorem dX0_hasIt_110 : decode cX0_hasIt 110 = .ok (.ireturn, 1) := by decide +kernel
theorem dX0_winningMove_0 : decode cX0_winningMove 0 = .ok (.aload_n 1, 1) := by decide +kernel
theorem dX0_winningMove_1 : decode cX0_winningMove 1 = .ok (.iload_n 2, 1) := by decide +kernel
theorem dX0_winningMove_2 : decode cX0_winningMove 2 = .ok (.iconst 1, 1) := by decide +kernel
theorem dX0_winningMove_3 : decode cX0_winningMove 3 = .ok (.invokevirtual 39, 3) := by decide +kernel
theorem dX0_winningMove_6 : decode cX0_winningMove 6 = .ok (.lstore 5, 2) := by decide +kernel
theorem dX0_winningMove_8 : decode cX0_winningMove 8 = .ok (.lload 5, 2) := by decide +kernel
theorem dX0_winningMove_10 : decode cX0_winningMove 10 = .ok (.invokestatic 45, 3) := by decide +kernel
theorem dX0_winningMove_13 : decode cX0_winningMove 13 = .ok (.istore 7, 2) := by decide +kernel
theorem dX0_winningMove_15 : decode cX0_winningMove 15 = .ok (.iconst 0, 1) := by decide +kernel
theorem dX0_winningMove_16 : decode cX0_winningMove 16 = .ok (.istore 8, 2) := by decide +kernel
theorem dX0_winningMove_18 : decode cX0_winningMove 18 = .ok (.iload 8, 2) := by decide +kernel
theorem dX0_winningMove_20 : decode cX0_winningMove 20 = .ok (.iload 7, 2) := by decide +kernel
theorem dX0_winningMove_22 : decode cX0_winningMove 22 = .ok (.if_icmp .ge 91, 3) := by decide +kernel
theorem dX0_winningMove_25 : decode cX0_winningMove 25 = .ok (.lload 5, 2) := by decide +kernel
theorem dX0_winningMove_27 : decode cX0_winningMove 27 = .ok (.invokestatic 51, 3) := by decide +kernel
theorem dX0_winningMove_30 : decode cX0_winningMove 30 = .ok (.istore 9, 2) := by decide +kernel
theorem dX0_winningMove_32 : decode cX0_winningMove 32 = .ok (.lload 5, 2) := by decide +kernel
theorem dX0_winningMove_34 : decode cX0_winningMove 34 = .ok (.lload 5, 2) := by decide +kernel
theorem dX0_winningMove_36 : decode cX0_winningMove 36 = .ok (.lconst 1, 1) := by decide +kernel
theorem dX0_winningMove_37 : decode cX0_winningMove 37 = .ok (.lsub, 1) := by decide +kernel
theorem dX0_winningMove_38 : decode cX0_winningMove 38 = .ok (.land, 1) := by decide +kernel
theorem dX0_winningMove_39 : decode cX0_winningMove 39 = .ok (.lstore 5, 2) := by decide +kernel
theorem dX0_winningMove_41 : decode cX0_winningMove 41 = .ok (.iload_n 2, 1) := by decide +kernel
theorem dX0_winningMove_42 : decode cX0_winningMove 42 = .ok (.iload 9, 2) := by decide +kernel
theorem dX0_winningMove_44 : decode cX0_winningMove 44 = .ok (.iconst 3, 1) := by decide +kernel
theorem dX0_winningMove_45 : decode cX0_winningMove 45 = .ok (.ishr, 1) := by decide +kernel
theorem dX0_winningMove_46 : decode cX0_winningMove 46 = .ok (.invokestatic 56, 3) := by decide +kernel
theorem dX0_winningMove_49 : decode cX0_winningMove 49 = .ok (.iconst 2, 1) := by decide +kernel
theorem dX0_winningMove_50 : decode cX0_winningMove 50 = .ok (.if_icmp .ne 7, 3) := by decide +kernel
theorem dX0_winningMove_53 : decode cX0_winningMove 53 = .ok (.iconst 1, 1) := by decide +kernel
theorem dX0_winningMove_54 : decode cX0_winningMove 54 = .ok (.goto 4, 3) := by decide +kernel
theorem dX0_winningMove_57 : decode cX0_winningMove 57 = .ok (.iconst 0, 1) := by decide +kernel
theorem dX0_winningMove_58 : decode cX0_winningMove 58 = .ok (.iload_n 3, 1) := by decide +kernel
theorem dX0_winningMove_59 : decode cX0_winningMove 59 = .ok (.iconst 1, 1) := by decide +kernel
theorem dX0_winningMove_60 : decode cX0_winningMove 60 = .ok (.if_icmp .ne 7, 3) := by decide +kernel
theorem dX0_winningMove_63 : decode cX0_winningMove 63 = .ok (.iconst 1, 1) := by decide +kernel
theorem dX0_winningMove_64 : decode cX0_winningMove 64 = .ok (.goto 4, 3) := by decide +kernel
theorem dX0_winningMove_67 : decode cX0_winningMove 67 = .ok (.iconst 0, 1) := by decide +kernel
theorem dX0_winningMove_68 : decode cX0_winningMove 68 = .ok (.if_icmp .ne 7, 3) := by decide +kernel
theorem dX0_winningMove_71 : decode cX0_winningMove 71 = .ok (.iconst 1, 1) := by decide +kernel
theorem dX0_winningMove_72 : decode cX0_winningMove 72 = .ok (.goto 4, 3) := by decide +kernel
theorem dX0_winningMove_75 : decode cX0_winningMove 75 = .ok (.iconst 0, 1) := by decide +kernel
theorem dX0_winningMove_76 : decode cX0_winningMove 76 = .ok (.istore 10, 2) := by decide +kernel
theorem dX0_winningMove_78 : decode cX0_winningMove 78 = .ok (.iload 10, 2) := by decide +kernel
theorem dX0_winningMove_80 : decode cX0_winningMove 80 = .ok (.ifCond .eq 27, 3) := by decide +kernel
theorem dX0_winningMove_83 : decode cX0_winningMove 83 = .ok (.aload_n 0, 1) := by decide +kernel
theorem dX0_winningMove_84 : decode cX0_winningMove 84 = .ok (.aload_n 1, 1) := by decide +kernel
theorem dX0_winningMove_85 : decode cX0_winningMove 85 = .ok (.iload_n 2, 1) := by decide +kernel
theorem dX0_winningMove_86 : decode cX0_winningMove 86 = .ok (.iload 9, 2) := by decide +kernel
theorem dX0_winningMove_88 : decode cX0_winningMove 88 = .ok (.invokestatic 60, 3) := by decide +kernel
theorem dX0_winningMove_91 : decode cX0_winningMove 91 = .ok (.iconst 1, 1) := by decide +kernel
theorem dX0_winningMove_92 : decode cX0_winningMove 92 = .ok (.iload_n 3, 1) := by decide +kernel
theorem dX0_winningMove_93 : decode cX0_winningMove 93 = .ok (.isub, 1) := by decide +kernel
theorem dX0_winningMove_94 : decode cX0_winningMove 94 = .ok (.iload 4, 2) := by decide +kernel
theorem dX0_winningMove_96 : decode cX0_winningMove 96 = .ok (.iconst 1, 1) := by decide +kernel
theorem dX0_winningMove_97 : decode cX0_winningMove 97 = .ok (.iadd, 1) := by decide +kernel
theorem dX0_winningMove_98 : decode cX0_winningMove 98 = .ok (.invokevirtual 63, 3) := by decide +kernel
theorem dX0_winningMove_101 : decode cX0_winningMove 101 = .ok (.ifCond .ne 6, 3) := by decide +kernel
theorem dX0_winningMove_104 : decode cX0_winningMove 104 = .ok (.iload 9, 2) := by decide +kernel
theorem dX0_winningMove_106 : decode cX0_winningMove 106 = .ok (.ireturn, 1) := by decide +kernel
theorem dX0_winningMove_107 : decode cX0_winningMove 107 = .ok (.iinc 8 1, 3) := by decide +kernel
theorem dX0_winningMove_110 : decode cX0_winningMove 110 = .ok (.goto (-92), 3) := by decide +kernel
theorem dX0_winningMove_113 : decode cX0_winningMove 113 = .ok (.iconst (-1), 1) := by decide +kernel
theorem dX0_winningMove_114 : decode cX0_winningMove 114 = .ok (.ireturn, 1) := by decide +kernel
theorem dX1_init_0 : decode cX1_init 0 = .ok (.aload_n 0, 1) := by decide +kernel
theorem dX1_init_1 : decode cX1_init 1 = .ok (.invokespecial 3, 3) := by decide +kernel
theorem dX1_init_4 : decode cX1_init 4 = .ok (.aload_n 0, 1) := by decide +kernel
theorem dX1_init_5 : decode cX1_init 5 = .ok (.bipush 14, 2) := by decide +kernel
theorem dX1_init_7 : decode cX1_init 7 = .ok (.newarray .int, 2) := by decide +kernel
theorem dX1_init_9 : decode cX1_init 9 = .ok (.putfield 9, 3) := by decide +kernel
theorem dX1_init_12 : decode cX1_init 12 = .ok (.return_, 1) := by decide +kernel
theorem dX1_lettersIn_0 : decode cX1_lettersIn 0 = .ok (.iconst 0, 1) := by decide +kernel
theorem dX1_lettersIn_1 : decode cX1_lettersIn 1 = .ok (.istore_n 2, 1) := by decide +kernel
theorem dX1_lettersIn_2 : decode cX1_lettersIn 2 = .ok (.iconst 0, 1) := by decide +kernel
theorem dX1_lettersIn_3 : decode cX1_lettersIn 3 = .ok (.istore_n 3, 1) := by decide +kernel
theorem dX1_lettersIn_4 : decode cX1_lettersIn 4 = .ok (.iconst 0, 1) := by decide +kernel
theorem dX1_lettersIn_5 : decode cX1_lettersIn 5 = .ok (.istore 4, 2) := by decide +kernel
theorem dX1_lettersIn_7 : decode cX1_lettersIn 7 = .ok (.iload 4, 2) := by decide +kernel
theorem dX1_lettersIn_9 : decode cX1_lettersIn 9 = .ok (.bipush 8, 2) := by decide +kernel
theorem dX1_lettersIn_11 : decode cX1_lettersIn 11 = .ok (.if_icmp .ge 48, 3) := by decide +kernel
theorem dX1_lettersIn_14 : decode cX1_lettersIn 14 = .ok (.lload_n 0, 1) := by decide +kernel
theorem dX1_lettersIn_15 : decode cX1_lettersIn 15 = .ok (.iload 4, 2) := by decide +kernel
theorem dX1_lettersIn_17 : decode cX1_lettersIn 17 = .ok (.invokestatic 15, 3) := by decide +kernel
theorem dX1_lettersIn_20 : decode cX1_lettersIn 20 = .ok (.istore 5, 2) := by decide +kernel
theorem dX1_lettersIn_22 : decode cX1_lettersIn 22 = .ok (.iload 5, 2) := by decide +kernel
theorem dX1_lettersIn_24 : decode cX1_lettersIn 24 = .ok (.bipush 126, 2) := by decide +kernel
theorem dX1_lettersIn_26 : decode cX1_lettersIn 26 = .ok (.if_icmp .gt 12, 3) := by decide +kernel
theorem dX1_lettersIn_29 : decode cX1_lettersIn 29 = .ok (.iload_n 3, 1) := by decide +kernel
theorem dX1_lettersIn_30 : decode cX1_lettersIn 30 = .ok (.ifCond .eq 10, 3) := by decide +kernel
theorem dX1_lettersIn_33 : decode cX1_lettersIn 33 = .ok (.iload 5, 2) := by decide +kernel
theorem dX1_lettersIn_35 : decode cX1_lettersIn 35 = .ok (.ifCond .eq 5, 3) := by decide +kernel
theorem dX1_lettersIn_38 : decode cX1_lettersIn 38 = .ok (.iconst (-1), 1) := by decide +kernel
theorem dX1_lettersIn_39 : decode cX1_lettersIn 39 = .ok (.ireturn, 1) := by decide +kernel
theorem dX1_lettersIn_40 : decode cX1_lettersIn 40 = .ok (.iload 5, 2) := by decide +kernel
theorem dX1_lettersIn_42 : decode cX1_lettersIn 42 = .ok (.ifCond .ne 8, 3) := by decide +kernel
theorem dX1_lettersIn_45 : decode cX1_lettersIn 45 = .ok (.iconst 1, 1) := by decide +kernel
theorem dX1_lettersIn_46 : decode cX1_lettersIn 46 = .ok (.istore_n 3, 1) := by decide +kernel
theorem dX1_lettersIn_47 : decode cX1_lettersIn 47 = .ok (.goto 6, 3) := by decide +kernel
theorem dX1_lettersIn_50 : decode cX1_lettersIn 50 = .ok (.iinc 2 1, 3) := by decide +kernel
theorem dX1_lettersIn_53 : decode cX1_lettersIn 53 = .ok (.iinc 4 1, 3) := by decide +kernel
theorem dX1_lettersIn_56 : decode cX1_lettersIn 56 = .ok (.goto (-49), 3) := by decide +kernel
theorem dX1_lettersIn_59 : decode cX1_lettersIn 59 = .ok (.iload_n 2, 1) := by decide +kernel
theorem dX1_lettersIn_60 : decode cX1_lettersIn 60 = .ok (.ireturn, 1) := by decide +kernel
theorem dX1_codeIn_0 : decode cX1_codeIn 0 = .ok (.lload_n 0, 1) := by decide +kernel
theorem dX1_codeIn_1 : decode cX1_codeIn 1 = .ok (.bipush 8, 2) := by decide +kernel
theorem dX1_codeIn_3 : decode cX1_codeIn 3 = .ok (.iload_n 2, 1) := by decide +kernel
theorem dX1_codeIn_4 : decode cX1_codeIn 4 = .ok (.imul, 1) := by decide +kernel
theorem dX1_codeIn_5 : decode cX1_codeIn 5 = .ok (.lushr, 1) := by decide +kernel
theorem dX1_codeIn_6 : decode cX1_codeIn 6 = .ok (.l2i, 1) := by decide +kernel
theorem dX1_codeIn_7 : decode cX1_codeIn 7 = .ok (.sipush 255, 3) := by decide +kernel
theorem dX1_codeIn_10 : decode cX1_codeIn 10 = .ok (.iand, 1) := by decide +kernel
theorem dX1_codeIn_11 : decode cX1_codeIn 11 = .ok (.ireturn, 1) := by decide +kernel
theorem dX1_append_0 : decode cX1_append 0 = .ok (.iconst 0, 1) := by decide +kernel
theorem dX1_append_1 : decode cX1_append 1 = .ok (.istore 4, 2) := by decide +kernel
theorem dX1_append_3 : decode cX1_append 3 = .ok (.iload 4, 2) := by decide +kernel
theorem dX1_append_5 : decode cX1_append 5 = .ok (.iload_n 3, 1) := by decide +kernel
theorem dX1_append_6 : decode cX1_append 6 = .ok (.if_icmp .ge 43, 3) := by decide +kernel
theorem dX1_append_9 : decode cX1_append 9 = .ok (.aload_n 0, 1) := by decide +kernel
theorem dX1_append_10 : decode cX1_append 10 = .ok (.getfield 19, 3) := by decide +kernel
theorem dX1_append_13 : decode cX1_append 13 = .ok (.bipush 14, 2) := by decide +kernel
theorem dX1_append_15 : decode cX1_append 15 = .ok (.if_icmp .ge 34, 3) := by decide +kernel
theorem dX1_append_18 : decode cX1_append 18 = .ok (.aload_n 0, 1) := by decide +kernel
theorem dX1_append_19 : decode cX1_append 19 = .ok (.getfield 9, 3) := by decide +kernel
theorem dX1_append_22 : decode cX1_append 22 = .ok (.aload_n 0, 1) := by decide +kernel
theorem dX1_append_23 : decode cX1_append 23 = .ok (.getfield 19, 3) := by decide +kernel
theorem dX1_append_26 : decode cX1_append 26 = .ok (.lload_n 1, 1) := by decide +kernel
theorem dX1_append_27 : decode cX1_append 27 = .ok (.iload 4, 2) := by decide +kernel
theorem dX1_append_29 : decode cX1_append 29 = .ok (.invokestatic 15, 3) := by decide +kernel
theorem dX1_append_32 : decode cX1_append 32 = .ok (.iastore, 1) := by decide +kernel
theorem dX1_append_33 : decode cX1_append 33 = .ok (.aload_n 0, 1) := by decide +kernel
theorem dX1_append_34 : decode cX1_append 34 = .ok (.dup, 1) := by decide +kernel
theorem dX1_append_35 : decode cX1_append 35 = .ok (.getfield 19, 3) := by decide +kernel
theorem dX1_append_38 : decode cX1_append 38 = .ok (.iconst 1, 1) := by decide +kernel
theorem dX1_append_39 : decode cX1_append 39 = .ok (.iadd, 1) := by decide +kernel
theorem dX1_append_40 : decode cX1_append 40 = .ok (.putfield 19, 3) := by decide +kernel
theorem dX1_append_43 : decode cX1_append 43 = .ok (.iinc 4 1, 3) := by decide +kernel
theorem dX1_append_46 : decode cX1_append 46 = .ok (.goto (-43), 3) := by decide +kernel
theorem dX1_append_49 : decode cX1_append 49 = .ok (.return_, 1) := by decide +kernel
theorem dX1_kindOf_0 : decode cX1_kindOf 0 = .ok (.iload_n 0, 1) := by decide +kernel
theorem dX1_kindOf_1 : decode cX1_kindOf 1 = .ok (.lookupswitch 61 #[(46, 51), (60, 55), (62, 53), (103, 59), (111, 57)], 51) := by decide +kernel
theorem dX1_kindOf_52 : decode cX1_kindOf 52 = .ok (.iconst 0, 1) := by decide +kernel
theorem dX1_kindOf_53 : decode cX1_kindOf 53 = .ok (.ireturn, 1) := by decide +kernel
theorem dX1_kindOf_54 : decode cX1_kindOf 54 = .ok (.iconst 1, 1) := by decide +kernel
theorem dX1_kindOf_55 : decode cX1_kindOf 55 = .ok (.ireturn, 1) := by decide +kernel
theorem dX1_kindOf_56 : decode cX1_kindOf 56 = .ok (.iconst 2, 1) := by decide +kernel
theorem dX1_kindOf_57 : decode cX1_kindOf 57 = .ok (.ireturn, 1) := by decide +kernel
theorem dX1_kindOf_58 : decode cX1_kindOf 58 = .ok (.iconst 3, 1) := by decide +kernel
theorem dX1_kindOf_59 : decode cX1_kindOf 59 = .ok (.ireturn, 1) := by decide +kernel
theorem dX1_kindOf_60 : decode cX1_kindOf 60 = .ok (.iconst 4, 1) := by decide +kernel
theorem dX1_kindOf_61 : decode cX1_kindOf 61 = .ok (.ireturn, 1) := by decide +kernel
theorem dX1_kindOf_62 : decode cX1_kindOf 62 = .ok (.iconst (-1), 1) := by decide +kernel
theorem dX1_kindOf_63 : decode cX1_kindOf 63 = .ok (.ireturn, 1) := by decide +kernel
theorem dX1_signOf_0 : decode cX1_signOf 0 = .ok (.iload_n 0, 1) := by decide +kernel
theorem dX1_signOf_1 : decode cX1_signOf 1 = .ok (.lookupswitch 51 #[(97, 43), (98, 45), (114, 47), (116, 49)], 43) := by decide +kernel
theorem dX1_signOf_44 : decode cX1_signOf 44 = .ok (.iconst 0, 1) := by decide +kernel
theorem dX1_signOf_45 : decode cX1_signOf 45 = .ok (.ireturn, 1) := by decide +kernel
theorem dX1_signOf_46 : decode cX1_signOf 46 = .ok (.iconst 1, 1) := by decide +kernel
theorem dX1_signOf_47 : decode cX1_signOf 47 = .ok (.ireturn, 1) := by decide +kernel
theorem dX1_signOf_48 : decode cX1_signOf 48 = .ok (.iconst 2, 1) := by decide +kernel
theorem dX1_signOf_49 : decode cX1_signOf 49 = .ok (.ireturn, 1) := by decide +kernel
theorem dX1_signOf_50 : decode cX1_signOf 50 = .ok (.iconst 3, 1) := by decide +kernel
theorem dX1_signOf_51 : decode cX1_signOf 51 = .ok (.ireturn, 1) := by decide +kernel
theorem dX1_signOf_52 : decode cX1_signOf 52 = .ok (.iconst (-1), 1) := by decide +kernel
theorem dX1_signOf_53 : decode cX1_signOf 53 = .ok (.ireturn, 1) := by decide +kernel
theorem dX1_leadingStones_0 : decode cX1_leadingStones 0 = .ok (.iconst 0, 1) := by decide +kernel
theorem dX1_leadingStones_1 : decode cX1_leadingStones 1 = .ok (.istore_n 1, 1) := by decide +kernel
theorem dX1_leadingStones_2 : decode cX1_leadingStones 2 = .ok (.iload_n 1, 1) := by decide +kernel
theorem dX1_leadingStones_3 : decode cX1_leadingStones 3 = .ok (.aload_n 0, 1) := by decide +kernel
theorem dX1_leadingStones_4 : decode cX1_leadingStones 4 = .ok (.getfield 19, 3) := by decide +kernel
theorem dX1_leadingStones_7 : decode cX1_leadingStones 7 = .ok (.if_icmp .ge 28, 3) := by decide +kernel
theorem dX1_leadingStones_10 : decode cX1_leadingStones 10 = .ok (.iload_n 1, 1) := by decide +kernel
theorem dX1_leadingStones_11 : decode cX1_leadingStones 11 = .ok (.bipush 7, 2) := by decide +kernel
theorem dX1_leadingStones_13 : decode cX1_leadingStones 13 = .ok (.if_icmp .ge 22, 3) := by decide +kernel
theorem dX1_leadingStones_16 : decode cX1_leadingStones 16 = .ok (.aload_n 0, 1) := by decide +kernel
theorem dX1_leadingStones_17 : decode cX1_leadingStones 17 = .ok (.getfield 9, 3) := by decide +kernel
theorem dX1_leadingStones_20 : decode cX1_leadingStones 20 = .ok (.iload_n 1, 1) := by decide +kernel
theorem dX1_leadingStones_21 : decode cX1_leadingStones 21 = .ok (.iaload, 1) := by decide +kernel
theorem dX1_leadingStones_22 : decode cX1_leadingStones 22 = .ok (.invokestatic 23, 3) := by decide +kernel
theorem dX1_leadingStones_25 : decode cX1_leadingStones 25 = .ok (.iconst (-1), 1) := by decide +kernel
theorem dX1_leadingStones_26 : decode cX1_leadingStones 26 = .ok (.if_icmp .eq 9, 3) := by decide +kernel
theorem dX1_leadingStones_29 : decode cX1_leadingStones 29 = .ok (.iinc 1 1, 3) := by decide +kernel
theorem dX1_leadingStones_32 : decode cX1_leadingStones 32 = .ok (.goto (-30), 3) := by decide +kernel
theorem dX1_leadingStones_35 : decode cX1_leadingStones 35 = .ok (.iload_n 1, 1) := by decide +kernel
theorem dX1_leadingStones_36 : decode cX1_leadingStones 36 = .ok (.ireturn, 1) := by decide +kernel
theorem dX1_firstFault_0 : decode cX1_firstFault 0 = .ok (.aload_n 0, 1) := by decide +kernel
theorem dX1_firstFault_1 : decode cX1_firstFault 1 = .ok (.invokevirtual 27, 3) := by decide +kernel
theorem dX1_firstFault_4 : decode cX1_firstFault 4 = .ok (.istore_n 1, 1) := by decide +kernel
theorem dX1_firstFault_5 : decode cX1_firstFault 5 = .ok (.iload_n 1, 1) := by decide +kernel
theorem dX1_firstFault_6 : decode cX1_firstFault 6 = .ok (.aload_n 0, 1) := by decide +kernel
theorem dX1_firstFault_7 : decode cX1_firstFault 7 = .ok (.getfield 19, 3) := by decide +kernel
theorem dX1_firstFault_10 : decode cX1_firstFault 10 = .ok (.if_icmp .lt 8, 3) := by decide +kernel
theorem dX1_firstFault_13 : decode cX1_firstFault 13 = .ok (.aload_n 0, 1) := by decide +kernel
theorem dX1_firstFault_14 : decode cX1_firstFault 14 = .ok (.getfield 19, 3) := by decide +kernel
theorem dX1_firstFault_17 : decode cX1_firstFault 17 = .ok (.ireturn, 1) := by decide +kernel
theorem dX1_firstFault_18 : decode cX1_firstFault 18 = .ok (.iload_n 1, 1) := by decide +kernel
theorem dX1_firstFault_19 : decode cX1_firstFault 19 = .ok (.iconst 3, 1) := by decide +kernel
theorem dX1_firstFault_20 : decode cX1_firstFault 20 = .ok (.if_icmp .lt 14, 3) := by decide +kernel
theorem dX1_firstFault_23 : decode cX1_firstFault 23 = .ok (.aload_n 0, 1) := by decide +kernel
theorem dX1_firstFault_24 : decode cX1_firstFault 24 = .ok (.getfield 9, 3) := by decide +kernel
theorem dX1_firstFault_27 : decode cX1_firstFault 27 = .ok (.iload_n 1, 1) := by decide +kernel
theorem dX1_firstFault_28 : decode cX1_firstFault 28 = .ok (.iaload, 1) := by decide +kernel
theorem dX1_firstFault_29 : decode cX1_firstFault 29 = .ok (.bipush 59, 2) := by decide +kernel
theorem dX1_firstFault_31 : decode cX1_firstFault 31 = .ok (.if_icmp .eq 5, 3) := by decide +kernel
theorem dX1_firstFault_34 : decode cX1_firstFault 34 = .ok (.iload_n 1, 1) := by decide +kernel
theorem dX1_firstFault_35 : decode cX1_firstFault 35 = .ok (.ireturn, 1) := by decide +kernel
theorem dX1_firstFault_36 : decode cX1_firstFault 36 = .ok (.iconst (-1), 1) := by decide +kernel
theorem dX1_firstFault_37 : decode cX1_firstFault 37 = .ok (.istore_n 2, 1) := by decide +kernel
theorem dX1_firstFault_38 : decode cX1_firstFault 38 = .ok (.iload_n 1, 1) := by decide +kernel
theorem dX1_firstFault_39 : decode cX1_firstFault 39 = .ok (.iconst 1, 1) := by decide +kernel
theorem dX1_firstFault_40 : decode cX1_firstFault 40 = .ok (.iadd, 1) := by decide +kernel
theorem dX1_firstFault_41 : decode cX1_firstFault 41 = .ok (.istore_n 3, 1) := by decide +kernel
theorem dX1_firstFault_42 : decode cX1_firstFault 42 = .ok (.iload_n 3, 1) := by decide +kernel
theorem dX1_firstFault_43 : decode cX1_firstFault 43 = .ok (.aload_n 0, 1) := by decide +kernel
theorem dX1_firstFault_44 : decode cX1_firstFault 44 = .ok (.getfield 19, 3) := by decide +kernel
theorem dX1_firstFault_47 : decode cX1_firstFault 47 = .ok (.if_icmp .ge 37, 3) := by decide +kernel
theorem dX1_firstFault_50 : decode cX1_firstFault 50 = .ok (.iload_n 3, 1) := by decide +kernel
theorem dX1_firstFault_51 : decode cX1_firstFault 51 = .ok (.bipush 14, 2) := by decide +kernel
theorem dX1_firstFault_53 : decode cX1_firstFault 53 = .ok (.if_icmp .ge 31, 3) := by decide +kernel
theorem dX1_firstFault_56 : decode cX1_firstFault 56 = .ok (.aload_n 0, 1) := by decide +kernel
theorem dX1_firstFault_57 : decode cX1_firstFault 57 = .ok (.getfield 9, 3) := by decide +kernel
theorem dX1_firstFault_60 : decode cX1_firstFault 60 = .ok (.iload_n 3, 1) := by decide +kernel
theorem dX1_firstFault_61 : decode cX1_firstFault 61 = .ok (.iaload, 1) := by decide +kernel
theorem dX1_firstFault_62 : decode cX1_firstFault 62 = .ok (.invokestatic 31, 3) := by decide +kernel
theorem dX1_firstFault_65 : decode cX1_firstFault 65 = .ok (.istore 4, 2) := by decide +kernel
theorem dX1_firstFault_67 : decode cX1_firstFault 67 = .ok (.iload 4, 2) := by decide +kernel
theorem dX1_firstFault_69 : decode cX1_firstFault 69 = .ok (.iload_n 2, 1) := by decide +kernel
theorem dX1_firstFault_70 : decode cX1_firstFault 70 = .ok (.if_icmp .gt 5, 3) := by decide +kernel
theorem dX1_firstFault_73 : decode cX1_firstFault 73 = .ok (.iload_n 3, 1) := by decide +kernel
theorem dX1_firstFault_74 : decode cX1_firstFault 74 = .ok (.ireturn, 1) := by decide +kernel
theorem dX1_firstFault_75 : decode cX1_firstFault 75 = .ok (.iload 4, 2) := by decide +kernel
theorem dX1_firstFault_77 : decode cX1_firstFault 77 = .ok (.istore_n 2, 1) := by decide +kernel
theorem dX1_firstFault_78 : decode cX1_firstFault 78 = .ok (.iinc 3 1, 3) := by decide +kernel
theorem dX1_firstFault_81 : decode cX1_firstFault 81 = .ok (.goto (-39), 3) := by decide +kernel
theorem dX1_firstFault_84 : decode cX1_firstFault 84 = .ok (.aload_n 0, 1) := by decide +kernel
theorem dX1_firstFault_85 : decode cX1_firstFault 85 = .ok (.getfield 19, 3) := by decide +kernel
theorem dX1_firstFault_88 : decode cX1_firstFault 88 = .ok (.ireturn, 1) := by decide +kernel
theorem dX1_tellsBrook_0 : decode cX1_tellsBrook 0 = .ok (.aload_n 0, 1) := by decide +kernel
theorem dX1_tellsBrook_1 : decode cX1_tellsBrook 1 = .ok (.invokevirtual 27, 3) := by decide +kernel
theorem dX1_tellsBrook_4 : decode cX1_tellsBrook 4 = .ok (.istore_n 1, 1) := by decide +kernel
theorem dX1_tellsBrook_5 : decode cX1_tellsBrook 5 = .ok (.aload_n 0, 1) := by decide +kernel
theorem dX1_tellsBrook_6 : decode cX1_tellsBrook 6 = .ok (.getfield 19, 3) := by decide +kernel
theorem dX1_tellsBrook_9 : decode cX1_tellsBrook 9 = .ok (.iload_n 1, 1) := by decide +kernel
theorem dX1_tellsBrook_10 : decode cX1_tellsBrook 10 = .ok (.if_icmp .eq 13, 3) := by decide +kernel
theorem dX1_tellsBrook_13 : decode cX1_tellsBrook 13 = .ok (.aload_n 0, 1) := by decide +kernel
theorem dX1_tellsBrook_14 : decode cX1_tellsBrook 14 = .ok (.getfield 19, 3) := by decide +kernel
theorem dX1_tellsBrook_17 : decode cX1_tellsBrook 17 = .ok (.iload_n 1, 1) := by decide +kernel
theorem dX1_tellsBrook_18 : decode cX1_tellsBrook 18 = .ok (.iconst 1, 1) := by decide +kernel
theorem dX1_tellsBrook_19 : decode cX1_tellsBrook 19 = .ok (.iadd, 1) := by decide +kernel
theorem dX1_tellsBrook_20 : decode cX1_tellsBrook 20 = .ok (.if_icmp .le 7, 3) := by decide +kernel
theorem dX1_tellsBrook_23 : decode cX1_tellsBrook 23 = .ok (.iconst 1, 1) := by decide +kernel
theorem dX1_tellsBrook_24 : decode cX1_tellsBrook 24 = .ok (.goto 4, 3) := by decide +kernel
theorem dX1_tellsBrook_27 : decode cX1_tellsBrook 27 = .ok (.iconst 0, 1) := by decide +kernel
theorem dX1_tellsBrook_28 : decode cX1_tellsBrook 28 = .ok (.istore_n 2, 1) := by decide +kernel
theorem dX1_tellsBrook_29 : decode cX1_tellsBrook 29 = .ok (.iload_n 1, 1) := by decide +kernel
theorem dX1_tellsBrook_30 : decode cX1_tellsBrook 30 = .ok (.iconst 3, 1) := by decide +kernel
theorem dX1_tellsBrook_31 : decode cX1_tellsBrook 31 = .ok (.if_icmp .lt 29, 3) := by decide +kernel
theorem dX1_tellsBrook_34 : decode cX1_tellsBrook 34 = .ok (.iload_n 2, 1) := by decide +kernel
theorem dX1_tellsBrook_35 : decode cX1_tellsBrook 35 = .ok (.ifCond .eq 25, 3) := by decide +kernel
theorem dX1_tellsBrook_38 : decode cX1_tellsBrook 38 = .ok (.aload_n 0, 1) := by decide +kernel
theorem dX1_tellsBrook_39 : decode cX1_tellsBrook 39 = .ok (.invokevirtual 34, 3) := by decide +kernel
theorem dX1_tellsBrook_42 : decode cX1_tellsBrook 42 = .ok (.aload_n 0, 1) := by decide +kernel
theorem dX1_tellsBrook_43 : decode cX1_tellsBrook 43 = .ok (.getfield 19, 3) := by decide +kernel
theorem dX1_tellsBrook_46 : decode cX1_tellsBrook 46 = .ok (.if_icmp .ne 14, 3) := by decide +kernel
theorem dX1_tellsBrook_49 : decode cX1_tellsBrook 49 = .ok (.aload_n 0, 1) := by decide +kernel
theorem dX1_tellsBrook_50 : decode cX1_tellsBrook 50 = .ok (.invokevirtual 37, 3) := by decide +kernel
theorem dX1_tellsBrook_53 : decode cX1_tellsBrook 53 = .ok (.ifCond .eq 7, 3) := by decide +kernel
theorem dX1_tellsBrook_56 : decode cX1_tellsBrook 56 = .ok (.iconst 1, 1) := by decide +kernel
theorem dX1_tellsBrook_57 : decode cX1_tellsBrook 57 = .ok (.goto 4, 3) := by decide +kernel
theorem dX1_tellsBrook_60 : decode cX1_tellsBrook 60 = .ok (.iconst 0, 1) := by decide +kernel
theorem dX1_tellsBrook_61 : decode cX1_tellsBrook 61 = .ok (.ireturn, 1) := by decide +kernel
theorem dX1_tellsRow_0 : decode cX1_tellsRow 0 = .ok (.aload_n 0, 1) := by decide +kernel
theorem dX1_tellsRow_1 : decode cX1_tellsRow 1 = .ok (.getfield 19, 3) := by decide +kernel
theorem dX1_tellsRow_4 : decode cX1_tellsRow 4 = .ok (.iload_n 1, 1) := by decide +kernel
theorem dX1_tellsRow_5 : decode cX1_tellsRow 5 = .ok (.if_icmp .ne 15, 3) := by decide +kernel
theorem dX1_tellsRow_8 : decode cX1_tellsRow 8 = .ok (.aload_n 0, 1) := by decide +kernel
theorem dX1_tellsRow_9 : decode cX1_tellsRow 9 = .ok (.invokevirtual 27, 3) := by decide +kernel
theorem dX1_tellsRow_12 : decode cX1_tellsRow 12 = .ok (.iload_n 1, 1) := by decide +kernel
theorem dX1_tellsRow_13 : decode cX1_tellsRow 13 = .ok (.if_icmp .ne 7, 3) := by decide +kernel
theorem dX1_tellsRow_16 : decode cX1_tellsRow 16 = .ok (.iconst 1, 1) := by decide +kernel
theorem dX1_tellsRow_17 : decode cX1_tellsRow 17 = .ok (.goto 4, 3) := by decide +kernel
theorem dX1_tellsRow_20 : decode cX1_tellsRow 20 = .ok (.iconst 0, 1) := by decide +kernel
theorem dX1_tellsRow_21 : decode cX1_tellsRow 21 = .ok (.ireturn, 1) := by decide +kernel
theorem dX1_row_0 : decode cX1_row 0 = .ok (.aload_n 0, 1) := by decide +kernel
theorem dX1_row_1 : decode cX1_row 1 = .ok (.invokevirtual 27, 3) := by decide +kernel
theorem dX1_row_4 : decode cX1_row 4 = .ok (.istore_n 1, 1) := by decide +kernel
theorem dX1_row_5 : decode cX1_row 5 = .ok (.iconst 0, 1) := by decide +kernel
theorem dX1_row_6 : decode cX1_row 6 = .ok (.istore_n 2, 1) := by decide +kernel
theorem dX1_row_7 : decode cX1_row 7 = .ok (.iconst 0, 1) := by decide +kernel
theorem dX1_row_8 : decode cX1_row 8 = .ok (.istore_n 3, 1) := by decide +kernel
theorem dX1_row_9 : decode cX1_row 9 = .ok (.iload_n 3, 1) := by decide +kernel
theorem dX1_row_10 : decode cX1_row 10 = .ok (.iload_n 1, 1) := by decide +kernel
theorem dX1_row_11 : decode cX1_row 11 = .ok (.if_icmp .ge 31, 3) := by decide +kernel
theorem dX1_row_14 : decode cX1_row 14 = .ok (.iload_n 3, 1) := by decide +kernel
theorem dX1_row_15 : decode cX1_row 15 = .ok (.bipush 7, 2) := by decide +kernel
theorem dX1_row_17 : decode cX1_row 17 = .ok (.if_icmp .ge 25, 3) := by decide +kernel
theorem dX1_row_20 : decode cX1_row 20 = .ok (.iload_n 2, 1) := by decide +kernel
theorem dX1_row_21 : decode cX1_row 21 = .ok (.aload_n 0, 1) := by decide +kernel
theorem dX1_row_22 : decode cX1_row 22 = .ok (.getfield 9, 3) := by decide +kernel
theorem dX1_row_25 : decode cX1_row 25 = .ok (.iload_n 3, 1) := by decide +kernel
theorem dX1_row_26 : decode cX1_row 26 = .ok (.iaload, 1) := by decide +kernel
theorem dX1_row_27 : decode cX1_row 27 = .ok (.invokestatic 23, 3) := by decide +kernel
theorem dX1_row_30 : decode cX1_row 30 = .ok (.iconst 3, 1) := by decide +kernel
theorem dX1_row_31 : decode cX1_row 31 = .ok (.iload_n 3, 1) := by decide +kernel
theorem dX1_row_32 : decode cX1_row 32 = .ok (.imul, 1) := by decide +kernel
theorem dX1_row_33 : decode cX1_row 33 = .ok (.ishl, 1) := by decide +kernel
theorem dX1_row_34 : decode cX1_row 34 = .ok (.ior, 1) := by decide +kernel
theorem dX1_row_35 : decode cX1_row 35 = .ok (.istore_n 2, 1) := by decide +kernel
theorem dX1_row_36 : decode cX1_row 36 = .ok (.iinc 3 1, 3) := by decide +kernel
theorem dX1_row_39 : decode cX1_row 39 = .ok (.goto (-30), 3) := by decide +kernel
theorem dX1_row_42 : decode cX1_row 42 = .ok (.iload_n 2, 1) := by decide +kernel
theorem dX1_row_43 : decode cX1_row 43 = .ok (.ireturn, 1) := by decide +kernel
theorem dX1_signs_0 : decode cX1_signs 0 = .ok (.iconst 0, 1) := by decide +kernel
theorem dX1_signs_1 : decode cX1_signs 1 = .ok (.istore_n 1, 1) := by decide +kernel
theorem dX1_signs_2 : decode cX1_signs 2 = .ok (.aload_n 0, 1) := by decide +kernel
theorem dX1_signs_3 : decode cX1_signs 3 = .ok (.invokevirtual 27, 3) := by decide +kernel
theorem dX1_signs_6 : decode cX1_signs 6 = .ok (.iconst 1, 1) := by decide +kernel
theorem dX1_signs_7 : decode cX1_signs 7 = .ok (.iadd, 1) := by decide +kernel
theorem dX1_signs_8 : decode cX1_signs 8 = .ok (.istore_n 2, 1) := by decide +kernel
theorem dX1_signs_9 : decode cX1_signs 9 = .ok (.iload_n 2, 1) := by decide +kernel
theorem dX1_signs_10 : decode cX1_signs 10 = .ok (.aload_n 0, 1) := by decide +kernel
theorem dX1_signs_11 : decode cX1_signs 11 = .ok (.getfield 19, 3) := by decide +kernel
theorem dX1_signs_14 : decode cX1_signs 14 = .ok (.if_icmp .ge 36, 3) := by decide +kernel
theorem dX1_signs_17 : decode cX1_signs 17 = .ok (.iload_n 2, 1) := by decide +kernel
theorem dX1_signs_18 : decode cX1_signs 18 = .ok (.bipush 14, 2) := by decide +kernel
theorem dX1_signs_20 : decode cX1_signs 20 = .ok (.if_icmp .ge 30, 3) := by decide +kernel
theorem dX1_signs_23 : decode cX1_signs 23 = .ok (.aload_n 0, 1) := by decide +kernel
theorem dX1_signs_24 : decode cX1_signs 24 = .ok (.getfield 9, 3) := by decide +kernel
theorem dX1_signs_27 : decode cX1_signs 27 = .ok (.iload_n 2, 1) := by decide +kernel
theorem dX1_signs_28 : decode cX1_signs 28 = .ok (.iaload, 1) := by decide +kernel
theorem dX1_signs_29 : decode cX1_signs 29 = .ok (.invokestatic 31, 3) := by decide +kernel
theorem dX1_signs_32 : decode cX1_signs 32 = .ok (.istore_n 3, 1) := by decide +kernel
theorem dX1_signs_33 : decode cX1_signs 33 = .ok (.iload_n 3, 1) := by decide +kernel
theorem dX1_signs_34 : decode cX1_signs 34 = .ok (.iconst (-1), 1) := by decide +kernel
theorem dX1_signs_35 : decode cX1_signs 35 = .ok (.if_icmp .eq 9, 3) := by decide +kernel
theorem dX1_signs_38 : decode cX1_signs 38 = .ok (.iload_n 1, 1) := by decide +kernel
theorem dX1_signs_39 : decode cX1_signs 39 = .ok (.iconst 1, 1) := by decide +kernel
theorem dX1_signs_40 : decode cX1_signs 40 = .ok (.iload_n 3, 1) := by decide +kernel
theorem dX1_signs_41 : decode cX1_signs 41 = .ok (.ishl, 1) := by decide +kernel
theorem dX1_signs_42 : decode cX1_signs 42 = .ok (.ior, 1) := by decide +kernel
theorem dX1_signs_43 : decode cX1_signs 43 = .ok (.istore_n 1, 1) := by decide +kernel
theorem dX1_signs_44 : decode cX1_signs 44 = .ok (.iinc 2 1, 3) := by decide +kernel
theorem dX1_signs_47 : decode cX1_signs 47 = .ok (.goto (-38), 3) := by decide +kernel
theorem dX1_signs_50 : decode cX1_signs 50 = .ok (.iload_n 1, 1) := by decide +kernel
theorem dX1_signs_51 : decode cX1_signs 51 = .ok (.ireturn, 1) := by decide +kernel
theorem dX2_init_0 : decode cX2_init 0 = .ok (.aload_n 0, 1) := by decide +kernel
theorem dX2_init_1 : decode cX2_init 1 = .ok (.invokespecial 3, 3) := by decide +kernel
theorem dX2_init_4 : decode cX2_init 4 = .ok (.aload_n 0, 1) := by decide +kernel
theorem dX2_init_5 : decode cX2_init 5 = .ok (.bipush 60, 2) := by decide +kernel
theorem dX2_init_7 : decode cX2_init 7 = .ok (.newarray .int, 2) := by decide +kernel
theorem dX2_init_9 : decode cX2_init 9 = .ok (.putfield 9, 3) := by decide +kernel
theorem dX2_init_12 : decode cX2_init 12 = .ok (.aload_n 0, 1) := by decide +kernel
theorem dX2_init_13 : decode cX2_init 13 = .ok (.bipush 60, 2) := by decide +kernel
theorem dX2_init_15 : decode cX2_init 15 = .ok (.newarray .int, 2) := by decide +kernel
theorem dX2_init_17 : decode cX2_init 17 = .ok (.putfield 15, 3) := by decide +kernel
theorem dX2_init_20 : decode cX2_init 20 = .ok (.return_, 1) := by decide +kernel
theorem dX2_begin_0 : decode cX2_begin 0 = .ok (.aload_n 0, 1) := by decide +kernel
theorem dX2_begin_1 : decode cX2_begin 1 = .ok (.iload_n 1, 1) := by decide +kernel
theorem dX2_begin_2 : decode cX2_begin 2 = .ok (.putfield 18, 3) := by decide +kernel
theorem dX2_begin_5 : decode cX2_begin 5 = .ok (.aload_n 0, 1) := by decide +kernel
theorem dX2_begin_6 : decode cX2_begin 6 = .ok (.iload_n 2, 1) := by decide +kernel
theorem dX2_begin_7 : decode cX2_begin 7 = .ok (.putfield 22, 3) := by decide +kernel
theorem dX2_begin_10 : decode cX2_begin 10 = .ok (.aload_n 0, 1) := by decide +kernel
theorem dX2_begin_11 : decode cX2_begin 11 = .ok (.iconst 0, 1) := by decide +kernel
theorem dX2_begin_12 : decode cX2_begin 12 = .ok (.putfield 25, 3) := by decide +kernel
theorem dX2_begin_15 : decode cX2_begin 15 = .ok (.return_, 1) := by decide +kernel
theorem dX2_go_0 : decode cX2_go 0 = .ok (.aload_n 0, 1) := by decide +kernel
theorem dX2_go_1 : decode cX2_go 1 = .ok (.getfield 25, 3) := by decide +kernel
theorem dX2_go_4 : decode cX2_go 4 = .ok (.bipush 60, 2) := by decide +kernel
theorem dX2_go_6 : decode cX2_go 6 = .ok (.if_icmp .lt 4, 3) := by decide +kernel
theorem dX2_go_9 : decode cX2_go 9 = .ok (.return_, 1) := by decide +kernel
theorem dX2_go_10 : decode cX2_go 10 = .ok (.bipush 8, 2) := by decide +kernel
theorem dX2_go_12 : decode cX2_go 12 = .ok (.iload_n 1, 1) := by decide +kernel
theorem dX2_go_13 : decode cX2_go 13 = .ok (.imul, 1) := by decide +kernel
theorem dX2_go_14 : decode cX2_go 14 = .ok (.iload_n 2, 1) := by decide +kernel
theorem dX2_go_15 : decode cX2_go 15 = .ok (.iadd, 1) := by decide +kernel
theorem dX2_go_16 : decode cX2_go 16 = .ok (.istore_n 3, 1) := by decide +kernel
theorem dX2_go_17 : decode cX2_go 17 = .ok (.aload_n 0, 1) := by decide +kernel
theorem dX2_go_18 : decode cX2_go 18 = .ok (.getfield 9, 3) := by decide +kernel
theorem dX2_go_21 : decode cX2_go 21 = .ok (.aload_n 0, 1) := by decide +kernel
theorem dX2_go_22 : decode cX2_go 22 = .ok (.getfield 25, 3) := by decide +kernel
theorem dX2_go_25 : decode cX2_go 25 = .ok (.iload_n 3, 1) := by decide +kernel
theorem dX2_go_26 : decode cX2_go 26 = .ok (.iastore, 1) := by decide +kernel
theorem dX2_go_27 : decode cX2_go 27 = .ok (.aload_n 0, 1) := by decide +kernel
theorem dX2_go_28 : decode cX2_go 28 = .ok (.getfield 15, 3) := by decide +kernel
theorem dX2_go_31 : decode cX2_go 31 = .ok (.aload_n 0, 1) := by decide +kernel
theorem dX2_go_32 : decode cX2_go 32 = .ok (.getfield 25, 3) := by decide +kernel
theorem dX2_go_35 : decode cX2_go 35 = .ok (.aload_n 0, 1) := by decide +kernel
theorem dX2_go_36 : decode cX2_go 36 = .ok (.getfield 22, 3) := by decide +kernel
theorem dX2_go_39 : decode cX2_go 39 = .ok (.iload_n 1, 1) := by decide +kernel
theorem dX2_go_40 : decode cX2_go 40 = .ok (.invokestatic 28, 3) := by decide +kernel
theorem dX2_go_43 : decode cX2_go 43 = .ok (.iconst 1, 1) := by decide +kernel
theorem dX2_go_44 : decode cX2_go 44 = .ok (.isub, 1) := by decide +kernel
theorem dX2_go_45 : decode cX2_go 45 = .ok (.iastore, 1) := by decide +kernel
theorem dX2_go_46 : decode cX2_go 46 = .ok (.aload_n 0, 1) := by decide +kernel
theorem dX2_go_47 : decode cX2_go 47 = .ok (.dup, 1) := by decide +kernel
theorem dX2_go_48 : decode cX2_go 48 = .ok (.getfield 25, 3) := by decide +kernel
theorem dX2_go_51 : decode cX2_go 51 = .ok (.iconst 1, 1) := by decide +kernel
theorem dX2_go_52 : decode cX2_go 52 = .ok (.iadd, 1) := by decide +kernel
theorem dX2_go_53 : decode cX2_go 53 = .ok (.putfield 25, 3) := by decide +kernel
theorem dX2_go_56 : decode cX2_go 56 = .ok (.aload_n 0, 1) := by decide +kernel
theorem dX2_go_57 : decode cX2_go 57 = .ok (.aload_n 0, 1) := by decide +kernel
theorem dX2_go_58 : decode cX2_go 58 = .ok (.getfield 18, 3) := by decide +kernel
theorem dX2_go_61 : decode cX2_go 61 = .ok (.iload_n 3, 1) := by decide +kernel
theorem dX2_go_62 : decode cX2_go 62 = .ok (.invokestatic 34, 3) := by decide +kernel
theorem dX2_go_65 : decode cX2_go 65 = .ok (.putfield 18, 3) := by decide +kernel
theorem dX2_go_68 : decode cX2_go 68 = .ok (.aload_n 0, 1) := by decide +kernel
theorem dX2_go_69 : decode cX2_go 69 = .ok (.aload_n 0, 1) := by decide +kernel
theorem dX2_go_70 : decode cX2_go 70 = .ok (.getfield 22, 3) := by decide +kernel
theorem dX2_go_73 : decode cX2_go 73 = .ok (.iload_n 3, 1) := by decide +kernel
theorem dX2_go_74 : decode cX2_go 74 = .ok (.invokestatic 34, 3) := by decide +kernel
theorem dX2_go_77 : decode cX2_go 77 = .ok (.putfield 22, 3) := by decide +kernel
theorem dX2_go_80 : decode cX2_go 80 = .ok (.return_, 1) := by decide +kernel
theorem dX2_takeBack_0 : decode cX2_takeBack 0 = .ok (.aload_n 0, 1) := by decide +kernel
theorem dX2_takeBack_1 : decode cX2_takeBack 1 = .ok (.getfield 25, 3) := by decide +kernel
theorem dX2_takeBack_4 : decode cX2_takeBack 4 = .ok (.ifCond .le 12, 3) := by decide +kernel
theorem dX2_takeBack_7 : decode cX2_takeBack 7 = .ok (.aload_n 0, 1) := by decide +kernel
theorem dX2_takeBack_8 : decode cX2_takeBack 8 = .ok (.getfield 25, 3) := by decide +kernel
theorem dX2_takeBack_11 : decode cX2_takeBack 11 = .ok (.bipush 60, 2) := by decide +kernel
theorem dX2_takeBack_13 : decode cX2_takeBack 13 = .ok (.if_icmp .le 5, 3) := by decide +kernel
theorem dX2_takeBack_16 : decode cX2_takeBack 16 = .ok (.iconst (-1), 1) := by decide +kernel
theorem dX2_takeBack_17 : decode cX2_takeBack 17 = .ok (.ireturn, 1) := by decide +kernel
theorem dX2_takeBack_18 : decode cX2_takeBack 18 = .ok (.aload_n 0, 1) := by decide +kernel
theorem dX2_takeBack_19 : decode cX2_takeBack 19 = .ok (.dup, 1) := by decide +kernel
theorem dX2_takeBack_20 : decode cX2_takeBack 20 = .ok (.getfield 25, 3) := by decide +kernel
theorem dX2_takeBack_23 : decode cX2_takeBack 23 = .ok (.iconst 1, 1) := by decide +kernel
theorem dX2_takeBack_24 : decode cX2_takeBack 24 = .ok (.isub, 1) := by decide +kernel
theorem dX2_takeBack_25 : decode cX2_takeBack 25 = .ok (.putfield 25, 3) := by decide +kernel
theorem dX2_takeBack_28 : decode cX2_takeBack 28 = .ok (.aload_n 0, 1) := by decide +kernel
theorem dX2_takeBack_29 : decode cX2_takeBack 29 = .ok (.getfield 9, 3) := by decide +kernel
theorem dX2_takeBack_32 : decode cX2_takeBack 32 = .ok (.aload_n 0, 1) := by decide +kernel
theorem dX2_takeBack_33 : decode cX2_takeBack 33 = .ok (.getfield 25, 3) := by decide +kernel
theorem dX2_takeBack_36 : decode cX2_takeBack 36 = .ok (.iaload, 1) := by decide +kernel
theorem dX2_takeBack_37 : decode cX2_takeBack 37 = .ok (.iconst 3, 1) := by decide +kernel
theorem dX2_takeBack_38 : decode cX2_takeBack 38 = .ok (.ishr, 1) := by decide +kernel
theorem dX2_takeBack_39 : decode cX2_takeBack 39 = .ok (.istore_n 1, 1) := by decide +kernel
theorem dX2_takeBack_40 : decode cX2_takeBack 40 = .ok (.bipush 8, 2) := by decide +kernel
theorem dX2_takeBack_42 : decode cX2_takeBack 42 = .ok (.aload_n 0, 1) := by decide +kernel
theorem dX2_takeBack_43 : decode cX2_takeBack 43 = .ok (.getfield 9, 3) := by decide +kernel
theorem dX2_takeBack_46 : decode cX2_takeBack 46 = .ok (.aload_n 0, 1) := by decide +kernel
theorem dX2_takeBack_47 : decode cX2_takeBack 47 = .ok (.getfield 25, 3) := by decide +kernel
theorem dX2_takeBack_50 : decode cX2_takeBack 50 = .ok (.iaload, 1) := by decide +kernel
theorem dX2_takeBack_51 : decode cX2_takeBack 51 = .ok (.bipush 7, 2) := by decide +kernel
theorem dX2_takeBack_53 : decode cX2_takeBack 53 = .ok (.iand, 1) := by decide +kernel
theorem dX2_takeBack_54 : decode cX2_takeBack 54 = .ok (.imul, 1) := by decide +kernel
theorem dX2_takeBack_55 : decode cX2_takeBack 55 = .ok (.iload_n 1, 1) := by decide +kernel
theorem dX2_takeBack_56 : decode cX2_takeBack 56 = .ok (.iadd, 1) := by decide +kernel
theorem dX2_takeBack_57 : decode cX2_takeBack 57 = .ok (.istore_n 2, 1) := by decide +kernel
theorem dX2_takeBack_58 : decode cX2_takeBack 58 = .ok (.aload_n 0, 1) := by decide +kernel
theorem dX2_takeBack_59 : decode cX2_takeBack 59 = .ok (.aload_n 0, 1) := by decide +kernel
theorem dX2_takeBack_60 : decode cX2_takeBack 60 = .ok (.getfield 18, 3) := by decide +kernel
theorem dX2_takeBack_63 : decode cX2_takeBack 63 = .ok (.iload_n 2, 1) := by decide +kernel
theorem dX2_takeBack_64 : decode cX2_takeBack 64 = .ok (.invokestatic 34, 3) := by decide +kernel
theorem dX2_takeBack_67 : decode cX2_takeBack 67 = .ok (.putfield 18, 3) := by decide +kernel
theorem dX2_takeBack_70 : decode cX2_takeBack 70 = .ok (.aload_n 0, 1) := by decide +kernel
theorem dX2_takeBack_71 : decode cX2_takeBack 71 = .ok (.aload_n 0, 1) := by decide +kernel
theorem dX2_takeBack_72 : decode cX2_takeBack 72 = .ok (.getfield 22, 3) := by decide +kernel
theorem dX2_takeBack_75 : decode cX2_takeBack 75 = .ok (.iload_n 2, 1) := by decide +kernel
theorem dX2_takeBack_76 : decode cX2_takeBack 76 = .ok (.invokestatic 34, 3) := by decide +kernel
theorem dX2_takeBack_79 : decode cX2_takeBack 79 = .ok (.putfield 22, 3) := by decide +kernel
theorem dX2_takeBack_82 : decode cX2_takeBack 82 = .ok (.iload_n 1, 1) := by decide +kernel
theorem dX2_takeBack_83 : decode cX2_takeBack 83 = .ok (.ireturn, 1) := by decide +kernel
theorem dX2_stoneOf_0 : decode cX2_stoneOf 0 = .ok (.iconst 0, 1) := by decide +kernel
theorem dX2_stoneOf_1 : decode cX2_stoneOf 1 = .ok (.istore_n 2, 1) := by decide +kernel
theorem dX2_stoneOf_2 : decode cX2_stoneOf 2 = .ok (.iload_n 2, 1) := by decide +kernel
theorem dX2_stoneOf_3 : decode cX2_stoneOf 3 = .ok (.bipush 7, 2) := by decide +kernel
theorem dX2_stoneOf_5 : decode cX2_stoneOf 5 = .ok (.if_icmp .ge 25, 3) := by decide +kernel
theorem dX2_stoneOf_8 : decode cX2_stoneOf 8 = .ok (.aload_n 0, 1) := by decide +kernel
theorem dX2_stoneOf_9 : decode cX2_stoneOf 9 = .ok (.getfield 22, 3) := by decide +kernel
theorem dX2_stoneOf_12 : decode cX2_stoneOf 12 = .ok (.iload_n 2, 1) := by decide +kernel
theorem dX2_stoneOf_13 : decode cX2_stoneOf 13 = .ok (.invokestatic 28, 3) := by decide +kernel
theorem dX2_stoneOf_16 : decode cX2_stoneOf 16 = .ok (.iload_n 1, 1) := by decide +kernel
theorem dX2_stoneOf_17 : decode cX2_stoneOf 17 = .ok (.iconst 1, 1) := by decide +kernel
theorem dX2_stoneOf_18 : decode cX2_stoneOf 18 = .ok (.iadd, 1) := by decide +kernel
theorem dX2_stoneOf_19 : decode cX2_stoneOf 19 = .ok (.if_icmp .ne 5, 3) := by decide +kernel
theorem dX2_stoneOf_22 : decode cX2_stoneOf 22 = .ok (.iload_n 2, 1) := by decide +kernel
theorem dX2_stoneOf_23 : decode cX2_stoneOf 23 = .ok (.ireturn, 1) := by decide +kernel
theorem dX2_stoneOf_24 : decode cX2_stoneOf 24 = .ok (.iinc 2 1, 3) := by decide +kernel
theorem dX2_stoneOf_27 : decode cX2_stoneOf 27 = .ok (.goto (-25), 3) := by decide +kernel
theorem dX2_stoneOf_30 : decode cX2_stoneOf 30 = .ok (.iconst 0, 1) := by decide +kernel
theorem dX2_stoneOf_31 : decode cX2_stoneOf 31 = .ok (.ireturn, 1) := by decide +kernel
theorem dX2_timesMoved_0 : decode cX2_timesMoved 0 = .ok (.iconst 0, 1) := by decide +kernel
theorem dX2_timesMoved_1 : decode cX2_timesMoved 1 = .ok (.istore_n 2, 1) := by decide +kernel
theorem dX2_timesMoved_2 : decode cX2_timesMoved 2 = .ok (.iconst 0, 1) := by decide +kernel
theorem dX2_timesMoved_3 : decode cX2_timesMoved 3 = .ok (.istore_n 3, 1) := by decide +kernel
theorem dX2_timesMoved_4 : decode cX2_timesMoved 4 = .ok (.iload_n 3, 1) := by decide +kernel
theorem dX2_timesMoved_5 : decode cX2_timesMoved 5 = .ok (.aload_n 0, 1) := by decide +kernel
theorem dX2_timesMoved_6 : decode cX2_timesMoved 6 = .ok (.getfield 25, 3) := by decide +kernel
theorem dX2_timesMoved_9 : decode cX2_timesMoved 9 = .ok (.if_icmp .ge 28, 3) := by decide +kernel
theorem dX2_timesMoved_12 : decode cX2_timesMoved 12 = .ok (.iload_n 3, 1) := by decide +kernel
theorem dX2_timesMoved_13 : decode cX2_timesMoved 13 = .ok (.bipush 60, 2) := by decide +kernel
theorem dX2_timesMoved_15 : decode cX2_timesMoved 15 = .ok (.if_icmp .ge 22, 3) := by decide +kernel
theorem dX2_timesMoved_18 : decode cX2_timesMoved 18 = .ok (.aload_n 0, 1) := by decide +kernel
theorem dX2_timesMoved_19 : decode cX2_timesMoved 19 = .ok (.getfield 15, 3) := by decide +kernel
theorem dX2_timesMoved_22 : decode cX2_timesMoved 22 = .ok (.iload_n 3, 1) := by decide +kernel
theorem dX2_timesMoved_23 : decode cX2_timesMoved 23 = .ok (.iaload, 1) := by decide +kernel
theorem dX2_timesMoved_24 : decode cX2_timesMoved 24 = .ok (.iload_n 1, 1) := by decide +kernel
theorem dX2_timesMoved_25 : decode cX2_timesMoved 25 = .ok (.if_icmp .ne 6, 3) := by decide +kernel
theorem dX2_timesMoved_28 : decode cX2_timesMoved 28 = .ok (.iinc 2 1, 3) := by decide +kernel
theorem dX2_timesMoved_31 : decode cX2_timesMoved 31 = .ok (.iinc 3 1, 3) := by decide +kernel
theorem dX2_timesMoved_34 : decode cX2_timesMoved 34 = .ok (.goto (-30), 3) := by decide +kernel
theorem dX2_timesMoved_37 : decode cX2_timesMoved 37 = .ok (.iload_n 2, 1) := by decide +kernel
theorem dX2_timesMoved_38 : decode cX2_timesMoved 38 = .ok (.ireturn, 1) := by decide +kernel
theorem dX2_copy_0 : decode cX2_copy 0 = .ok (.aload_n 0, 1) := by decide +kernel
theorem dX2_copy_1 : decode cX2_copy 1 = .ok (.aload_n 1, 1) := by decide +kernel
theorem dX2_copy_2 : decode cX2_copy 2 = .ok (.getfield 18, 3) := by decide +kernel
theorem dX2_copy_5 : decode cX2_copy 5 = .ok (.putfield 18, 3) := by decide +kernel
theorem dX2_copy_8 : decode cX2_copy 8 = .ok (.aload_n 0, 1) := by decide +kernel
theorem dX2_copy_9 : decode cX2_copy 9 = .ok (.aload_n 1, 1) := by decide +kernel
theorem dX2_copy_10 : decode cX2_copy 10 = .ok (.getfield 22, 3) := by decide +kernel
theorem dX2_copy_13 : decode cX2_copy 13 = .ok (.putfield 22, 3) := by decide +kernel
theorem dX2_copy_16 : decode cX2_copy 16 = .ok (.aload_n 0, 1) := by decide +kernel
theorem dX2_copy_17 : decode cX2_copy 17 = .ok (.aload_n 1, 1) := by decide +kernel
theorem dX2_copy_18 : decode cX2_copy 18 = .ok (.getfield 25, 3) := by decide +kernel
theorem dX2_copy_21 : decode cX2_copy 21 = .ok (.putfield 25, 3) := by decide +kernel
theorem dX2_copy_24 : decode cX2_copy 24 = .ok (.iconst 0, 1) := by decide +kernel
theorem dX2_copy_25 : decode cX2_copy 25 = .ok (.istore_n 2, 1) := by decide +kernel
theorem dX2_copy_26 : decode cX2_copy 26 = .ok (.iload_n 2, 1) := by decide +kernel
theorem dX2_copy_27 : decode cX2_copy 27 = .ok (.aload_n 0, 1) := by decide +kernel
theorem dX2_copy_28 : decode cX2_copy 28 = .ok (.getfield 25, 3) := by decide +kernel
theorem dX2_copy_31 : decode cX2_copy 31 = .ok (.if_icmp .ge 39, 3) := by decide +kernel
theorem dX2_copy_34 : decode cX2_copy 34 = .ok (.iload_n 2, 1) := by decide +kernel
theorem dX2_copy_35 : decode cX2_copy 35 = .ok (.bipush 60, 2) := by decide +kernel
theorem dX2_copy_37 : decode cX2_copy 37 = .ok (.if_icmp .ge 33, 3) := by decide +kernel
theorem dX2_copy_40 : decode cX2_copy 40 = .ok (.aload_n 0, 1) := by decide +kernel
theorem dX2_copy_41 : decode cX2_copy 41 = .ok (.getfield 9, 3) := by decide +kernel
theorem dX2_copy_44 : decode cX2_copy 44 = .ok (.iload_n 2, 1) := by decide +kernel
theorem dX2_copy_45 : decode cX2_copy 45 = .ok (.aload_n 1, 1) := by decide +kernel
theorem dX2_copy_46 : decode cX2_copy 46 = .ok (.getfield 9, 3) := by decide +kernel
theorem dX2_copy_49 : decode cX2_copy 49 = .ok (.iload_n 2, 1) := by decide +kernel
theorem dX2_copy_50 : decode cX2_copy 50 = .ok (.iaload, 1) := by decide +kernel
theorem dX2_copy_51 : decode cX2_copy 51 = .ok (.iastore, 1) := by decide +kernel
theorem dX2_copy_52 : decode cX2_copy 52 = .ok (.aload_n 0, 1) := by decide +kernel
theorem dX2_copy_53 : decode cX2_copy 53 = .ok (.getfield 15, 3) := by decide +kernel
theorem dX2_copy_56 : decode cX2_copy 56 = .ok (.iload_n 2, 1) := by decide +kernel
theorem dX2_copy_57 : decode cX2_copy 57 = .ok (.aload_n 1, 1) := by decide +kernel
theorem dX2_copy_58 : decode cX2_copy 58 = .ok (.getfield 15, 3) := by decide +kernel
theorem dX2_copy_61 : decode cX2_copy 61 = .ok (.iload_n 2, 1) := by decide +kernel
theorem dX2_copy_62 : decode cX2_copy 62 = .ok (.iaload, 1) := by decide +kernel
theorem dX2_copy_63 : decode cX2_copy 63 = .ok (.iastore, 1) := by decide +kernel
theorem dX2_copy_64 : decode cX2_copy 64 = .ok (.iinc 2 1, 3) := by decide +kernel
theorem dX2_copy_67 : decode cX2_copy 67 = .ok (.goto (-41), 3) := by decide +kernel
theorem dX2_copy_70 : decode cX2_copy 70 = .ok (.return_, 1) := by decide +kernel
theorem dX3_at_0 : decode cX3_at 0 = .ok (.iload_n 0, 1) := by decide +kernel
theorem dX3_at_1 : decode cX3_at 1 = .ok (.iconst 3, 1) := by decide +kernel
theorem dX3_at_2 : decode cX3_at 2 = .ok (.iload_n 1, 1) := by decide +kernel
theorem dX3_at_3 : decode cX3_at 3 = .ok (.imul, 1) := by decide +kernel
theorem dX3_at_4 : decode cX3_at 4 = .ok (.ishr, 1) := by decide +kernel
theorem dX3_at_5 : decode cX3_at 5 = .ok (.bipush 7, 2) := by decide +kernel
theorem dX3_at_7 : decode cX3_at 7 = .ok (.iand, 1) := by decide +kernel
theorem dX3_at_8 : decode cX3_at 8 = .ok (.ireturn, 1) := by decide +kernel
theorem dX3_moved_0 : decode cX3_moved 0 = .ok (.iconst 3, 1) := by decide +kernel
theorem dX3_moved_1 : decode cX3_moved 1 = .ok (.iload_n 1, 1) := by decide +kernel
theorem dX3_moved_2 : decode cX3_moved 2 = .ok (.iconst 3, 1) := by decide +kernel
theorem dX3_moved_3 : decode cX3_moved 3 = .ok (.ishr, 1) := by decide +kernel
theorem dX3_moved_4 : decode cX3_moved 4 = .ok (.imul, 1) := by decide +kernel
theorem dX3_moved_5 : decode cX3_moved 5 = .ok (.istore_n 2, 1) := by decide +kernel
theorem dX3_moved_6 : decode cX3_moved 6 = .ok (.iconst 3, 1) := by decide +kernel
theorem dX3_moved_7 : decode cX3_moved 7 = .ok (.iload_n 1, 1) := by decide +kernel
theorem dX3_moved_8 : decode cX3_moved 8 = .ok (.bipush 7, 2) := by decide +kernel
theorem dX3_moved_10 : decode cX3_moved 10 = .ok (.iand, 1) := by decide +kernel
theorem dX3_moved_11 : decode cX3_moved 11 = .ok (.imul, 1) := by decide +kernel
theorem dX3_moved_12 : decode cX3_moved 12 = .ok (.istore_n 3, 1) := by decide +kernel
theorem dX3_moved_13 : decode cX3_moved 13 = .ok (.iload_n 0, 1) := by decide +kernel
theorem dX3_moved_14 : decode cX3_moved 14 = .ok (.iload_n 2, 1) := by decide +kernel
theorem dX3_moved_15 : decode cX3_moved 15 = .ok (.ishr, 1) := by decide +kernel
theorem dX3_moved_16 : decode cX3_moved 16 = .ok (.bipush 7, 2) := by decide +kernel
theorem dX3_moved_18 : decode cX3_moved 18 = .ok (.iand, 1) := by decide +kernel
theorem dX3_moved_19 : decode cX3_moved 19 = .ok (.istore 4, 2) := by decide +kernel
theorem dX3_moved_21 : decode cX3_moved 21 = .ok (.iload_n 0, 1) := by decide +kernel
theorem dX3_moved_22 : decode cX3_moved 22 = .ok (.iload 4, 2) := by decide +kernel
theorem dX3_moved_24 : decode cX3_moved 24 = .ok (.iload_n 2, 1) := by decide +kernel
theorem dX3_moved_25 : decode cX3_moved 25 = .ok (.ishl, 1) := by decide +kernel
theorem dX3_moved_26 : decode cX3_moved 26 = .ok (.ixor, 1) := by decide +kernel
theorem dX3_moved_27 : decode cX3_moved 27 = .ok (.iload 4, 2) := by decide +kernel
theorem dX3_moved_29 : decode cX3_moved 29 = .ok (.iload_n 3, 1) := by decide +kernel
theorem dX3_moved_30 : decode cX3_moved 30 = .ok (.ishl, 1) := by decide +kernel
theorem dX3_moved_31 : decode cX3_moved 31 = .ok (.ixor, 1) := by decide +kernel
theorem dX3_moved_32 : decode cX3_moved 32 = .ok (.ireturn, 1) := by decide +kernel
theorem dX3_turned_0 : decode cX3_turned 0 = .ok (.iconst 0, 1) := by decide +kernel
theorem dX3_turned_1 : decode cX3_turned 1 = .ok (.istore_n 2, 1) := by decide +kernel
theorem dX3_turned_2 : decode cX3_turned 2 = .ok (.iconst 0, 1) := by decide +kernel
theorem dX3_turned_3 : decode cX3_turned 3 = .ok (.istore_n 3, 1) := by decide +kernel
theorem dX3_turned_4 : decode cX3_turned 4 = .ok (.iload_n 3, 1) := by decide +kernel
theorem dX3_turned_5 : decode cX3_turned 5 = .ok (.iload_n 1, 1) := by decide +kernel
theorem dX3_turned_6 : decode cX3_turned 6 = .ok (.if_icmp .ge 19, 3) := by decide +kernel
theorem dX3_turned_9 : decode cX3_turned 9 = .ok (.iload_n 2, 1) := by decide +kernel
theorem dX3_turned_10 : decode cX3_turned 10 = .ok (.iconst 3, 1) := by decide +kernel
theorem dX3_turned_11 : decode cX3_turned 11 = .ok (.ishl, 1) := by decide +kernel
theorem dX3_turned_12 : decode cX3_turned 12 = .ok (.iload_n 0, 1) := by decide +kernel
theorem dX3_turned_13 : decode cX3_turned 13 = .ok (.iload_n 3, 1) := by decide +kernel
theorem dX3_turned_14 : decode cX3_turned 14 = .ok (.invokestatic 9, 3) := by decide +kernel
theorem dX3_turned_17 : decode cX3_turned 17 = .ok (.ior, 1) := by decide +kernel
theorem dX3_turned_18 : decode cX3_turned 18 = .ok (.istore_n 2, 1) := by decide +kernel
theorem dX3_turned_19 : decode cX3_turned 19 = .ok (.iinc 3 1, 3) := by decide +kernel
theorem dX3_turned_22 : decode cX3_turned 22 = .ok (.goto (-18), 3) := by decide +kernel
theorem dX3_turned_25 : decode cX3_turned 25 = .ok (.iload_n 2, 1) := by decide +kernel
theorem dX3_turned_26 : decode cX3_turned 26 = .ok (.ireturn, 1) := by decide +kernel
theorem dX3_widened_0 : decode cX3_widened 0 = .ok (.iload_n 0, 1) := by decide +kernel
theorem dX3_widened_1 : decode cX3_widened 1 = .ok (.iconst 1, 1) := by decide +kernel
theorem dX3_widened_2 : decode cX3_widened 2 = .ok (.iconst 3, 1) := by decide +kernel
theorem dX3_widened_3 : decode cX3_widened 3 = .ok (.iload_n 1, 1) := by decide +kernel
theorem dX3_widened_4 : decode cX3_widened 4 = .ok (.imul, 1) := by decide +kernel
theorem dX3_widened_5 : decode cX3_widened 5 = .ok (.ishl, 1) := by decide +kernel
theorem dX3_widened_6 : decode cX3_widened 6 = .ok (.iconst 1, 1) := by decide +kernel
theorem dX3_widened_7 : decode cX3_widened 7 = .ok (.isub, 1) := by decide +kernel
theorem dX3_widened_8 : decode cX3_widened 8 = .ok (.iand, 1) := by decide +kernel
theorem dX3_widened_9 : decode cX3_widened 9 = .ok (.istore_n 2, 1) := by decide +kernel
theorem dX3_widened_10 : decode cX3_widened 10 = .ok (.iload_n 2, 1) := by decide +kernel
theorem dX3_widened_11 : decode cX3_widened 11 = .ok (.iload_n 0, 1) := by decide +kernel
theorem dX3_widened_12 : decode cX3_widened 12 = .ok (.iload_n 2, 1) := by decide +kernel
theorem dX3_widened_13 : decode cX3_widened 13 = .ok (.ixor, 1) := by decide +kernel
theorem dX3_widened_14 : decode cX3_widened 14 = .ok (.iconst 3, 1) := by decide +kernel
theorem dX3_widened_15 : decode cX3_widened 15 = .ok (.ishl, 1) := by decide +kernel
theorem dX3_widened_16 : decode cX3_widened 16 = .ok (.ior, 1) := by decide +kernel
theorem dX3_widened_17 : decode cX3_widened 17 = .ok (.ireturn, 1) := by decide +kernel
theorem dX3_without_0 : decode cX3_without 0 = .ok (.iload_n 0, 1) := by decide +kernel
theorem dX3_without_1 : decode cX3_without 1 = .ok (.bipush 7, 2) := by decide +kernel
theorem dX3_without_3 : decode cX3_without 3 = .ok (.iconst 3, 1) := by decide +kernel
theorem dX3_without_4 : decode cX3_without 4 = .ok (.iload_n 1, 1) := by decide +kernel
theorem dX3_without_5 : decode cX3_without 5 = .ok (.imul, 1) := by decide +kernel
theorem dX3_without_6 : decode cX3_without 6 = .ok (.ishl, 1) := by decide +kernel
theorem dX3_without_7 : decode cX3_without 7 = .ok (.iconst (-1), 1) := by decide +kernel
theorem dX3_without_8 : decode cX3_without 8 = .ok (.ixor, 1) := by decide +kernel
theorem dX3_without_9 : decode cX3_without 9 = .ok (.iand, 1) := by decide +kernel
theorem dX3_without_10 : decode cX3_without 10 = .ok (.ireturn, 1) := by decide +kernel
theorem dX3_freeStones_0 : decode cX3_freeStones 0 = .ok (.iconst 0, 1) := by decide +kernel
theorem dX3_freeStones_1 : decode cX3_freeStones 1 = .ok (.istore_n 2, 1) := by decide +kernel
theorem dX3_freeStones_2 : decode cX3_freeStones 2 = .ok (.iconst 0, 1) := by decide +kernel
theorem dX3_freeStones_3 : decode cX3_freeStones 3 = .ok (.istore_n 3, 1) := by decide +kernel
theorem dX3_freeStones_4 : decode cX3_freeStones 4 = .ok (.iload_n 3, 1) := by decide +kernel
theorem dX3_freeStones_5 : decode cX3_freeStones 5 = .ok (.iload_n 1, 1) := by decide +kernel
theorem dX3_freeStones_6 : decode cX3_freeStones 6 = .ok (.if_icmp .ge 20, 3) := by decide +kernel
theorem dX3_freeStones_9 : decode cX3_freeStones 9 = .ok (.iload_n 0, 1) := by decide +kernel
theorem dX3_freeStones_10 : decode cX3_freeStones 10 = .ok (.iload_n 3, 1) := by decide +kernel
theorem dX3_freeStones_11 : decode cX3_freeStones 11 = .ok (.invokestatic 9, 3) := by decide +kernel
theorem dX3_freeStones_14 : decode cX3_freeStones 14 = .ok (.ifCond .ne 6, 3) := by decide +kernel
theorem dX3_freeStones_17 : decode cX3_freeStones 17 = .ok (.iinc 2 1, 3) := by decide +kernel
theorem dX3_freeStones_20 : decode cX3_freeStones 20 = .ok (.iinc 3 1, 3) := by decide +kernel
theorem dX3_freeStones_23 : decode cX3_freeStones 23 = .ok (.goto (-19), 3) := by decide +kernel
theorem dX3_freeStones_26 : decode cX3_freeStones 26 = .ok (.iload_n 2, 1) := by decide +kernel
theorem dX3_freeStones_27 : decode cX3_freeStones 27 = .ok (.ireturn, 1) := by decide +kernel
theorem dX3_numbered_0 : decode cX3_numbered 0 = .ok (.iconst 0, 1) := by decide +kernel
theorem dX3_numbered_1 : decode cX3_numbered 1 = .ok (.istore_n 1, 1) := by decide +kernel
theorem dX3_numbered_2 : decode cX3_numbered 2 = .ok (.iconst 0, 1) := by decide +kernel
theorem dX3_numbered_3 : decode cX3_numbered 3 = .ok (.istore_n 2, 1) := by decide +kernel
theorem dX3_numbered_4 : decode cX3_numbered 4 = .ok (.iconst 0, 1) := by decide +kernel
theorem dX3_numbered_5 : decode cX3_numbered 5 = .ok (.istore_n 3, 1) := by decide +kernel
theorem dX3_numbered_6 : decode cX3_numbered 6 = .ok (.iload_n 3, 1) := by decide +kernel
theorem dX3_numbered_7 : decode cX3_numbered 7 = .ok (.bipush 7, 2) := by decide +kernel
theorem dX3_numbered_9 : decode cX3_numbered 9 = .ok (.if_icmp .ge 28, 3) := by decide +kernel
theorem dX3_numbered_12 : decode cX3_numbered 12 = .ok (.iload_n 0, 1) := by decide +kernel
theorem dX3_numbered_13 : decode cX3_numbered 13 = .ok (.iload_n 3, 1) := by decide +kernel
theorem dX3_numbered_14 : decode cX3_numbered 14 = .ok (.invokestatic 9, 3) := by decide +kernel
theorem dX3_numbered_17 : decode cX3_numbered 17 = .ok (.ifCond .eq 14, 3) := by decide +kernel
theorem dX3_numbered_20 : decode cX3_numbered 20 = .ok (.iinc 2 1, 3) := by decide +kernel
theorem dX3_numbered_23 : decode cX3_numbered 23 = .ok (.iload_n 1, 1) := by decide +kernel
theorem dX3_numbered_24 : decode cX3_numbered 24 = .ok (.iload_n 2, 1) := by decide +kernel
theorem dX3_numbered_25 : decode cX3_numbered 25 = .ok (.iconst 3, 1) := by decide +kernel
theorem dX3_numbered_26 : decode cX3_numbered 26 = .ok (.iload_n 3, 1) := by decide +kernel
theorem dX3_numbered_27 : decode cX3_numbered 27 = .ok (.imul, 1) := by decide +kernel
theorem dX3_numbered_28 : decode cX3_numbered 28 = .ok (.ishl, 1) := by decide +kernel
theorem dX3_numbered_29 : decode cX3_numbered 29 = .ok (.ior, 1) := by decide +kernel
theorem dX3_numbered_30 : decode cX3_numbered 30 = .ok (.istore_n 1, 1) := by decide +kernel
theorem dX3_numbered_31 : decode cX3_numbered 31 = .ok (.iinc 3 1, 3) := by decide +kernel
theorem dX3_numbered_34 : decode cX3_numbered 34 = .ok (.goto (-28), 3) := by decide +kernel
theorem dX3_numbered_37 : decode cX3_numbered 37 = .ok (.iload_n 1, 1) := by decide +kernel
theorem dX3_numbered_38 : decode cX3_numbered 38 = .ok (.ireturn, 1) := by decide +kernel
theorem dX3_lowestMove_0 : decode cX3_lowestMove 0 = .ok (.lload_n 0, 1) := by decide +kernel
theorem dX3_lowestMove_1 : decode cX3_lowestMove 1 = .ok (.lload_n 0, 1) := by decide +kernel
theorem dX3_lowestMove_2 : decode cX3_lowestMove 2 = .ok (.lneg, 1) := by decide +kernel
theorem dX3_lowestMove_3 : decode cX3_lowestMove 3 = .ok (.land, 1) := by decide +kernel
theorem dX3_lowestMove_4 : decode cX3_lowestMove 4 = .ok (.lconst 1, 1) := by decide +kernel
theorem dX3_lowestMove_5 : decode cX3_lowestMove 5 = .ok (.lsub, 1) := by decide +kernel
theorem dX3_lowestMove_6 : decode cX3_lowestMove 6 = .ok (.invokestatic 15, 3) := by decide +kernel
theorem dX3_lowestMove_9 : decode cX3_lowestMove 9 = .ok (.bipush 63, 2) := by decide +kernel
theorem dX3_lowestMove_11 : decode cX3_lowestMove 11 = .ok (.iand, 1) := by decide +kernel
theorem dX3_lowestMove_12 : decode cX3_lowestMove 12 = .ok (.ireturn, 1) := by decide +kernel
theorem dX4_init_0 : decode cX4_init 0 = .ok (.aload_n 0, 1) := by decide +kernel
theorem dX4_init_1 : decode cX4_init 1 = .ok (.invokespecial 3, 3) := by decide +kernel
theorem dX4_init_4 : decode cX4_init 4 = .ok (.return_, 1) := by decide +kernel
theorem dX4_set_0 : decode cX4_set 0 = .ok (.aload_n 0, 1) := by decide +kernel
theorem dX4_set_1 : decode cX4_set 1 = .ok (.iload_n 1, 1) := by decide +kernel
theorem dX4_set_2 : decode cX4_set 2 = .ok (.putfield 9, 3) := by decide +kernel
theorem dX4_set_5 : decode cX4_set 5 = .ok (.aload_n 0, 1) := by decide +kernel
theorem dX4_set_6 : decode cX4_set 6 = .ok (.iload_n 2, 1) := by decide +kernel
theorem dX4_set_7 : decode cX4_set 7 = .ok (.putfield 15, 3) := by decide +kernel
theorem dX4_set_10 : decode cX4_set 10 = .ok (.aload_n 0, 1) := by decide +kernel
theorem dX4_set_11 : decode cX4_set 11 = .ok (.aload_n 0, 1) := by decide +kernel
theorem dX4_set_12 : decode cX4_set 12 = .ok (.iconst 0, 1) := by decide +kernel
theorem dX4_set_13 : decode cX4_set 13 = .ok (.invokevirtual 18, 3) := by decide +kernel
theorem dX4_set_16 : decode cX4_set 16 = .ok (.putfield 22, 3) := by decide +kernel
theorem dX4_set_19 : decode cX4_set 19 = .ok (.aload_n 0, 1) := by decide +kernel
theorem dX4_set_20 : decode cX4_set 20 = .ok (.aload_n 0, 1) := by decide +kernel
theorem dX4_set_21 : decode cX4_set 21 = .ok (.iconst 1, 1) := by decide +kernel
theorem dX4_set_22 : decode cX4_set 22 = .ok (.invokevirtual 18, 3) := by decide +kernel
theorem dX4_set_25 : decode cX4_set 25 = .ok (.putfield 26, 3) := by decide +kernel
theorem dX4_set_28 : decode cX4_set 28 = .ok (.aload_n 0, 1) := by decide +kernel
theorem dX4_set_29 : decode cX4_set 29 = .ok (.aload_n 0, 1) := by decide +kernel
theorem dX4_set_30 : decode cX4_set 30 = .ok (.iconst 2, 1) := by decide +kernel
theorem dX4_set_31 : decode cX4_set 31 = .ok (.invokevirtual 18, 3) := by decide +kernel
theorem dX4_set_34 : decode cX4_set 34 = .ok (.putfield 29, 3) := by decide +kernel
theorem dX4_set_37 : decode cX4_set 37 = .ok (.aload_n 0, 1) := by decide +kernel
theorem dX4_set_38 : decode cX4_set 38 = .ok (.aload_n 0, 1) := by decide +kernel
theorem dX4_set_39 : decode cX4_set 39 = .ok (.iconst 3, 1) := by decide +kernel
theorem dX4_set_40 : decode cX4_set 40 = .ok (.invokevirtual 18, 3) := by decide +kernel
theorem dX4_set_43 : decode cX4_set 43 = .ok (.putfield 32, 3) := by decide +kernel
theorem dX4_set_46 : decode cX4_set 46 = .ok (.return_, 1) := by decide +kernel
theorem dX4_has_0 : decode cX4_has 0 = .ok (.aload_n 0, 1) := by decide +kernel
theorem dX4_has_1 : decode cX4_has 1 = .ok (.getfield 15, 3) := by decide +kernel
theorem dX4_has_4 : decode cX4_has 4 = .ok (.iload_n 1, 1) := by decide +kernel
theorem dX4_has_5 : decode cX4_has 5 = .ok (.ishr, 1) := by decide +kernel
theorem dX4_has_6 : decode cX4_has 6 = .ok (.iconst 1, 1) := by decide +kernel
theorem dX4_has_7 : decode cX4_has 7 = .ok (.iand, 1) := by decide +kernel
theorem dX4_has_8 : decode cX4_has 8 = .ok (.iconst 1, 1) := by decide +kernel
theorem dX4_has_9 : decode cX4_has 9 = .ok (.if_icmp .ne 7, 3) := by decide +kernel
theorem dX4_has_12 : decode cX4_has 12 = .ok (.iconst 1, 1) := by decide +kernel
theorem dX4_has_13 : decode cX4_has 13 = .ok (.goto 4, 3) := by decide +kernel
theorem dX4_has_16 : decode cX4_has 16 = .ok (.iconst 0, 1) := by decide +kernel
theorem dX4_has_17 : decode cX4_has 17 = .ok (.ireturn, 1) := by decide +kernel
theorem dX4_allows_0 : decode cX4_allows 0 = .ok (.aload_n 0, 1) := by decide +kernel
theorem dX4_allows_1 : decode cX4_allows 1 = .ok (.iload_n 1, 1) := by decide +kernel
theorem dX4_allows_2 : decode cX4_allows 2 = .ok (.iload_n 2, 1) := by decide +kernel
theorem dX4_allows_3 : decode cX4_allows 3 = .ok (.iconst 1, 1) := by decide +kernel
theorem dX4_allows_4 : decode cX4_allows 4 = .ok (.invokevirtual 35, 3) := by decide +kernel
theorem dX4_allows_7 : decode cX4_allows 7 = .ok (.iload_n 3, 1) := by decide +kernel
theorem dX4_allows_8 : decode cX4_allows 8 = .ok (.ishr, 1) := by decide +kernel
theorem dX4_allows_9 : decode cX4_allows 9 = .ok (.iconst 1, 1) := by decide +kernel
theorem dX4_allows_10 : decode cX4_allows 10 = .ok (.iand, 1) := by decide +kernel
theorem dX4_allows_11 : decode cX4_allows 11 = .ok (.iconst 1, 1) := by decide +kernel
theorem dX4_allows_12 : decode cX4_allows 12 = .ok (.if_icmp .ne 7, 3) := by decide +kernel
theorem dX4_allows_15 : decode cX4_allows 15 = .ok (.iconst 1, 1) := by decide +kernel
theorem dX4_allows_16 : decode cX4_allows 16 = .ok (.goto 4, 3) := by decide +kernel
theorem dX4_allows_19 : decode cX4_allows 19 = .ok (.iconst 0, 1) := by decide +kernel
theorem dX4_allows_20 : decode cX4_allows 20 = .ok (.ireturn, 1) := by decide +kernel
theorem dX4_allMoves_0 : decode cX4_allMoves 0 = .ok (.lconst 0, 1) := by decide +kernel
theorem dX4_allMoves_1 : decode cX4_allMoves 1 = .ok (.lstore_n 3, 1) := by decide +kernel
theorem dX4_allMoves_2 : decode cX4_allMoves 2 = .ok (.iconst 0, 1) := by decide +kernel
theorem dX4_allMoves_3 : decode cX4_allMoves 3 = .ok (.istore 5, 2) := by decide +kernel
theorem dX4_allMoves_5 : decode cX4_allMoves 5 = .ok (.iload 5, 2) := by decide +kernel
theorem dX4_allMoves_7 : decode cX4_allMoves 7 = .ok (.aload_n 0, 1) := by decide +kernel
theorem dX4_allMoves_8 : decode cX4_allMoves 8 = .ok (.getfield 9, 3) := by decide +kernel
theorem dX4_allMoves_11 : decode cX4_allMoves 11 = .ok (.if_icmp .ge 27, 3) := by decide +kernel
theorem dX4_allMoves_14 : decode cX4_allMoves 14 = .ok (.lload_n 3, 1) := by decide +kernel
theorem dX4_allMoves_15 : decode cX4_allMoves 15 = .ok (.aload_n 0, 1) := by decide +kernel
theorem dX4_allMoves_16 : decode cX4_allMoves 16 = .ok (.iload_n 1, 1) := by decide +kernel
theorem dX4_allMoves_17 : decode cX4_allMoves 17 = .ok (.iload 5, 2) := by decide +kernel
theorem dX4_allMoves_19 : decode cX4_allMoves 19 = .ok (.iload_n 2, 1) := by decide +kernel
theorem dX4_allMoves_20 : decode cX4_allMoves 20 = .ok (.invokevirtual 35, 3) := by decide +kernel
theorem dX4_allMoves_23 : decode cX4_allMoves 23 = .ok (.i2l, 1) := by decide +kernel
theorem dX4_allMoves_24 : decode cX4_allMoves 24 = .ok (.bipush 8, 2) := by decide +kernel
theorem dX4_allMoves_26 : decode cX4_allMoves 26 = .ok (.iload 5, 2) := by decide +kernel
theorem dX4_allMoves_28 : decode cX4_allMoves 28 = .ok (.imul, 1) := by decide +kernel
theorem dX4_allMoves_29 : decode cX4_allMoves 29 = .ok (.lshl, 1) := by decide +kernel
theorem dX4_allMoves_30 : decode cX4_allMoves 30 = .ok (.lor, 1) := by decide +kernel
theorem dX4_allMoves_31 : decode cX4_allMoves 31 = .ok (.lstore_n 3, 1) := by decide +kernel
theorem dX4_allMoves_32 : decode cX4_allMoves 32 = .ok (.iinc 5 1, 3) := by decide +kernel
theorem dX4_allMoves_35 : decode cX4_allMoves 35 = .ok (.goto (-30), 3) := by decide +kernel
theorem dX4_allMoves_38 : decode cX4_allMoves 38 = .ok (.lload_n 3, 1) := by decide +kernel
theorem dX4_allMoves_39 : decode cX4_allMoves 39 = .ok (.lreturn, 1) := by decide +kernel
theorem dX4_targets_0 : decode cX4_targets 0 = .ok (.iload_n 1, 1) := by decide +kernel
theorem dX4_targets_1 : decode cX4_targets 1 = .ok (.iload_n 2, 1) := by decide +kernel
theorem dX4_targets_2 : decode cX4_targets 2 = .ok (.invokestatic 39, 3) := by decide +kernel
theorem dX4_targets_5 : decode cX4_targets 5 = .ok (.istore 4, 2) := by decide +kernel
theorem dX4_targets_7 : decode cX4_targets 7 = .ok (.iload 4, 2) := by decide +kernel
theorem dX4_targets_9 : decode cX4_targets 9 = .ok (.ifCond .eq 9, 3) := by decide +kernel
theorem dX4_targets_12 : decode cX4_targets 12 = .ok (.iload 4, 2) := by decide +kernel
theorem dX4_targets_14 : decode cX4_targets 14 = .ok (.iconst 3, 1) := by decide +kernel
theorem dX4_targets_15 : decode cX4_targets 15 = .ok (.if_icmp .ne 5, 3) := by decide +kernel
theorem dX4_targets_18 : decode cX4_targets 18 = .ok (.iconst 0, 1) := by decide +kernel
theorem dX4_targets_19 : decode cX4_targets 19 = .ok (.ireturn, 1) := by decide +kernel
theorem dX4_targets_20 : decode cX4_targets 20 = .ok (.iload 4, 2) := by decide +kernel
theorem dX4_targets_22 : decode cX4_targets 22 = .ok (.iconst 2, 1) := by decide +kernel
theorem dX4_targets_23 : decode cX4_targets 23 = .ok (.if_icmp .ne 8, 3) := by decide +kernel
theorem dX4_targets_26 : decode cX4_targets 26 = .ok (.iload_n 3, 1) := by decide +kernel
theorem dX4_targets_27 : decode cX4_targets 27 = .ok (.ineg, 1) := by decide +kernel
theorem dX4_targets_28 : decode cX4_targets 28 = .ok (.goto 4, 3) := by decide +kernel
theorem dX4_targets_31 : decode cX4_targets 31 = .ok (.iload_n 3, 1) := by decide +kernel
theorem dX4_targets_32 : decode cX4_targets 32 = .ok (.istore 5, 2) := by decide +kernel
theorem dX4_targets_34 : decode cX4_targets 34 = .ok (.aload_n 0, 1) := by decide +kernel
theorem dX4_targets_35 : decode cX4_targets 35 = .ok (.iload_n 1, 1) := by decide +kernel
theorem dX4_targets_36 : decode cX4_targets 36 = .ok (.iload_n 2, 1) := by decide +kernel
theorem dX4_targets_37 : decode cX4_targets 37 = .ok (.iload 5, 2) := by decide +kernel
theorem dX4_targets_39 : decode cX4_targets 39 = .ok (.invokevirtual 45, 3) := by decide +kernel
theorem dX4_targets_42 : decode cX4_targets 42 = .ok (.istore 6, 2) := by decide +kernel
theorem dX4_targets_44 : decode cX4_targets 44 = .ok (.aload_n 0, 1) := by decide +kernel
theorem dX4_targets_45 : decode cX4_targets 45 = .ok (.getfield 26, 3) := by decide +kernel
theorem dX4_targets_48 : decode cX4_targets 48 = .ok (.ifCond .eq 17, 3) := by decide +kernel
theorem dX4_targets_51 : decode cX4_targets 51 = .ok (.iload 6, 2) := by decide +kernel
theorem dX4_targets_53 : decode cX4_targets 53 = .ok (.aload_n 0, 1) := by decide +kernel
theorem dX4_targets_54 : decode cX4_targets 54 = .ok (.iload_n 1, 1) := by decide +kernel
theorem dX4_targets_55 : decode cX4_targets 55 = .ok (.iload_n 2, 1) := by decide +kernel
theorem dX4_targets_56 : decode cX4_targets 56 = .ok (.iload 5, 2) := by decide +kernel
theorem dX4_targets_58 : decode cX4_targets 58 = .ok (.ineg, 1) := by decide +kernel
theorem dX4_targets_59 : decode cX4_targets 59 = .ok (.invokevirtual 45, 3) := by decide +kernel
theorem dX4_targets_62 : decode cX4_targets 62 = .ok (.ior, 1) := by decide +kernel
theorem dX4_targets_63 : decode cX4_targets 63 = .ok (.istore 6, 2) := by decide +kernel
theorem dX4_targets_65 : decode cX4_targets 65 = .ok (.iload 6, 2) := by decide +kernel
theorem dX4_targets_67 : decode cX4_targets 67 = .ok (.ireturn, 1) := by decide +kernel
theorem dX4_landing_0 : decode cX4_landing 0 = .ok (.iload_n 1, 1) := by decide +kernel
theorem dX4_landing_1 : decode cX4_landing 1 = .ok (.iload_n 2, 1) := by decide +kernel
theorem dX4_landing_2 : decode cX4_landing 2 = .ok (.invokestatic 39, 3) := by decide +kernel
theorem dX4_landing_5 : decode cX4_landing 5 = .ok (.istore 4, 2) := by decide +kernel
theorem dX4_landing_7 : decode cX4_landing 7 = .ok (.iload 4, 2) := by decide +kernel
theorem dX4_landing_9 : decode cX4_landing 9 = .ok (.iconst 4, 1) := by decide +kernel
theorem dX4_landing_10 : decode cX4_landing 10 = .ok (.if_icmp .ne 7, 3) := by decide +kernel
theorem dX4_landing_13 : decode cX4_landing 13 = .ok (.iconst 0, 1) := by decide +kernel
theorem dX4_landing_14 : decode cX4_landing 14 = .ok (.goto 15, 3) := by decide +kernel
theorem dX4_landing_17 : decode cX4_landing 17 = .ok (.aload_n 0, 1) := by decide +kernel
theorem dX4_landing_18 : decode cX4_landing 18 = .ok (.getfield 32, 3) := by decide +kernel
theorem dX4_landing_21 : decode cX4_landing 21 = .ok (.ifCond .eq 7, 3) := by decide +kernel
theorem dX4_landing_24 : decode cX4_landing 24 = .ok (.iconst 2, 1) := by decide +kernel
theorem dX4_landing_25 : decode cX4_landing 25 = .ok (.goto 4, 3) := by decide +kernel
theorem dX4_landing_28 : decode cX4_landing 28 = .ok (.iconst 1, 1) := by decide +kernel
theorem dX4_landing_29 : decode cX4_landing 29 = .ok (.istore 5, 2) := by decide +kernel
theorem dX4_landing_31 : decode cX4_landing 31 = .ok (.iload_n 2, 1) := by decide +kernel
theorem dX4_landing_32 : decode cX4_landing 32 = .ok (.istore 6, 2) := by decide +kernel
theorem dX4_landing_34 : decode cX4_landing 34 = .ok (.iconst 0, 1) := by decide +kernel
theorem dX4_landing_35 : decode cX4_landing 35 = .ok (.istore 7, 2) := by decide +kernel
theorem dX4_landing_37 : decode cX4_landing 37 = .ok (.iload 7, 2) := by decide +kernel
theorem dX4_landing_39 : decode cX4_landing 39 = .ok (.iload 5, 2) := by decide +kernel
theorem dX4_landing_41 : decode cX4_landing 41 = .ok (.if_icmp .gt 57, 3) := by decide +kernel
theorem dX4_landing_44 : decode cX4_landing 44 = .ok (.aload_n 0, 1) := by decide +kernel
theorem dX4_landing_45 : decode cX4_landing 45 = .ok (.iload 6, 2) := by decide +kernel
theorem dX4_landing_47 : decode cX4_landing 47 = .ok (.iload_n 3, 1) := by decide +kernel
theorem dX4_landing_48 : decode cX4_landing 48 = .ok (.invokevirtual 48, 3) := by decide +kernel
theorem dX4_landing_51 : decode cX4_landing 51 = .ok (.istore 6, 2) := by decide +kernel
theorem dX4_landing_53 : decode cX4_landing 53 = .ok (.iload 6, 2) := by decide +kernel
theorem dX4_landing_55 : decode cX4_landing 55 = .ok (.iconst (-1), 1) := by decide +kernel
theorem dX4_landing_56 : decode cX4_landing 56 = .ok (.if_icmp .ne 5, 3) := by decide +kernel
theorem dX4_landing_59 : decode cX4_landing 59 = .ok (.iconst 0, 1) := by decide +kernel
theorem dX4_landing_60 : decode cX4_landing 60 = .ok (.ireturn, 1) := by decide +kernel
theorem dX4_landing_61 : decode cX4_landing 61 = .ok (.iload_n 1, 1) := by decide +kernel
theorem dX4_landing_62 : decode cX4_landing 62 = .ok (.iload 6, 2) := by decide +kernel
theorem dX4_landing_64 : decode cX4_landing 64 = .ok (.invokestatic 39, 3) := by decide +kernel
theorem dX4_landing_67 : decode cX4_landing 67 = .ok (.istore 8, 2) := by decide +kernel
theorem dX4_landing_69 : decode cX4_landing 69 = .ok (.iload 8, 2) := by decide +kernel
theorem dX4_landing_71 : decode cX4_landing 71 = .ok (.ifCond .ne 8, 3) := by decide +kernel
theorem dX4_landing_74 : decode cX4_landing 74 = .ok (.iconst 1, 1) := by decide +kernel
theorem dX4_landing_75 : decode cX4_landing 75 = .ok (.iload 6, 2) := by decide +kernel
theorem dX4_landing_77 : decode cX4_landing 77 = .ok (.ishl, 1) := by decide +kernel
theorem dX4_landing_78 : decode cX4_landing 78 = .ok (.ireturn, 1) := by decide +kernel
theorem dX4_landing_79 : decode cX4_landing 79 = .ok (.aload_n 0, 1) := by decide +kernel
theorem dX4_landing_80 : decode cX4_landing 80 = .ok (.iload 4, 2) := by decide +kernel
theorem dX4_landing_82 : decode cX4_landing 82 = .ok (.iload 8, 2) := by decide +kernel
theorem dX4_landing_84 : decode cX4_landing 84 = .ok (.invokevirtual 51, 3) := by decide +kernel
theorem dX4_landing_87 : decode cX4_landing 87 = .ok (.ifCond .ne 5, 3) := by decide +kernel
theorem dX4_landing_90 : decode cX4_landing 90 = .ok (.iconst 0, 1) := by decide +kernel
theorem dX4_landing_91 : decode cX4_landing 91 = .ok (.ireturn, 1) := by decide +kernel
theorem dX4_landing_92 : decode cX4_landing 92 = .ok (.iinc 7 1, 3) := by decide +kernel
theorem dX4_landing_95 : decode cX4_landing 95 = .ok (.goto (-58), 3) := by decide +kernel
theorem dX4_landing_98 : decode cX4_landing 98 = .ok (.iconst 0, 1) := by decide +kernel
theorem dX4_landing_99 : decode cX4_landing 99 = .ok (.ireturn, 1) := by decide +kernel
theorem dX4_beside_0 : decode cX4_beside 0 = .ok (.iload_n 1, 1) := by decide +kernel
theorem dX4_beside_1 : decode cX4_beside 1 = .ok (.iload_n 2, 1) := by decide +kernel
theorem dX4_beside_2 : decode cX4_beside 2 = .ok (.iadd, 1) := by decide +kernel
theorem dX4_beside_3 : decode cX4_beside 3 = .ok (.istore_n 3, 1) := by decide +kernel
theorem dX4_beside_4 : decode cX4_beside 4 = .ok (.iload_n 3, 1) := by decide +kernel
theorem dX4_beside_5 : decode cX4_beside 5 = .ok (.ifCond .lt 13, 3) := by decide +kernel
theorem dX4_beside_8 : decode cX4_beside 8 = .ok (.iload_n 3, 1) := by decide +kernel
theorem dX4_beside_9 : decode cX4_beside 9 = .ok (.aload_n 0, 1) := by decide +kernel
theorem dX4_beside_10 : decode cX4_beside 10 = .ok (.getfield 9, 3) := by decide +kernel
theorem dX4_beside_13 : decode cX4_beside 13 = .ok (.if_icmp .ge 5, 3) := by decide +kernel
theorem dX4_beside_16 : decode cX4_beside 16 = .ok (.iload_n 3, 1) := by decide +kernel
theorem dX4_beside_17 : decode cX4_beside 17 = .ok (.ireturn, 1) := by decide +kernel
theorem dX4_beside_18 : decode cX4_beside 18 = .ok (.aload_n 0, 1) := by decide +kernel
theorem dX4_beside_19 : decode cX4_beside 19 = .ok (.getfield 29, 3) := by decide +kernel
theorem dX4_beside_22 : decode cX4_beside 22 = .ok (.ifCond .ne 5, 3) := by decide +kernel
theorem dX4_beside_25 : decode cX4_beside 25 = .ok (.iconst (-1), 1) := by decide +kernel
theorem dX4_beside_26 : decode cX4_beside 26 = .ok (.ireturn, 1) := by decide +kernel
theorem dX4_beside_27 : decode cX4_beside 27 = .ok (.iload_n 3, 1) := by decide +kernel
theorem dX4_beside_28 : decode cX4_beside 28 = .ok (.ifCond .ge 12, 3) := by decide +kernel
theorem dX4_beside_31 : decode cX4_beside 31 = .ok (.aload_n 0, 1) := by decide +kernel
theorem dX4_beside_32 : decode cX4_beside 32 = .ok (.getfield 9, 3) := by decide +kernel
theorem dX4_beside_35 : decode cX4_beside 35 = .ok (.iconst 1, 1) := by decide +kernel
theorem dX4_beside_36 : decode cX4_beside 36 = .ok (.isub, 1) := by decide +kernel
theorem dX4_beside_37 : decode cX4_beside 37 = .ok (.goto 4, 3) := by decide +kernel
theorem dX4_beside_40 : decode cX4_beside 40 = .ok (.iconst 0, 1) := by decide +kernel
theorem dX4_beside_41 : decode cX4_beside 41 = .ok (.ireturn, 1) := by decide +kernel
theorem dX4_leapsOver_0 : decode cX4_leapsOver 0 = .ok (.aload_n 0, 1) := by decide +kernel
theorem dX4_leapsOver_1 : decode cX4_leapsOver 1 = .ok (.getfield 22, 3) := by decide +kernel
theorem dX4_leapsOver_4 : decode cX4_leapsOver 4 = .ok (.ifCond .ne 31, 3) := by decide +kernel
theorem dX4_leapsOver_7 : decode cX4_leapsOver 7 = .ok (.iload_n 2, 1) := by decide +kernel
theorem dX4_leapsOver_8 : decode cX4_leapsOver 8 = .ok (.iconst 3, 1) := by decide +kernel
theorem dX4_leapsOver_9 : decode cX4_leapsOver 9 = .ok (.if_icmp .eq 30, 3) := by decide +kernel
theorem dX4_leapsOver_12 : decode cX4_leapsOver 12 = .ok (.iload_n 1, 1) := by decide +kernel
theorem dX4_leapsOver_13 : decode cX4_leapsOver 13 = .ok (.iconst 2, 1) := by decide +kernel
theorem dX4_leapsOver_14 : decode cX4_leapsOver 14 = .ok (.if_icmp .ne 7, 3) := by decide +kernel
theorem dX4_leapsOver_17 : decode cX4_leapsOver 17 = .ok (.iconst 1, 1) := by decide +kernel
theorem dX4_leapsOver_18 : decode cX4_leapsOver 18 = .ok (.goto 4, 3) := by decide +kernel
theorem dX4_leapsOver_21 : decode cX4_leapsOver 21 = .ok (.iconst 0, 1) := by decide +kernel
theorem dX4_leapsOver_22 : decode cX4_leapsOver 22 = .ok (.iload_n 2, 1) := by decide +kernel
theorem dX4_leapsOver_23 : decode cX4_leapsOver 23 = .ok (.iconst 2, 1) := by decide +kernel
theorem dX4_leapsOver_24 : decode cX4_leapsOver 24 = .ok (.if_icmp .ne 7, 3) := by decide +kernel
theorem dX4_leapsOver_27 : decode cX4_leapsOver 27 = .ok (.iconst 1, 1) := by decide +kernel
theorem dX4_leapsOver_28 : decode cX4_leapsOver 28 = .ok (.goto 4, 3) := by decide +kernel
theorem dX4_leapsOver_31 : decode cX4_leapsOver 31 = .ok (.iconst 0, 1) := by decide +kernel
theorem dX4_leapsOver_32 : decode cX4_leapsOver 32 = .ok (.if_icmp .eq 7, 3) := by decide +kernel
theorem dX4_leapsOver_35 : decode cX4_leapsOver 35 = .ok (.iconst 1, 1) := by decide +kernel
theorem dX4_leapsOver_36 : decode cX4_leapsOver 36 = .ok (.goto 4, 3) := by decide +kernel
theorem dX4_leapsOver_39 : decode cX4_leapsOver 39 = .ok (.iconst 0, 1) := by decide +kernel
theorem dX4_leapsOver_40 : decode cX4_leapsOver 40 = .ok (.ireturn, 1) := by decide +kernel
theorem dX5_init_0 : decode cX5_init 0 = .ok (.aload_n 0, 1) := by decide +kernel
theorem dX5_init_1 : decode cX5_init 1 = .ok (.invokespecial 3, 3) := by decide +kernel
theorem dX5_init_4 : decode cX5_init 4 = .ok (.aload_n 0, 1) := by decide +kernel
theorem dX5_init_5 : decode cX5_init 5 = .ok (.new 9, 3) := by decide +kernel
theorem dX5_init_8 : decode cX5_init 8 = .ok (.dup, 1) := by decide +kernel
theorem dX5_init_9 : decode cX5_init 9 = .ok (.invokespecial 11, 3) := by decide +kernel
theorem dX5_init_12 : decode cX5_init 12 = .ok (.putfield 12, 3) := by decide +kernel
theorem dX5_init_15 : decode cX5_init 15 = .ok (.aload_n 0, 1) := by decide +kernel
theorem dX5_init_16 : decode cX5_init 16 = .ok (.sipush 640, 3) := by decide +kernel
theorem dX5_init_19 : decode cX5_init 19 = .ok (.newarray .int, 2) := by decide +kernel
theorem dX5_init_21 : decode cX5_init 21 = .ok (.putfield 18, 3) := by decide +kernel
theorem dX5_init_24 : decode cX5_init 24 = .ok (.aload_n 0, 1) := by decide +kernel
theorem dX5_init_25 : decode cX5_init 25 = .ok (.sipush 640, 3) := by decide +kernel
theorem dX5_init_28 : decode cX5_init 28 = .ok (.newarray .int, 2) := by decide +kernel
theorem dX5_init_30 : decode cX5_init 30 = .ok (.putfield 22, 3) := by decide +kernel
theorem dX5_init_33 : decode cX5_init 33 = .ok (.return_, 1) := by decide +kernel
theorem dX5_spread_0 : decode cX5_spread 0 = .ok (.aload_n 0, 1) := by decide +kernel
theorem dX5_spread_1 : decode cX5_spread 1 = .ok (.getfield 12, 3) := by decide +kernel
theorem dX5_spread_4 : decode cX5_spread 4 = .ok (.invokevirtual 25, 3) := by decide +kernel
theorem dX5_spread_7 : decode cX5_spread 7 = .ok (.aload_n 0, 1) := by decide +kernel
theorem dX5_spread_8 : decode cX5_spread 8 = .ok (.iconst 0, 1) := by decide +kernel
theorem dX5_spread_9 : decode cX5_spread 9 = .ok (.putfield 28, 3) := by decide +kernel
theorem dX5_spread_12 : decode cX5_spread 12 = .ok (.aload_n 0, 1) := by decide +kernel
theorem dX5_spread_13 : decode cX5_spread 13 = .ok (.iconst (-1), 1) := by decide +kernel
theorem dX5_spread_14 : decode cX5_spread 14 = .ok (.putfield 32, 3) := by decide +kernel
theorem dX5_spread_17 : decode cX5_spread 17 = .ok (.aload_n 0, 1) := by decide +kernel
theorem dX5_spread_18 : decode cX5_spread 18 = .ok (.getfield 12, 3) := by decide +kernel
theorem dX5_spread_21 : decode cX5_spread 21 = .ok (.iload_n 2, 1) := by decide +kernel
theorem dX5_spread_22 : decode cX5_spread 22 = .ok (.invokevirtual 35, 3) := by decide +kernel
theorem dX5_spread_25 : decode cX5_spread 25 = .ok (.istore 5, 2) := by decide +kernel
theorem dX5_spread_27 : decode cX5_spread 27 = .ok (.iload 5, 2) := by decide +kernel
theorem dX5_spread_29 : decode cX5_spread 29 = .ok (.ifCond .eq 5, 3) := by decide +kernel
theorem dX5_spread_32 : decode cX5_spread 32 = .ok (.iconst (-1), 1) := by decide +kernel
theorem dX5_spread_33 : decode cX5_spread 33 = .ok (.ireturn, 1) := by decide +kernel
theorem dX5_spread_34 : decode cX5_spread 34 = .ok (.aload_n 0, 1) := by decide +kernel
theorem dX5_spread_35 : decode cX5_spread 35 = .ok (.getfield 18, 3) := by decide +kernel
theorem dX5_spread_38 : decode cX5_spread 38 = .ok (.iconst 0, 1) := by decide +kernel
theorem dX5_spread_39 : decode cX5_spread 39 = .ok (.iconst 0, 1) := by decide +kernel
theorem dX5_spread_40 : decode cX5_spread 40 = .ok (.iastore, 1) := by decide +kernel
theorem dX5_spread_41 : decode cX5_spread 41 = .ok (.aload_n 0, 1) := by decide +kernel
theorem dX5_spread_42 : decode cX5_spread 42 = .ok (.getfield 22, 3) := by decide +kernel
theorem dX5_spread_45 : decode cX5_spread 45 = .ok (.iconst 0, 1) := by decide +kernel
theorem dX5_spread_46 : decode cX5_spread 46 = .ok (.iconst 1, 1) := by decide +kernel
theorem dX5_spread_47 : decode cX5_spread 47 = .ok (.iastore, 1) := by decide +kernel
theorem dX5_spread_48 : decode cX5_spread 48 = .ok (.iconst 0, 1) := by decide +kernel
theorem dX5_spread_49 : decode cX5_spread 49 = .ok (.istore 6, 2) := by decide +kernel
theorem dX5_spread_51 : decode cX5_spread 51 = .ok (.iload 6, 2) := by decide +kernel
theorem dX5_spread_53 : decode cX5_spread 53 = .ok (.aload_n 0, 1) := by decide +kernel
theorem dX5_spread_54 : decode cX5_spread 54 = .ok (.getfield 12, 3) := by decide +kernel
theorem dX5_spread_57 : decode cX5_spread 57 = .ok (.getfield 39, 3) := by decide +kernel
theorem dX5_spread_60 : decode cX5_spread 60 = .ok (.if_icmp .ge 79, 3) := by decide +kernel
theorem dX5_spread_63 : decode cX5_spread 63 = .ok (.iload 6, 2) := by decide +kernel
theorem dX5_spread_65 : decode cX5_spread 65 = .ok (.sipush 640, 3) := by decide +kernel
theorem dX5_spread_68 : decode cX5_spread 68 = .ok (.if_icmp .ge 71, 3) := by decide +kernel
theorem dX5_spread_71 : decode cX5_spread 71 = .ok (.aload_n 0, 1) := by decide +kernel
theorem dX5_spread_72 : decode cX5_spread 72 = .ok (.getfield 12, 3) := by decide +kernel
theorem dX5_spread_75 : decode cX5_spread 75 = .ok (.getfield 42, 3) := by decide +kernel
theorem dX5_spread_78 : decode cX5_spread 78 = .ok (.iload 6, 2) := by decide +kernel
theorem dX5_spread_80 : decode cX5_spread 80 = .ok (.iaload, 1) := by decide +kernel
theorem dX5_spread_81 : decode cX5_spread 81 = .ok (.istore 7, 2) := by decide +kernel
theorem dX5_spread_83 : decode cX5_spread 83 = .ok (.iload 7, 2) := by decide +kernel
theorem dX5_spread_85 : decode cX5_spread 85 = .ok (.iload 4, 2) := by decide +kernel
theorem dX5_spread_87 : decode cX5_spread 87 = .ok (.if_icmp .ne 11, 3) := by decide +kernel
theorem dX5_spread_90 : decode cX5_spread 90 = .ok (.aload_n 0, 1) := by decide +kernel
theorem dX5_spread_91 : decode cX5_spread 91 = .ok (.getfield 18, 3) := by decide +kernel
theorem dX5_spread_94 : decode cX5_spread 94 = .ok (.iload 6, 2) := by decide +kernel
theorem dX5_spread_96 : decode cX5_spread 96 = .ok (.iaload, 1) := by decide +kernel
theorem dX5_spread_97 : decode cX5_spread 97 = .ok (.ireturn, 1) := by decide +kernel
theorem dX5_spread_98 : decode cX5_spread 98 = .ok (.aload_n 1, 1) := by decide +kernel
theorem dX5_spread_99 : decode cX5_spread 99 = .ok (.iload 7, 2) := by decide +kernel
theorem dX5_spread_101 : decode cX5_spread 101 = .ok (.iload_n 3, 1) := by decide +kernel
theorem dX5_spread_102 : decode cX5_spread 102 = .ok (.invokevirtual 45, 3) := by decide +kernel
theorem dX5_spread_105 : decode cX5_spread 105 = .ok (.lstore 8, 2) := by decide +kernel
theorem dX5_spread_107 : decode cX5_spread 107 = .ok (.lload 8, 2) := by decide +kernel
theorem dX5_spread_109 : decode cX5_spread 109 = .ok (.lconst 0, 1) := by decide +kernel
theorem dX5_spread_110 : decode cX5_spread 110 = .ok (.lcmp, 1) := by decide +kernel
theorem dX5_spread_111 : decode cX5_spread 111 = .ok (.ifCond .ne 14, 3) := by decide +kernel
theorem dX5_spread_114 : decode cX5_spread 114 = .ok (.aload_n 0, 1) := by decide +kernel
theorem dX5_spread_115 : decode cX5_spread 115 = .ok (.aload_n 0, 1) := by decide +kernel
theorem dX5_spread_116 : decode cX5_spread 116 = .ok (.getfield 18, 3) := by decide +kernel
theorem dX5_spread_119 : decode cX5_spread 119 = .ok (.iload 6, 2) := by decide +kernel
theorem dX5_spread_121 : decode cX5_spread 121 = .ok (.iaload, 1) := by decide +kernel
theorem dX5_spread_122 : decode cX5_spread 122 = .ok (.invokevirtual 51, 3) := by decide +kernel
theorem dX5_spread_125 : decode cX5_spread 125 = .ok (.aload_n 0, 1) := by decide +kernel
theorem dX5_spread_126 : decode cX5_spread 126 = .ok (.iload 6, 2) := by decide +kernel
theorem dX5_spread_128 : decode cX5_spread 128 = .ok (.lload 8, 2) := by decide +kernel
theorem dX5_spread_130 : decode cX5_spread 130 = .ok (.invokevirtual 55, 3) := by decide +kernel
theorem dX5_spread_133 : decode cX5_spread 133 = .ok (.iinc 6 1, 3) := by decide +kernel
theorem dX5_spread_136 : decode cX5_spread 136 = .ok (.goto (-85), 3) := by decide +kernel
theorem dX5_spread_139 : decode cX5_spread 139 = .ok (.iconst (-1), 1) := by decide +kernel
theorem dX5_spread_140 : decode cX5_spread 140 = .ok (.ireturn, 1) := by decide +kernel
theorem dX5_noteStuck_0 : decode cX5_noteStuck 0 = .ok (.aload_n 0, 1) := by decide +kernel
theorem dX5_noteStuck_1 : decode cX5_noteStuck 1 = .ok (.dup, 1) := by decide +kernel
theorem dX5_noteStuck_2 : decode cX5_noteStuck 2 = .ok (.getfield 28, 3) := by decide +kernel
theorem dX5_noteStuck_5 : decode cX5_noteStuck 5 = .ok (.iconst 1, 1) := by decide +kernel
theorem dX5_noteStuck_6 : decode cX5_noteStuck 6 = .ok (.iadd, 1) := by decide +kernel
theorem dX5_noteStuck_7 : decode cX5_noteStuck 7 = .ok (.putfield 28, 3) := by decide +kernel
theorem dX5_noteStuck_10 : decode cX5_noteStuck 10 = .ok (.aload_n 0, 1) := by decide +kernel
theorem dX5_noteStuck_11 : decode cX5_noteStuck 11 = .ok (.getfield 32, 3) := by decide +kernel
theorem dX5_noteStuck_14 : decode cX5_noteStuck 14 = .ok (.iconst (-1), 1) := by decide +kernel
theorem dX5_noteStuck_15 : decode cX5_noteStuck 15 = .ok (.if_icmp .ne 8, 3) := by decide +kernel
theorem dX5_noteStuck_18 : decode cX5_noteStuck 18 = .ok (.aload_n 0, 1) := by decide +kernel
theorem dX5_noteStuck_19 : decode cX5_noteStuck 19 = .ok (.iload_n 1, 1) := by decide +kernel
theorem dX5_noteStuck_20 : decode cX5_noteStuck 20 = .ok (.putfield 32, 3) := by decide +kernel
theorem dX5_noteStuck_23 : decode cX5_noteStuck 23 = .ok (.return_, 1) := by decide +kernel
theorem dX5_goOn_0 : decode cX5_goOn 0 = .ok (.iload_n 1, 1) := by decide +kernel
theorem dX5_goOn_1 : decode cX5_goOn 1 = .ok (.ifCond .lt 10, 3) := by decide +kernel
theorem dX5_goOn_4 : decode cX5_goOn 4 = .ok (.iload_n 1, 1) := by decide +kernel
theorem dX5_goOn_5 : decode cX5_goOn 5 = .ok (.sipush 640, 3) := by decide +kernel
theorem dX5_goOn_8 : decode cX5_goOn 8 = .ok (.if_icmp .lt 4, 3) := by decide +kernel
theorem dX5_goOn_11 : decode cX5_goOn 11 = .ok (.return_, 1) := by decide +kernel
theorem dX5_goOn_12 : decode cX5_goOn 12 = .ok (.aload_n 0, 1) := by decide +kernel
theorem dX5_goOn_13 : decode cX5_goOn 13 = .ok (.getfield 18, 3) := by decide +kernel
theorem dX5_goOn_16 : decode cX5_goOn 16 = .ok (.iload_n 1, 1) := by decide +kernel
theorem dX5_goOn_17 : decode cX5_goOn 17 = .ok (.iaload, 1) := by decide +kernel
theorem dX5_goOn_18 : decode cX5_goOn 18 = .ok (.iconst 1, 1) := by decide +kernel
theorem dX5_goOn_19 : decode cX5_goOn 19 = .ok (.iadd, 1) := by decide +kernel
theorem dX5_goOn_20 : decode cX5_goOn 20 = .ok (.istore 4, 2) := by decide +kernel
theorem dX5_goOn_22 : decode cX5_goOn 22 = .ok (.lload_n 2, 1) := by decide +kernel
theorem dX5_goOn_23 : decode cX5_goOn 23 = .ok (.lstore 5, 2) := by decide +kernel
theorem dX5_goOn_25 : decode cX5_goOn 25 = .ok (.lload 5, 2) := by decide +kernel
theorem dX5_goOn_27 : decode cX5_goOn 27 = .ok (.invokestatic 59, 3) := by decide +kernel
theorem dX5_goOn_30 : decode cX5_goOn 30 = .ok (.istore 7, 2) := by decide +kernel
theorem dX5_goOn_32 : decode cX5_goOn 32 = .ok (.iconst 0, 1) := by decide +kernel
theorem dX5_goOn_33 : decode cX5_goOn 33 = .ok (.istore 8, 2) := by decide +kernel
theorem dX5_goOn_35 : decode cX5_goOn 35 = .ok (.iload 8, 2) := by decide +kernel
theorem dX5_goOn_37 : decode cX5_goOn 37 = .ok (.iload 7, 2) := by decide +kernel
theorem dX5_goOn_39 : decode cX5_goOn 39 = .ok (.if_icmp .ge 133, 3) := by decide +kernel
theorem dX5_goOn_42 : decode cX5_goOn 42 = .ok (.lload 5, 2) := by decide +kernel
theorem dX5_goOn_44 : decode cX5_goOn 44 = .ok (.invokestatic 65, 3) := by decide +kernel
theorem dX5_goOn_47 : decode cX5_goOn 47 = .ok (.istore 9, 2) := by decide +kernel
theorem dX5_goOn_49 : decode cX5_goOn 49 = .ok (.lload 5, 2) := by decide +kernel
theorem dX5_goOn_51 : decode cX5_goOn 51 = .ok (.lload 5, 2) := by decide +kernel
theorem dX5_goOn_53 : decode cX5_goOn 53 = .ok (.lconst 1, 1) := by decide +kernel
theorem dX5_goOn_54 : decode cX5_goOn 54 = .ok (.lsub, 1) := by decide +kernel
theorem dX5_goOn_55 : decode cX5_goOn 55 = .ok (.land, 1) := by decide +kernel
theorem dX5_goOn_56 : decode cX5_goOn 56 = .ok (.lstore 5, 2) := by decide +kernel
theorem dX5_goOn_58 : decode cX5_goOn 58 = .ok (.aload_n 0, 1) := by decide +kernel
theorem dX5_goOn_59 : decode cX5_goOn 59 = .ok (.getfield 12, 3) := by decide +kernel
theorem dX5_goOn_62 : decode cX5_goOn 62 = .ok (.getfield 39, 3) := by decide +kernel
theorem dX5_goOn_65 : decode cX5_goOn 65 = .ok (.istore 10, 2) := by decide +kernel
theorem dX5_goOn_67 : decode cX5_goOn 67 = .ok (.aload_n 0, 1) := by decide +kernel
theorem dX5_goOn_68 : decode cX5_goOn 68 = .ok (.getfield 12, 3) := by decide +kernel
theorem dX5_goOn_71 : decode cX5_goOn 71 = .ok (.aload_n 0, 1) := by decide +kernel
theorem dX5_goOn_72 : decode cX5_goOn 72 = .ok (.getfield 12, 3) := by decide +kernel
theorem dX5_goOn_75 : decode cX5_goOn 75 = .ok (.getfield 42, 3) := by decide +kernel
theorem dX5_goOn_78 : decode cX5_goOn 78 = .ok (.iload_n 1, 1) := by decide +kernel
theorem dX5_goOn_79 : decode cX5_goOn 79 = .ok (.iaload, 1) := by decide +kernel
theorem dX5_goOn_80 : decode cX5_goOn 80 = .ok (.iload 9, 2) := by decide +kernel
theorem dX5_goOn_82 : decode cX5_goOn 82 = .ok (.invokestatic 70, 3) := by decide +kernel
theorem dX5_goOn_85 : decode cX5_goOn 85 = .ok (.invokevirtual 35, 3) := by decide +kernel
theorem dX5_goOn_88 : decode cX5_goOn 88 = .ok (.istore 11, 2) := by decide +kernel
theorem dX5_goOn_90 : decode cX5_goOn 90 = .ok (.iload 11, 2) := by decide +kernel
theorem dX5_goOn_92 : decode cX5_goOn 92 = .ok (.ifCond .lt 74, 3) := by decide +kernel
theorem dX5_goOn_95 : decode cX5_goOn 95 = .ok (.iload 11, 2) := by decide +kernel
theorem dX5_goOn_97 : decode cX5_goOn 97 = .ok (.sipush 640, 3) := by decide +kernel
theorem dX5_goOn_100 : decode cX5_goOn 100 = .ok (.if_icmp .lt 6, 3) := by decide +kernel
theorem dX5_goOn_103 : decode cX5_goOn 103 = .ok (.goto 63, 3) := by decide +kernel
theorem dX5_goOn_106 : decode cX5_goOn 106 = .ok (.iload 11, 2) := by decide +kernel
theorem dX5_goOn_108 : decode cX5_goOn 108 = .ok (.iload 10, 2) := by decide +kernel
theorem dX5_goOn_110 : decode cX5_goOn 110 = .ok (.if_icmp .ne 28, 3) := by decide +kernel
theorem dX5_goOn_113 : decode cX5_goOn 113 = .ok (.aload_n 0, 1) := by decide +kernel
theorem dX5_goOn_114 : decode cX5_goOn 114 = .ok (.getfield 18, 3) := by decide +kernel
theorem dX5_goOn_117 : decode cX5_goOn 117 = .ok (.iload 11, 2) := by decide +kernel
theorem dX5_goOn_119 : decode cX5_goOn 119 = .ok (.iload 4, 2) := by decide +kernel
theorem dX5_goOn_121 : decode cX5_goOn 121 = .ok (.iastore, 1) := by decide +kernel
theorem dX5_goOn_122 : decode cX5_goOn 122 = .ok (.aload_n 0, 1) := by decide +kernel
theorem dX5_goOn_123 : decode cX5_goOn 123 = .ok (.getfield 22, 3) := by decide +kernel
theorem dX5_goOn_126 : decode cX5_goOn 126 = .ok (.iload 11, 2) := by decide +kernel
theorem dX5_goOn_128 : decode cX5_goOn 128 = .ok (.aload_n 0, 1) := by decide +kernel
theorem dX5_goOn_129 : decode cX5_goOn 129 = .ok (.getfield 22, 3) := by decide +kernel
theorem dX5_goOn_132 : decode cX5_goOn 132 = .ok (.iload_n 1, 1) := by decide +kernel
theorem dX5_goOn_133 : decode cX5_goOn 133 = .ok (.iaload, 1) := by decide +kernel
theorem dX5_goOn_134 : decode cX5_goOn 134 = .ok (.iastore, 1) := by decide +kernel
theorem dX5_goOn_135 : decode cX5_goOn 135 = .ok (.goto 31, 3) := by decide +kernel
theorem dX5_goOn_138 : decode cX5_goOn 138 = .ok (.aload_n 0, 1) := by decide +kernel
theorem dX5_goOn_139 : decode cX5_goOn 139 = .ok (.getfield 18, 3) := by decide +kernel
theorem dX5_goOn_142 : decode cX5_goOn 142 = .ok (.iload 11, 2) := by decide +kernel
theorem dX5_goOn_144 : decode cX5_goOn 144 = .ok (.iaload, 1) := by decide +kernel
theorem dX5_goOn_145 : decode cX5_goOn 145 = .ok (.iload 4, 2) := by decide +kernel
theorem dX5_goOn_147 : decode cX5_goOn 147 = .ok (.if_icmp .ne 19, 3) := by decide +kernel
theorem dX5_goOn_150 : decode cX5_goOn 150 = .ok (.aload_n 0, 1) := by decide +kernel
theorem dX5_goOn_151 : decode cX5_goOn 151 = .ok (.getfield 22, 3) := by decide +kernel
theorem dX5_goOn_154 : decode cX5_goOn 154 = .ok (.iload 11, 2) := by decide +kernel
theorem dX5_goOn_156 : decode cX5_goOn 156 = .ok (.dup2, 1) := by decide +kernel
theorem dX5_goOn_157 : decode cX5_goOn 157 = .ok (.iaload, 1) := by decide +kernel
theorem dX5_goOn_158 : decode cX5_goOn 158 = .ok (.aload_n 0, 1) := by decide +kernel
theorem dX5_goOn_159 : decode cX5_goOn 159 = .ok (.getfield 22, 3) := by decide +kernel
theorem dX5_goOn_162 : decode cX5_goOn 162 = .ok (.iload_n 1, 1) := by decide +kernel
theorem dX5_goOn_163 : decode cX5_goOn 163 = .ok (.iaload, 1) := by decide +kernel
theorem dX5_goOn_164 : decode cX5_goOn 164 = .ok (.iadd, 1) := by decide +kernel
theorem dX5_goOn_165 : decode cX5_goOn 165 = .ok (.iastore, 1) := by decide +kernel
theorem dX5_goOn_166 : decode cX5_goOn 166 = .ok (.iinc 8 1, 3) := by decide +kernel
theorem dX5_goOn_169 : decode cX5_goOn 169 = .ok (.goto (-134), 3) := by decide +kernel
theorem dX5_goOn_172 : decode cX5_goOn 172 = .ok (.return_, 1) := by decide +kernel
theorem dX5_depthOf_0 : decode cX5_depthOf 0 = .ok (.aload_n 0, 1) := by decide +kernel
theorem dX5_depthOf_1 : decode cX5_depthOf 1 = .ok (.getfield 12, 3) := by decide +kernel
theorem dX5_depthOf_4 : decode cX5_depthOf 4 = .ok (.iload_n 1, 1) := by decide +kernel
theorem dX5_depthOf_5 : decode cX5_depthOf 5 = .ok (.invokevirtual 74, 3) := by decide +kernel
theorem dX5_depthOf_8 : decode cX5_depthOf 8 = .ok (.istore_n 2, 1) := by decide +kernel
theorem dX5_depthOf_9 : decode cX5_depthOf 9 = .ok (.iload_n 2, 1) := by decide +kernel
theorem dX5_depthOf_10 : decode cX5_depthOf 10 = .ok (.ifCond .lt 10, 3) := by decide +kernel
theorem dX5_depthOf_13 : decode cX5_depthOf 13 = .ok (.iload_n 2, 1) := by decide +kernel
theorem dX5_depthOf_14 : decode cX5_depthOf 14 = .ok (.sipush 640, 3) := by decide +kernel
theorem dX5_depthOf_17 : decode cX5_depthOf 17 = .ok (.if_icmp .lt 7, 3) := by decide +kernel
theorem dX5_depthOf_20 : decode cX5_depthOf 20 = .ok (.iconst (-1), 1) := by decide +kernel
theorem dX5_depthOf_21 : decode cX5_depthOf 21 = .ok (.goto 9, 3) := by decide +kernel
theorem dX5_depthOf_24 : decode cX5_depthOf 24 = .ok (.aload_n 0, 1) := by decide +kernel
theorem dX5_depthOf_25 : decode cX5_depthOf 25 = .ok (.getfield 18, 3) := by decide +kernel
theorem dX5_depthOf_28 : decode cX5_depthOf 28 = .ok (.iload_n 2, 1) := by decide +kernel
theorem dX5_depthOf_29 : decode cX5_depthOf 29 = .ok (.iaload, 1) := by decide +kernel
theorem dX5_depthOf_30 : decode cX5_depthOf 30 = .ok (.ireturn, 1) := by decide +kernel
theorem dX5_waysOf_0 : decode cX5_waysOf 0 = .ok (.aload_n 0, 1) := by decide +kernel
theorem dX5_waysOf_1 : decode cX5_waysOf 1 = .ok (.getfield 12, 3) := by decide +kernel

theorem dX5_waysOf_4 : decode cX5_waysOf 4 = .ok (.iload_n 1, 1) := by decide +kernel
theorem dX5_waysOf_5 : decode cX5_waysOf 5 = .ok (.invokevirtual 74, 3) := by decide +kernel
theorem dX5_waysOf_8 : decode cX5_waysOf 8 = .ok (.istore_n 2, 1) := by decide +kernel
theorem dX5_waysOf_9 : decode cX5_waysOf 9 = .ok (.iload_n 2, 1) := by decide +kernel
theorem dX5_waysOf_10 : decode cX5_waysOf 10 = .ok (.ifCond .lt 10, 3) := by decide +kernel
theorem dX5_waysOf_13 : decode cX5_waysOf 13 = .ok (.iload_n 2, 1) := by decide +kernel
theorem dX5_waysOf_14 : decode cX5_waysOf 14 = .ok (.sipush 640, 3) := by decide +kernel
theorem dX5_waysOf_17 : decode cX5_waysOf 17 = .ok (.if_icmp .lt 7, 3) := by decide +kernel
theorem dX5_waysOf_20 : decode cX5_waysOf 20 = .ok (.iconst 0, 1) := by decide +kernel
theorem dX5_waysOf_21 : decode cX5_waysOf 21 = .ok (.goto 9, 3) := by decide +kernel
theorem dX5_waysOf_24 : decode cX5_waysOf 24 = .ok (.aload_n 0, 1) := by decide +kernel
theorem dX5_waysOf_25 : decode cX5_waysOf 25 = .ok (.getfield 22, 3) := by decide +kernel
theorem dX5_waysOf_28 : decode cX5_waysOf 28 = .ok (.iload_n 2, 1) := by decide +kernel
theorem dX5_waysOf_29 : decode cX5_waysOf 29 = .ok (.iaload, 1) := by decide +kernel
theorem dX5_waysOf_30 : decode cX5_waysOf 30 = .ok (.ireturn, 1) := by decide +kernel
theorem dX6_init_0 : decode cX6_init 0 = .ok (.aload_n 0, 1) := by decide +kernel
theorem dX6_init_1 : decode cX6_init 1 = .ok (.invokespecial 3, 3) := by decide +kernel
theorem dX6_init_4 : decode cX6_init 4 = .ok (.aload_n 0, 1) := by decide +kernel
theorem dX6_init_5 : decode cX6_init 5 = .ok (.sipush 1024, 3) := by decide +kernel
theorem dX6_init_8 : decode cX6_init 8 = .ok (.newarray .int, 2) := by decide +kernel
theorem dX6_init_10 : decode cX6_init 10 = .ok (.putfield 9, 3) := by decide +kernel
theorem dX6_init_13 : decode cX6_init 13 = .ok (.aload_n 0, 1) := by decide +kernel
theorem dX6_init_14 : decode cX6_init 14 = .ok (.sipush 640, 3) := by decide +kernel
theorem dX6_init_17 : decode cX6_init 17 = .ok (.newarray .int, 2) := by decide +kernel
theorem dX6_init_19 : decode cX6_init 19 = .ok (.putfield 15, 3) := by decide +kernel
theorem dX6_init_22 : decode cX6_init 22 = .ok (.return_, 1) := by decide +kernel
theorem dX6_clear_0 : decode cX6_clear 0 = .ok (.aload_n 0, 1) := by decide +kernel
theorem dX6_clear_1 : decode cX6_clear 1 = .ok (.getfield 9, 3) := by decide +kernel
theorem dX6_clear_4 : decode cX6_clear 4 = .ok (.iconst 0, 1) := by decide +kernel
theorem dX6_clear_5 : decode cX6_clear 5 = .ok (.invokestatic 18, 3) := by decide +kernel
theorem dX6_clear_8 : decode cX6_clear 8 = .ok (.aload_n 0, 1) := by decide +kernel
theorem dX6_clear_9 : decode cX6_clear 9 = .ok (.iconst 0, 1) := by decide +kernel
theorem dX6_clear_10 : decode cX6_clear 10 = .ok (.putfield 24, 3) := by decide +kernel
theorem dX6_clear_13 : decode cX6_clear 13 = .ok (.return_, 1) := by decide +kernel
theorem dX6_find_0 : decode cX6_find 0 = .ok (.aload_n 0, 1) := by decide +kernel
theorem dX6_find_1 : decode cX6_find 1 = .ok (.getfield 9, 3) := by decide +kernel
theorem dX6_find_4 : decode cX6_find 4 = .ok (.aload_n 0, 1) := by decide +kernel
theorem dX6_find_5 : decode cX6_find 5 = .ok (.iload_n 1, 1) := by decide +kernel
theorem dX6_find_6 : decode cX6_find 6 = .ok (.invokevirtual 28, 3) := by decide +kernel
theorem dX6_find_9 : decode cX6_find 9 = .ok (.iaload, 1) := by decide +kernel
theorem dX6_find_10 : decode cX6_find 10 = .ok (.iconst 1, 1) := by decide +kernel
theorem dX6_find_11 : decode cX6_find 11 = .ok (.isub, 1) := by decide +kernel
theorem dX6_find_12 : decode cX6_find 12 = .ok (.ireturn, 1) := by decide +kernel
theorem dX6_meet_0 : decode cX6_meet 0 = .ok (.aload_n 0, 1) := by decide +kernel
theorem dX6_meet_1 : decode cX6_meet 1 = .ok (.iload_n 1, 1) := by decide +kernel
theorem dX6_meet_2 : decode cX6_meet 2 = .ok (.invokevirtual 28, 3) := by decide +kernel
theorem dX6_meet_5 : decode cX6_meet 5 = .ok (.istore_n 2, 1) := by decide +kernel
theorem dX6_meet_6 : decode cX6_meet 6 = .ok (.aload_n 0, 1) := by decide +kernel
theorem dX6_meet_7 : decode cX6_meet 7 = .ok (.getfield 9, 3) := by decide +kernel
theorem dX6_meet_10 : decode cX6_meet 10 = .ok (.iload_n 2, 1) := by decide +kernel
theorem dX6_meet_11 : decode cX6_meet 11 = .ok (.iaload, 1) := by decide +kernel
theorem dX6_meet_12 : decode cX6_meet 12 = .ok (.ifCond .ne 45, 3) := by decide +kernel
theorem dX6_meet_15 : decode cX6_meet 15 = .ok (.aload_n 0, 1) := by decide +kernel
theorem dX6_meet_16 : decode cX6_meet 16 = .ok (.getfield 24, 3) := by decide +kernel
theorem dX6_meet_19 : decode cX6_meet 19 = .ok (.sipush 640, 3) := by decide +kernel
theorem dX6_meet_22 : decode cX6_meet 22 = .ok (.if_icmp .lt 5, 3) := by decide +kernel
theorem dX6_meet_25 : decode cX6_meet 25 = .ok (.iconst (-1), 1) := by decide +kernel
theorem dX6_meet_26 : decode cX6_meet 26 = .ok (.ireturn, 1) := by decide +kernel
theorem dX6_meet_27 : decode cX6_meet 27 = .ok (.aload_n 0, 1) := by decide +kernel
theorem dX6_meet_28 : decode cX6_meet 28 = .ok (.getfield 15, 3) := by decide +kernel
theorem dX6_meet_31 : decode cX6_meet 31 = .ok (.aload_n 0, 1) := by decide +kernel
theorem dX6_meet_32 : decode cX6_meet 32 = .ok (.getfield 24, 3) := by decide +kernel
theorem dX6_meet_35 : decode cX6_meet 35 = .ok (.iload_n 1, 1) := by decide +kernel
theorem dX6_meet_36 : decode cX6_meet 36 = .ok (.iastore, 1) := by decide +kernel
theorem dX6_meet_37 : decode cX6_meet 37 = .ok (.aload_n 0, 1) := by decide +kernel
theorem dX6_meet_38 : decode cX6_meet 38 = .ok (.dup, 1) := by decide +kernel
theorem dX6_meet_39 : decode cX6_meet 39 = .ok (.getfield 24, 3) := by decide +kernel
theorem dX6_meet_42 : decode cX6_meet 42 = .ok (.iconst 1, 1) := by decide +kernel
theorem dX6_meet_43 : decode cX6_meet 43 = .ok (.iadd, 1) := by decide +kernel
theorem dX6_meet_44 : decode cX6_meet 44 = .ok (.putfield 24, 3) := by decide +kernel
theorem dX6_meet_47 : decode cX6_meet 47 = .ok (.aload_n 0, 1) := by decide +kernel
theorem dX6_meet_48 : decode cX6_meet 48 = .ok (.getfield 9, 3) := by decide +kernel
theorem dX6_meet_51 : decode cX6_meet 51 = .ok (.iload_n 2, 1) := by decide +kernel
theorem dX6_meet_52 : decode cX6_meet 52 = .ok (.aload_n 0, 1) := by decide +kernel
theorem dX6_meet_53 : decode cX6_meet 53 = .ok (.getfield 24, 3) := by decide +kernel
theorem dX6_meet_56 : decode cX6_meet 56 = .ok (.iastore, 1) := by decide +kernel
theorem dX6_meet_57 : decode cX6_meet 57 = .ok (.aload_n 0, 1) := by decide +kernel
theorem dX6_meet_58 : decode cX6_meet 58 = .ok (.getfield 9, 3) := by decide +kernel
theorem dX6_meet_61 : decode cX6_meet 61 = .ok (.iload_n 2, 1) := by decide +kernel
theorem dX6_meet_62 : decode cX6_meet 62 = .ok (.iaload, 1) := by decide +kernel
theorem dX6_meet_63 : decode cX6_meet 63 = .ok (.iconst 1, 1) := by decide +kernel
theorem dX6_meet_64 : decode cX6_meet 64 = .ok (.isub, 1) := by decide +kernel
theorem dX6_meet_65 : decode cX6_meet 65 = .ok (.ireturn, 1) := by decide +kernel
theorem dX6_slotOf_0 : decode cX6_slotOf 0 = .ok (.iload_n 1, 1) := by decide +kernel
theorem dX6_slotOf_1 : decode cX6_slotOf 1 = .ok (.ldc 32, 2) := by decide +kernel
theorem dX6_slotOf_3 : decode cX6_slotOf 3 = .ok (.imul, 1) := by decide +kernel
theorem dX6_slotOf_4 : decode cX6_slotOf 4 = .ok (.bipush 22, 2) := by decide +kernel
theorem dX6_slotOf_6 : decode cX6_slotOf 6 = .ok (.iushr, 1) := by decide +kernel
theorem dX6_slotOf_7 : decode cX6_slotOf 7 = .ok (.sipush 1023, 3) := by decide +kernel
theorem dX6_slotOf_10 : decode cX6_slotOf 10 = .ok (.iand, 1) := by decide +kernel
theorem dX6_slotOf_11 : decode cX6_slotOf 11 = .ok (.istore_n 2, 1) := by decide +kernel
theorem dX6_slotOf_12 : decode cX6_slotOf 12 = .ok (.iconst 0, 1) := by decide +kernel
theorem dX6_slotOf_13 : decode cX6_slotOf 13 = .ok (.istore_n 3, 1) := by decide +kernel
theorem dX6_slotOf_14 : decode cX6_slotOf 14 = .ok (.iload_n 3, 1) := by decide +kernel
theorem dX6_slotOf_15 : decode cX6_slotOf 15 = .ok (.sipush 1024, 3) := by decide +kernel
theorem dX6_slotOf_18 : decode cX6_slotOf 18 = .ok (.if_icmp .ge 53, 3) := by decide +kernel
theorem dX6_slotOf_21 : decode cX6_slotOf 21 = .ok (.aload_n 0, 1) := by decide +kernel
theorem dX6_slotOf_22 : decode cX6_slotOf 22 = .ok (.getfield 9, 3) := by decide +kernel
theorem dX6_slotOf_25 : decode cX6_slotOf 25 = .ok (.iload_n 2, 1) := by decide +kernel
theorem dX6_slotOf_26 : decode cX6_slotOf 26 = .ok (.iaload, 1) := by decide +kernel
theorem dX6_slotOf_27 : decode cX6_slotOf 27 = .ok (.iconst 1, 1) := by decide +kernel
theorem dX6_slotOf_28 : decode cX6_slotOf 28 = .ok (.isub, 1) := by decide +kernel
theorem dX6_slotOf_29 : decode cX6_slotOf 29 = .ok (.istore 4, 2) := by decide +kernel
theorem dX6_slotOf_31 : decode cX6_slotOf 31 = .ok (.iload 4, 2) := by decide +kernel
theorem dX6_slotOf_33 : decode cX6_slotOf 33 = .ok (.ifCond .lt 22, 3) := by decide +kernel
theorem dX6_slotOf_36 : decode cX6_slotOf 36 = .ok (.iload 4, 2) := by decide +kernel
theorem dX6_slotOf_38 : decode cX6_slotOf 38 = .ok (.sipush 640, 3) := by decide +kernel
theorem dX6_slotOf_41 : decode cX6_slotOf 41 = .ok (.if_icmp .ge 14, 3) := by decide +kernel
theorem dX6_slotOf_44 : decode cX6_slotOf 44 = .ok (.aload_n 0, 1) := by decide +kernel
theorem dX6_slotOf_45 : decode cX6_slotOf 45 = .ok (.getfield 15, 3) := by decide +kernel
theorem dX6_slotOf_48 : decode cX6_slotOf 48 = .ok (.iload 4, 2) := by decide +kernel
theorem dX6_slotOf_50 : decode cX6_slotOf 50 = .ok (.iaload, 1) := by decide +kernel
theorem dX6_slotOf_51 : decode cX6_slotOf 51 = .ok (.iload_n 1, 1) := by decide +kernel
theorem dX6_slotOf_52 : decode cX6_slotOf 52 = .ok (.if_icmp .ne 5, 3) := by decide +kernel
theorem dX6_slotOf_55 : decode cX6_slotOf 55 = .ok (.iload_n 2, 1) := by decide +kernel
theorem dX6_slotOf_56 : decode cX6_slotOf 56 = .ok (.ireturn, 1) := by decide +kernel
theorem dX6_slotOf_57 : decode cX6_slotOf 57 = .ok (.iload_n 2, 1) := by decide +kernel
theorem dX6_slotOf_58 : decode cX6_slotOf 58 = .ok (.iconst 1, 1) := by decide +kernel
theorem dX6_slotOf_59 : decode cX6_slotOf 59 = .ok (.iadd, 1) := by decide +kernel
theorem dX6_slotOf_60 : decode cX6_slotOf 60 = .ok (.sipush 1023, 3) := by decide +kernel
theorem dX6_slotOf_63 : decode cX6_slotOf 63 = .ok (.iand, 1) := by decide +kernel
theorem dX6_slotOf_64 : decode cX6_slotOf 64 = .ok (.istore_n 2, 1) := by decide +kernel
theorem dX6_slotOf_65 : decode cX6_slotOf 65 = .ok (.iinc 3 1, 3) := by decide +kernel
theorem dX6_slotOf_68 : decode cX6_slotOf 68 = .ok (.goto (-54), 3) := by decide +kernel
theorem dX6_slotOf_71 : decode cX6_slotOf 71 = .ok (.iload_n 2, 1) := by decide +kernel
theorem dX6_slotOf_72 : decode cX6_slotOf 72 = .ok (.ireturn, 1) := by decide +kernel
theorem dX7_init_0 : decode cX7_init 0 = .ok (.aload_n 0, 1) := by decide +kernel
theorem dX7_init_1 : decode cX7_init 1 = .ok (.invokespecial 1, 3) := by decide +kernel
theorem dX7_init_4 : decode cX7_init 4 = .ok (.aload_n 0, 1) := by decide +kernel
theorem dX7_init_5 : decode cX7_init 5 = .ok (.new 7, 3) := by decide +kernel
theorem dX7_init_8 : decode cX7_init 8 = .ok (.dup, 1) := by decide +kernel
theorem dX7_init_9 : decode cX7_init 9 = .ok (.invokespecial 9, 3) := by decide +kernel
theorem dX7_init_12 : decode cX7_init 12 = .ok (.putfield 10, 3) := by decide +kernel
theorem dX7_init_15 : decode cX7_init 15 = .ok (.aload_n 0, 1) := by decide +kernel
theorem dX7_init_16 : decode cX7_init 16 = .ok (.new 16, 3) := by decide +kernel
theorem dX7_init_19 : decode cX7_init 19 = .ok (.dup, 1) := by decide +kernel
theorem dX7_init_20 : decode cX7_init 20 = .ok (.invokespecial 18, 3) := by decide +kernel
theorem dX7_init_23 : decode cX7_init 23 = .ok (.putfield 19, 3) := by decide +kernel
theorem dX7_init_26 : decode cX7_init 26 = .ok (.aload_n 0, 1) := by decide +kernel
theorem dX7_init_27 : decode cX7_init 27 = .ok (.new 16, 3) := by decide +kernel
theorem dX7_init_30 : decode cX7_init 30 = .ok (.dup, 1) := by decide +kernel
theorem dX7_init_31 : decode cX7_init 31 = .ok (.invokespecial 18, 3) := by decide +kernel
theorem dX7_init_34 : decode cX7_init 34 = .ok (.putfield 23, 3) := by decide +kernel
theorem dX7_init_37 : decode cX7_init 37 = .ok (.aload_n 0, 1) := by decide +kernel
theorem dX7_init_38 : decode cX7_init 38 = .ok (.new 26, 3) := by decide +kernel
theorem dX7_init_41 : decode cX7_init 41 = .ok (.dup, 1) := by decide +kernel
theorem dX7_init_42 : decode cX7_init 42 = .ok (.invokespecial 28, 3) := by decide +kernel
theorem dX7_init_45 : decode cX7_init 45 = .ok (.putfield 29, 3) := by decide +kernel
theorem dX7_init_48 : decode cX7_init 48 = .ok (.aload_n 0, 1) := by decide +kernel
theorem dX7_init_49 : decode cX7_init 49 = .ok (.new 26, 3) := by decide +kernel
theorem dX7_init_52 : decode cX7_init 52 = .ok (.dup, 1) := by decide +kernel
theorem dX7_init_53 : decode cX7_init 53 = .ok (.invokespecial 28, 3) := by decide +kernel
theorem dX7_init_56 : decode cX7_init 56 = .ok (.putfield 33, 3) := by decide +kernel
theorem dX7_init_59 : decode cX7_init 59 = .ok (.aload_n 0, 1) := by decide +kernel
theorem dX7_init_60 : decode cX7_init 60 = .ok (.new 36, 3) := by decide +kernel
theorem dX7_init_63 : decode cX7_init 63 = .ok (.dup, 1) := by decide +kernel
theorem dX7_init_64 : decode cX7_init 64 = .ok (.invokespecial 38, 3) := by decide +kernel
theorem dX7_init_67 : decode cX7_init 67 = .ok (.putfield 39, 3) := by decide +kernel
theorem dX7_init_70 : decode cX7_init 70 = .ok (.aload_n 0, 1) := by decide +kernel
theorem dX7_init_71 : decode cX7_init 71 = .ok (.new 36, 3) := by decide +kernel
theorem dX7_init_74 : decode cX7_init 74 = .ok (.dup, 1) := by decide +kernel
theorem dX7_init_75 : decode cX7_init 75 = .ok (.invokespecial 38, 3) := by decide +kernel
theorem dX7_init_78 : decode cX7_init 78 = .ok (.putfield 43, 3) := by decide +kernel
theorem dX7_init_81 : decode cX7_init 81 = .ok (.aload_n 0, 1) := by decide +kernel
theorem dX7_init_82 : decode cX7_init 82 = .ok (.new 46, 3) := by decide +kernel
theorem dX7_init_85 : decode cX7_init 85 = .ok (.dup, 1) := by decide +kernel
theorem dX7_init_86 : decode cX7_init 86 = .ok (.invokespecial 48, 3) := by decide +kernel
theorem dX7_init_89 : decode cX7_init 89 = .ok (.putfield 49, 3) := by decide +kernel
theorem dX7_init_92 : decode cX7_init 92 = .ok (.return_, 1) := by decide +kernel
theorem dX7_letters_0 : decode cX7_letters 0 = .ok (.lload_n 1, 1) := by decide +kernel
theorem dX7_letters_1 : decode cX7_letters 1 = .ok (.invokestatic 53, 3) := by decide +kernel
theorem dX7_letters_4 : decode cX7_letters 4 = .ok (.istore_n 3, 1) := by decide +kernel
theorem dX7_letters_5 : decode cX7_letters 5 = .ok (.iload_n 3, 1) := by decide +kernel
theorem dX7_letters_6 : decode cX7_letters 6 = .ok (.iconst (-1), 1) := by decide +kernel
theorem dX7_letters_7 : decode cX7_letters 7 = .ok (.if_icmp .ne 6, 3) := by decide +kernel
theorem dX7_letters_10 : decode cX7_letters 10 = .ok (.bipush (-102), 2) := by decide +kernel
theorem dX7_letters_12 : decode cX7_letters 12 = .ok (.ireturn, 1) := by decide +kernel
theorem dX7_letters_13 : decode cX7_letters 13 = .ok (.aload_n 0, 1) := by decide +kernel
theorem dX7_letters_14 : decode cX7_letters 14 = .ok (.getfield 10, 3) := by decide +kernel
theorem dX7_letters_17 : decode cX7_letters 17 = .ok (.getfield 57, 3) := by decide +kernel
theorem dX7_letters_20 : decode cX7_letters 20 = .ok (.iload_n 3, 1) := by decide +kernel
theorem dX7_letters_21 : decode cX7_letters 21 = .ok (.iadd, 1) := by decide +kernel
theorem dX7_letters_22 : decode cX7_letters 22 = .ok (.bipush 14, 2) := by decide +kernel
theorem dX7_letters_24 : decode cX7_letters 24 = .ok (.if_icmp .le 6, 3) := by decide +kernel
theorem dX7_letters_27 : decode cX7_letters 27 = .ok (.bipush (-104), 2) := by decide +kernel
theorem dX7_letters_29 : decode cX7_letters 29 = .ok (.ireturn, 1) := by decide +kernel
theorem dX7_letters_30 : decode cX7_letters 30 = .ok (.aload_n 0, 1) := by decide +kernel
theorem dX7_letters_31 : decode cX7_letters 31 = .ok (.getfield 10, 3) := by decide +kernel
theorem dX7_letters_34 : decode cX7_letters 34 = .ok (.lload_n 1, 1) := by decide +kernel
theorem dX7_letters_35 : decode cX7_letters 35 = .ok (.iload_n 3, 1) := by decide +kernel
theorem dX7_letters_36 : decode cX7_letters 36 = .ok (.invokevirtual 61, 3) := by decide +kernel
theorem dX7_letters_39 : decode cX7_letters 39 = .ok (.aload_n 0, 1) := by decide +kernel
theorem dX7_letters_40 : decode cX7_letters 40 = .ok (.getfield 10, 3) := by decide +kernel
theorem dX7_letters_43 : decode cX7_letters 43 = .ok (.getfield 57, 3) := by decide +kernel
theorem dX7_letters_46 : decode cX7_letters 46 = .ok (.ireturn, 1) := by decide +kernel
theorem dX7_blank_0 : decode cX7_blank 0 = .ok (.aload_n 0, 1) := by decide +kernel
theorem dX7_blank_1 : decode cX7_blank 1 = .ok (.getfield 10, 3) := by decide +kernel
theorem dX7_blank_4 : decode cX7_blank 4 = .ok (.getfield 57, 3) := by decide +kernel
theorem dX7_blank_7 : decode cX7_blank 7 = .ok (.istore_n 1, 1) := by decide +kernel
theorem dX7_blank_8 : decode cX7_blank 8 = .ok (.aload_n 0, 1) := by decide +kernel
theorem dX7_blank_9 : decode cX7_blank 9 = .ok (.getfield 10, 3) := by decide +kernel
theorem dX7_blank_12 : decode cX7_blank 12 = .ok (.iconst 0, 1) := by decide +kernel
theorem dX7_blank_13 : decode cX7_blank 13 = .ok (.putfield 57, 3) := by decide +kernel
theorem dX7_blank_16 : decode cX7_blank 16 = .ok (.iload_n 1, 1) := by decide +kernel
theorem dX7_blank_17 : decode cX7_blank 17 = .ok (.ireturn, 1) := by decide +kernel
theorem dX7_fault_0 : decode cX7_fault 0 = .ok (.aload_n 0, 1) := by decide +kernel
theorem dX7_fault_1 : decode cX7_fault 1 = .ok (.getfield 10, 3) := by decide +kernel
theorem dX7_fault_4 : decode cX7_fault 4 = .ok (.invokevirtual 65, 3) := by decide +kernel
theorem dX7_fault_7 : decode cX7_fault 7 = .ok (.ireturn, 1) := by decide +kernel
theorem dX7_brook_0 : decode cX7_brook 0 = .ok (.aload_n 0, 1) := by decide +kernel
theorem dX7_brook_1 : decode cX7_brook 1 = .ok (.getfield 10, 3) := by decide +kernel
theorem dX7_brook_4 : decode cX7_brook 4 = .ok (.invokevirtual 69, 3) := by decide +kernel
theorem dX7_brook_7 : decode cX7_brook 7 = .ok (.ifCond .ne 6, 3) := by decide +kernel
theorem dX7_brook_10 : decode cX7_brook 10 = .ok (.bipush (-103), 2) := by decide +kernel
theorem dX7_brook_12 : decode cX7_brook 12 = .ok (.ireturn, 1) := by decide +kernel
theorem dX7_brook_13 : decode cX7_brook 13 = .ok (.aload_n 0, 1) := by decide +kernel
theorem dX7_brook_14 : decode cX7_brook 14 = .ok (.getfield 19, 3) := by decide +kernel
theorem dX7_brook_17 : decode cX7_brook 17 = .ok (.aload_n 0, 1) := by decide +kernel
theorem dX7_brook_18 : decode cX7_brook 18 = .ok (.getfield 10, 3) := by decide +kernel
theorem dX7_brook_21 : decode cX7_brook 21 = .ok (.invokevirtual 73, 3) := by decide +kernel
theorem dX7_brook_24 : decode cX7_brook 24 = .ok (.aload_n 0, 1) := by decide +kernel
theorem dX7_brook_25 : decode cX7_brook 25 = .ok (.getfield 10, 3) := by decide +kernel
theorem dX7_brook_28 : decode cX7_brook 28 = .ok (.invokevirtual 76, 3) := by decide +kernel
theorem dX7_brook_31 : decode cX7_brook 31 = .ok (.invokevirtual 79, 3) := by decide +kernel
theorem dX7_brook_34 : decode cX7_brook 34 = .ok (.aload_n 0, 1) := by decide +kernel
theorem dX7_brook_35 : decode cX7_brook 35 = .ok (.aload_n 0, 1) := by decide +kernel
theorem dX7_brook_36 : decode cX7_brook 36 = .ok (.getfield 10, 3) := by decide +kernel
theorem dX7_brook_39 : decode cX7_brook 39 = .ok (.invokevirtual 83, 3) := by decide +kernel
theorem dX7_brook_42 : decode cX7_brook 42 = .ok (.putfield 86, 3) := by decide +kernel
theorem dX7_brook_45 : decode cX7_brook 45 = .ok (.aload_n 0, 1) := by decide +kernel
theorem dX7_brook_46 : decode cX7_brook 46 = .ok (.aload_n 0, 1) := by decide +kernel
theorem dX7_brook_47 : decode cX7_brook 47 = .ok (.getfield 86, 3) := by decide +kernel
theorem dX7_brook_50 : decode cX7_brook 50 = .ok (.aload_n 0, 1) := by decide +kernel
theorem dX7_brook_51 : decode cX7_brook 51 = .ok (.getfield 19, 3) := by decide +kernel
theorem dX7_brook_54 : decode cX7_brook 54 = .ok (.getfield 89, 3) := by decide +kernel
theorem dX7_brook_57 : decode cX7_brook 57 = .ok (.invokestatic 92, 3) := by decide +kernel
theorem dX7_brook_60 : decode cX7_brook 60 = .ok (.putfield 98, 3) := by decide +kernel
theorem dX7_brook_63 : decode cX7_brook 63 = .ok (.aload_n 0, 1) := by decide +kernel
theorem dX7_brook_64 : decode cX7_brook 64 = .ok (.aload_n 0, 1) := by decide +kernel
theorem dX7_brook_65 : decode cX7_brook 65 = .ok (.getfield 19, 3) := by decide +kernel
theorem dX7_brook_68 : decode cX7_brook 68 = .ok (.getfield 89, 3) := by decide +kernel
theorem dX7_brook_71 : decode cX7_brook 71 = .ok (.aload_n 0, 1) := by decide +kernel
theorem dX7_brook_72 : decode cX7_brook 72 = .ok (.getfield 86, 3) := by decide +kernel
theorem dX7_brook_75 : decode cX7_brook 75 = .ok (.aload_n 0, 1) := by decide +kernel
theorem dX7_brook_76 : decode cX7_brook 76 = .ok (.getfield 19, 3) := by decide +kernel
theorem dX7_brook_79 : decode cX7_brook 79 = .ok (.getfield 89, 3) := by decide +kernel
theorem dX7_brook_82 : decode cX7_brook 82 = .ok (.invokestatic 101, 3) := by decide +kernel
theorem dX7_brook_85 : decode cX7_brook 85 = .ok (.isub, 1) := by decide +kernel
theorem dX7_brook_86 : decode cX7_brook 86 = .ok (.putfield 104, 3) := by decide +kernel
theorem dX7_brook_89 : decode cX7_brook 89 = .ok (.aload_n 0, 1) := by decide +kernel
theorem dX7_brook_90 : decode cX7_brook 90 = .ok (.getfield 29, 3) := by decide +kernel
theorem dX7_brook_93 : decode cX7_brook 93 = .ok (.aload_n 0, 1) := by decide +kernel
theorem dX7_brook_94 : decode cX7_brook 94 = .ok (.getfield 86, 3) := by decide +kernel
theorem dX7_brook_97 : decode cX7_brook 97 = .ok (.aload_n 0, 1) := by decide +kernel
theorem dX7_brook_98 : decode cX7_brook 98 = .ok (.getfield 86, 3) := by decide +kernel
theorem dX7_brook_101 : decode cX7_brook 101 = .ok (.invokestatic 107, 3) := by decide +kernel
theorem dX7_brook_104 : decode cX7_brook 104 = .ok (.invokevirtual 111, 3) := by decide +kernel
theorem dX7_brook_107 : decode cX7_brook 107 = .ok (.aload_n 0, 1) := by decide +kernel
theorem dX7_brook_108 : decode cX7_brook 108 = .ok (.getfield 39, 3) := by decide +kernel
theorem dX7_brook_111 : decode cX7_brook 111 = .ok (.aload_n 0, 1) := by decide +kernel
theorem dX7_brook_112 : decode cX7_brook 112 = .ok (.getfield 19, 3) := by decide +kernel
theorem dX7_brook_115 : decode cX7_brook 115 = .ok (.aload_n 0, 1) := by decide +kernel
theorem dX7_brook_116 : decode cX7_brook 116 = .ok (.getfield 98, 3) := by decide +kernel
theorem dX7_brook_119 : decode cX7_brook 119 = .ok (.iconst (-1), 1) := by decide +kernel
theorem dX7_brook_120 : decode cX7_brook 120 = .ok (.iconst (-1), 1) := by decide +kernel
theorem dX7_brook_121 : decode cX7_brook 121 = .ok (.invokevirtual 114, 3) := by decide +kernel
theorem dX7_brook_124 : decode cX7_brook 124 = .ok (.pop, 1) := by decide +kernel
theorem dX7_brook_125 : decode cX7_brook 125 = .ok (.aload_n 0, 1) := by decide +kernel
theorem dX7_brook_126 : decode cX7_brook 126 = .ok (.getfield 49, 3) := by decide +kernel
theorem dX7_brook_129 : decode cX7_brook 129 = .ok (.invokevirtual 118, 3) := by decide +kernel
theorem dX7_brook_132 : decode cX7_brook 132 = .ok (.aload_n 0, 1) := by decide +kernel
theorem dX7_brook_133 : decode cX7_brook 133 = .ok (.iconst 0, 1) := by decide +kernel
theorem dX7_brook_134 : decode cX7_brook 134 = .ok (.putfield 121, 3) := by decide +kernel
theorem dX7_brook_137 : decode cX7_brook 137 = .ok (.aload_n 0, 1) := by decide +kernel
theorem dX7_brook_138 : decode cX7_brook 138 = .ok (.dup, 1) := by decide +kernel
theorem dX7_brook_139 : decode cX7_brook 139 = .ok (.getfield 125, 3) := by decide +kernel
theorem dX7_brook_142 : decode cX7_brook 142 = .ok (.iconst 1, 1) := by decide +kernel
theorem dX7_brook_143 : decode cX7_brook 143 = .ok (.iadd, 1) := by decide +kernel
theorem dX7_brook_144 : decode cX7_brook 144 = .ok (.putfield 125, 3) := by decide +kernel
theorem dX7_brook_147 : decode cX7_brook 147 = .ok (.aload_n 0, 1) := by decide +kernel
theorem dX7_brook_148 : decode cX7_brook 148 = .ok (.getfield 10, 3) := by decide +kernel
theorem dX7_brook_151 : decode cX7_brook 151 = .ok (.iconst 0, 1) := by decide +kernel
theorem dX7_brook_152 : decode cX7_brook 152 = .ok (.putfield 57, 3) := by decide +kernel
theorem dX7_brook_155 : decode cX7_brook 155 = .ok (.aload_n 0, 1) := by decide +kernel
theorem dX7_brook_156 : decode cX7_brook 156 = .ok (.getfield 19, 3) := by decide +kernel
theorem dX7_brook_159 : decode cX7_brook 159 = .ok (.getfield 89, 3) := by decide +kernel
theorem dX7_brook_162 : decode cX7_brook 162 = .ok (.ireturn, 1) := by decide +kernel
theorem dX7_on_0 : decode cX7_on 0 = .ok (.aload_n 0, 1) := by decide +kernel
theorem dX7_on_1 : decode cX7_on 1 = .ok (.iload_n 1, 1) := by decide +kernel
theorem dX7_on_2 : decode cX7_on 2 = .ok (.invokevirtual 128, 3) := by decide +kernel
theorem dX7_on_5 : decode cX7_on 5 = .ok (.ifCond .ne 6, 3) := by decide +kernel
theorem dX7_on_8 : decode cX7_on 8 = .ok (.bipush (-101), 2) := by decide +kernel
theorem dX7_on_10 : decode cX7_on 10 = .ok (.ireturn, 1) := by decide +kernel
theorem dX7_on_11 : decode cX7_on 11 = .ok (.aload_n 0, 1) := by decide +kernel
theorem dX7_on_12 : decode cX7_on 12 = .ok (.getfield 29, 3) := by decide +kernel
theorem dX7_on_15 : decode cX7_on 15 = .ok (.getfield 132, 3) := by decide +kernel
theorem dX7_on_18 : decode cX7_on 18 = .ok (.iload_n 1, 1) := by decide +kernel
theorem dX7_on_19 : decode cX7_on 19 = .ok (.invokestatic 134, 3) := by decide +kernel
theorem dX7_on_22 : decode cX7_on 22 = .ok (.istore_n 2, 1) := by decide +kernel
theorem dX7_on_23 : decode cX7_on 23 = .ok (.iload_n 2, 1) := by decide +kernel
theorem dX7_on_24 : decode cX7_on 24 = .ok (.ifCond .ne 7, 3) := by decide +kernel
theorem dX7_on_27 : decode cX7_on 27 = .ok (.iconst (-1), 1) := by decide +kernel
theorem dX7_on_28 : decode cX7_on 28 = .ok (.goto 4, 3) := by decide +kernel
theorem dX7_on_31 : decode cX7_on 31 = .ok (.iload_n 2, 1) := by decide +kernel
theorem dX7_on_32 : decode cX7_on 32 = .ok (.ireturn, 1) := by decide +kernel
theorem dX7_frog_0 : decode cX7_frog 0 = .ok (.aload_n 0, 1) := by decide +kernel
theorem dX7_frog_1 : decode cX7_frog 1 = .ok (.iload_n 1, 1) := by decide +kernel
theorem dX7_frog_2 : decode cX7_frog 2 = .ok (.invokevirtual 128, 3) := by decide +kernel
theorem dX7_frog_5 : decode cX7_frog 5 = .ok (.ifCond .ne 6, 3) := by decide +kernel
theorem dX7_frog_8 : decode cX7_frog 8 = .ok (.bipush (-101), 2) := by decide +kernel
theorem dX7_frog_10 : decode cX7_frog 10 = .ok (.ireturn, 1) := by decide +kernel
theorem dX7_frog_11 : decode cX7_frog 11 = .ok (.aload_n 0, 1) := by decide +kernel
theorem dX7_frog_12 : decode cX7_frog 12 = .ok (.getfield 29, 3) := by decide +kernel
theorem dX7_frog_15 : decode cX7_frog 15 = .ok (.getfield 137, 3) := by decide +kernel
theorem dX7_frog_18 : decode cX7_frog 18 = .ok (.iload_n 1, 1) := by decide +kernel
theorem dX7_frog_19 : decode cX7_frog 19 = .ok (.invokestatic 134, 3) := by decide +kernel
theorem dX7_frog_22 : decode cX7_frog 22 = .ok (.iconst 1, 1) := by decide +kernel
theorem dX7_frog_23 : decode cX7_frog 23 = .ok (.isub, 1) := by decide +kernel
theorem dX7_frog_24 : decode cX7_frog 24 = .ok (.ireturn, 1) := by decide +kernel
theorem dX7_about_0 : decode cX7_about 0 = .ok (.aload_n 0, 1) := by decide +kernel
theorem dX7_about_1 : decode cX7_about 1 = .ok (.iload_n 1, 1) := by decide +kernel
theorem dX7_about_2 : decode cX7_about 2 = .ok (.invokevirtual 140, 3) := by decide +kernel
theorem dX7_about_5 : decode cX7_about 5 = .ok (.ifCond .ne 6, 3) := by decide +kernel
theorem dX7_about_8 : decode cX7_about 8 = .ok (.bipush (-101), 2) := by decide +kernel
theorem dX7_about_10 : decode cX7_about 10 = .ok (.ireturn, 1) := by decide +kernel
theorem dX7_about_11 : decode cX7_about 11 = .ok (.iload_n 2, 1) := by decide +kernel
theorem dX7_about_12 : decode cX7_about 12 = .ok (.tableswitch 52 0 2 #[28, 34, 43], 28) := by decide +kernel
theorem dX7_about_40 : decode cX7_about 40 = .ok (.aload_n 0, 1) := by decide +kernel
theorem dX7_about_41 : decode cX7_about 41 = .ok (.iload_n 1, 1) := by decide +kernel
theorem dX7_about_42 : decode cX7_about 42 = .ok (.invokevirtual 143, 3) := by decide +kernel
theorem dX7_about_45 : decode cX7_about 45 = .ok (.ireturn, 1) := by decide +kernel
theorem dX7_about_46 : decode cX7_about 46 = .ok (.aload_n 0, 1) := by decide +kernel
theorem dX7_about_47 : decode cX7_about 47 = .ok (.getfield 29, 3) := by decide +kernel
theorem dX7_about_50 : decode cX7_about 50 = .ok (.iload_n 1, 1) := by decide +kernel
theorem dX7_about_51 : decode cX7_about 51 = .ok (.invokevirtual 146, 3) := by decide +kernel
theorem dX7_about_54 : decode cX7_about 54 = .ok (.ireturn, 1) := by decide +kernel
theorem dX7_about_55 : decode cX7_about 55 = .ok (.aload_n 0, 1) := by decide +kernel
theorem dX7_about_56 : decode cX7_about 56 = .ok (.getfield 29, 3) := by decide +kernel
theorem dX7_about_59 : decode cX7_about 59 = .ok (.iload_n 1, 1) := by decide +kernel
theorem dX7_about_60 : decode cX7_about 60 = .ok (.invokevirtual 149, 3) := by decide +kernel
theorem dX7_about_63 : decode cX7_about 63 = .ok (.ireturn, 1) := by decide +kernel
theorem dX7_about_64 : decode cX7_about 64 = .ok (.bipush (-102), 2) := by decide +kernel
theorem dX7_about_66 : decode cX7_about 66 = .ok (.ireturn, 1) := by decide +kernel
theorem dX7_as_0 : decode cX7_as 0 = .ok (.aload_n 0, 1) := by decide +kernel
theorem dX7_as_1 : decode cX7_as 1 = .ok (.iload_n 1, 1) := by decide +kernel
theorem dX7_as_2 : decode cX7_as 2 = .ok (.invokevirtual 140, 3) := by decide +kernel
theorem dX7_as_5 : decode cX7_as 5 = .ok (.ifCond .ne 6, 3) := by decide +kernel
theorem dX7_as_8 : decode cX7_as 8 = .ok (.bipush (-101), 2) := by decide +kernel
theorem dX7_as_10 : decode cX7_as 10 = .ok (.ireturn, 1) := by decide +kernel
theorem dX7_as_11 : decode cX7_as 11 = .ok (.iload_n 2, 1) := by decide +kernel
theorem dX7_as_12 : decode cX7_as 12 = .ok (.ifCond .lt 8, 3) := by decide +kernel
theorem dX7_as_15 : decode cX7_as 15 = .ok (.iload_n 2, 1) := by decide +kernel
theorem dX7_as_16 : decode cX7_as 16 = .ok (.iconst 4, 1) := by decide +kernel
theorem dX7_as_17 : decode cX7_as 17 = .ok (.if_icmp .le 6, 3) := by decide +kernel
theorem dX7_as_20 : decode cX7_as 20 = .ok (.bipush (-102), 2) := by decide +kernel
theorem dX7_as_22 : decode cX7_as 22 = .ok (.ireturn, 1) := by decide +kernel
theorem dX7_as_23 : decode cX7_as 23 = .ok (.aload_n 0, 1) := by decide +kernel
theorem dX7_as_24 : decode cX7_as 24 = .ok (.iload_n 1, 1) := by decide +kernel
theorem dX7_as_25 : decode cX7_as 25 = .ok (.invokevirtual 143, 3) := by decide +kernel
theorem dX7_as_28 : decode cX7_as 28 = .ok (.istore_n 3, 1) := by decide +kernel
theorem dX7_as_29 : decode cX7_as 29 = .ok (.iload_n 2, 1) := by decide +kernel
theorem dX7_as_30 : decode cX7_as 30 = .ok (.ifCond .eq 18, 3) := by decide +kernel
theorem dX7_as_33 : decode cX7_as 33 = .ok (.iload_n 2, 1) := by decide +kernel
theorem dX7_as_34 : decode cX7_as 34 = .ok (.iload_n 3, 1) := by decide +kernel
theorem dX7_as_35 : decode cX7_as 35 = .ok (.if_icmp .eq 13, 3) := by decide +kernel
theorem dX7_as_38 : decode cX7_as 38 = .ok (.iload_n 2, 1) := by decide +kernel
theorem dX7_as_39 : decode cX7_as 39 = .ok (.iconst 1, 1) := by decide +kernel
theorem dX7_as_40 : decode cX7_as 40 = .ok (.if_icmp .ne 12, 3) := by decide +kernel
theorem dX7_as_43 : decode cX7_as 43 = .ok (.iload_n 3, 1) := by decide +kernel
theorem dX7_as_44 : decode cX7_as 44 = .ok (.iconst 4, 1) := by decide +kernel
theorem dX7_as_45 : decode cX7_as 45 = .ok (.if_icmp .ne 7, 3) := by decide +kernel
theorem dX7_as_48 : decode cX7_as 48 = .ok (.iconst 1, 1) := by decide +kernel
theorem dX7_as_49 : decode cX7_as 49 = .ok (.goto 4, 3) := by decide +kernel
theorem dX7_as_52 : decode cX7_as 52 = .ok (.iconst 0, 1) := by decide +kernel
theorem dX7_as_53 : decode cX7_as 53 = .ok (.istore 4, 2) := by decide +kernel
theorem dX7_as_55 : decode cX7_as 55 = .ok (.iload 4, 2) := by decide +kernel
theorem dX7_as_57 : decode cX7_as 57 = .ok (.ifCond .eq 7, 3) := by decide +kernel
theorem dX7_as_60 : decode cX7_as 60 = .ok (.iload_n 1, 1) := by decide +kernel
theorem dX7_as_61 : decode cX7_as 61 = .ok (.goto 4, 3) := by decide +kernel
theorem dX7_as_64 : decode cX7_as 64 = .ok (.iconst (-1), 1) := by decide +kernel
theorem dX7_as_65 : decode cX7_as 65 = .ok (.ireturn, 1) := by decide +kernel
theorem dX7_may_0 : decode cX7_may 0 = .ok (.aload_n 0, 1) := by decide +kernel
theorem dX7_may_1 : decode cX7_may 1 = .ok (.iload_n 1, 1) := by decide +kernel
theorem dX7_may_2 : decode cX7_may 2 = .ok (.invokevirtual 128, 3) := by decide +kernel
theorem dX7_may_5 : decode cX7_may 5 = .ok (.ifCond .eq 11, 3) := by decide +kernel
theorem dX7_may_8 : decode cX7_may 8 = .ok (.aload_n 0, 1) := by decide +kernel
theorem dX7_may_9 : decode cX7_may 9 = .ok (.iload_n 2, 1) := by decide +kernel
theorem dX7_may_10 : decode cX7_may 10 = .ok (.invokevirtual 128, 3) := by decide +kernel
theorem dX7_may_13 : decode cX7_may 13 = .ok (.ifCond .ne 6, 3) := by decide +kernel
theorem dX7_may_16 : decode cX7_may 16 = .ok (.bipush (-101), 2) := by decide +kernel
theorem dX7_may_18 : decode cX7_may 18 = .ok (.ireturn, 1) := by decide +kernel
theorem dX7_may_19 : decode cX7_may 19 = .ok (.aload_n 0, 1) := by decide +kernel
theorem dX7_may_20 : decode cX7_may 20 = .ok (.getfield 19, 3) := by decide +kernel
theorem dX7_may_23 : decode cX7_may 23 = .ok (.aload_n 0, 1) := by decide +kernel
theorem dX7_may_24 : decode cX7_may 24 = .ok (.getfield 29, 3) := by decide +kernel
theorem dX7_may_27 : decode cX7_may 27 = .ok (.getfield 132, 3) := by decide +kernel
theorem dX7_may_30 : decode cX7_may 30 = .ok (.iload_n 1, 1) := by decide +kernel
theorem dX7_may_31 : decode cX7_may 31 = .ok (.iload_n 2, 1) := by decide +kernel
theorem dX7_may_32 : decode cX7_may 32 = .ok (.invokevirtual 152, 3) := by decide +kernel
theorem dX7_may_35 : decode cX7_may 35 = .ok (.ifCond .eq 7, 3) := by decide +kernel
theorem dX7_may_38 : decode cX7_may 38 = .ok (.iconst 1, 1) := by decide +kernel
theorem dX7_may_39 : decode cX7_may 39 = .ok (.goto 4, 3) := by decide +kernel
theorem dX7_may_42 : decode cX7_may 42 = .ok (.iconst 0, 1) := by decide +kernel
theorem dX7_may_43 : decode cX7_may 43 = .ok (.ireturn, 1) := by decide +kernel
theorem dX7_moves_0 : decode cX7_moves 0 = .ok (.aload_n 0, 1) := by decide +kernel
theorem dX7_moves_1 : decode cX7_moves 1 = .ok (.getfield 19, 3) := by decide +kernel
theorem dX7_moves_4 : decode cX7_moves 4 = .ok (.aload_n 0, 1) := by decide +kernel
theorem dX7_moves_5 : decode cX7_moves 5 = .ok (.getfield 29, 3) := by decide +kernel
theorem dX7_moves_8 : decode cX7_moves 8 = .ok (.getfield 132, 3) := by decide +kernel
theorem dX7_moves_11 : decode cX7_moves 11 = .ok (.iconst 1, 1) := by decide +kernel
theorem dX7_moves_12 : decode cX7_moves 12 = .ok (.invokevirtual 156, 3) := by decide +kernel
theorem dX7_moves_15 : decode cX7_moves 15 = .ok (.invokestatic 160, 3) := by decide +kernel
theorem dX7_moves_18 : decode cX7_moves 18 = .ok (.ireturn, 1) := by decide +kernel
theorem dX7_move_0 : decode cX7_move 0 = .ok (.aload_n 0, 1) := by decide +kernel
theorem dX7_move_1 : decode cX7_move 1 = .ok (.iload_n 1, 1) := by decide +kernel
theorem dX7_move_2 : decode cX7_move 2 = .ok (.invokevirtual 128, 3) := by decide +kernel
theorem dX7_move_5 : decode cX7_move 5 = .ok (.ifCond .eq 11, 3) := by decide +kernel
theorem dX7_move_8 : decode cX7_move 8 = .ok (.aload_n 0, 1) := by decide +kernel
theorem dX7_move_9 : decode cX7_move 9 = .ok (.iload_n 2, 1) := by decide +kernel
theorem dX7_move_10 : decode cX7_move 10 = .ok (.invokevirtual 128, 3) := by decide +kernel
theorem dX7_move_13 : decode cX7_move 13 = .ok (.ifCond .ne 6, 3) := by decide +kernel
theorem dX7_move_16 : decode cX7_move 16 = .ok (.bipush (-101), 2) := by decide +kernel
theorem dX7_move_18 : decode cX7_move 18 = .ok (.ireturn, 1) := by decide +kernel
theorem dX7_move_19 : decode cX7_move 19 = .ok (.aload_n 0, 1) := by decide +kernel
theorem dX7_move_20 : decode cX7_move 20 = .ok (.getfield 19, 3) := by decide +kernel
theorem dX7_move_23 : decode cX7_move 23 = .ok (.aload_n 0, 1) := by decide +kernel
theorem dX7_move_24 : decode cX7_move 24 = .ok (.getfield 29, 3) := by decide +kernel
theorem dX7_move_27 : decode cX7_move 27 = .ok (.getfield 132, 3) := by decide +kernel
theorem dX7_move_30 : decode cX7_move 30 = .ok (.iload_n 1, 1) := by decide +kernel
theorem dX7_move_31 : decode cX7_move 31 = .ok (.iload_n 2, 1) := by decide +kernel
theorem dX7_move_32 : decode cX7_move 32 = .ok (.invokevirtual 152, 3) := by decide +kernel
theorem dX7_move_35 : decode cX7_move 35 = .ok (.ifCond .ne 6, 3) := by decide +kernel
theorem dX7_move_38 : decode cX7_move 38 = .ok (.bipush (-103), 2) := by decide +kernel
theorem dX7_move_40 : decode cX7_move 40 = .ok (.ireturn, 1) := by decide +kernel
theorem dX7_move_41 : decode cX7_move 41 = .ok (.aload_n 0, 1) := by decide +kernel
theorem dX7_move_42 : decode cX7_move 42 = .ok (.getfield 29, 3) := by decide +kernel
theorem dX7_move_45 : decode cX7_move 45 = .ok (.getfield 165, 3) := by decide +kernel
theorem dX7_move_48 : decode cX7_move 48 = .ok (.bipush 60, 2) := by decide +kernel
theorem dX7_move_50 : decode cX7_move 50 = .ok (.if_icmp .lt 6, 3) := by decide +kernel
theorem dX7_move_53 : decode cX7_move 53 = .ok (.bipush (-104), 2) := by decide +kernel
theorem dX7_move_55 : decode cX7_move 55 = .ok (.ireturn, 1) := by decide +kernel
theorem dX7_move_56 : decode cX7_move 56 = .ok (.aload_n 0, 1) := by decide +kernel
theorem dX7_move_57 : decode cX7_move 57 = .ok (.getfield 29, 3) := by decide +kernel
theorem dX7_move_60 : decode cX7_move 60 = .ok (.iload_n 1, 1) := by decide +kernel
theorem dX7_move_61 : decode cX7_move 61 = .ok (.iload_n 2, 1) := by decide +kernel
theorem dX7_move_62 : decode cX7_move 62 = .ok (.invokevirtual 166, 3) := by decide +kernel
theorem dX7_move_65 : decode cX7_move 65 = .ok (.aload_n 0, 1) := by decide +kernel
theorem dX7_move_66 : decode cX7_move 66 = .ok (.getfield 29, 3) := by decide +kernel
theorem dX7_move_69 : decode cX7_move 69 = .ok (.getfield 165, 3) := by decide +kernel
theorem dX7_move_72 : decode cX7_move 72 = .ok (.ireturn, 1) := by decide +kernel
theorem dX7_back_0 : decode cX7_back 0 = .ok (.aload_n 0, 1) := by decide +kernel
theorem dX7_back_1 : decode cX7_back 1 = .ok (.getfield 29, 3) := by decide +kernel
theorem dX7_back_4 : decode cX7_back 4 = .ok (.getfield 165, 3) := by decide +kernel
theorem dX7_back_7 : decode cX7_back 7 = .ok (.ifCond .ne 8, 3) := by decide +kernel
theorem dX7_back_10 : decode cX7_back 10 = .ok (.bipush (-103), 2) := by decide +kernel
theorem dX7_back_12 : decode cX7_back 12 = .ok (.goto 10, 3) := by decide +kernel
theorem dX7_back_15 : decode cX7_back 15 = .ok (.aload_n 0, 1) := by decide +kernel
theorem dX7_back_16 : decode cX7_back 16 = .ok (.getfield 29, 3) := by decide +kernel
theorem dX7_back_19 : decode cX7_back 19 = .ok (.invokevirtual 169, 3) := by decide +kernel
theorem dX7_back_22 : decode cX7_back 22 = .ok (.ireturn, 1) := by decide +kernel
theorem dX7_fewest_0 : decode cX7_fewest 0 = .ok (.iload_n 1, 1) := by decide +kernel
theorem dX7_fewest_1 : decode cX7_fewest 1 = .ok (.ifCond .lt 8, 3) := by decide +kernel
theorem dX7_fewest_4 : decode cX7_fewest 4 = .ok (.iload_n 1, 1) := by decide +kernel
theorem dX7_fewest_5 : decode cX7_fewest 5 = .ok (.iconst 2, 1) := by decide +kernel
theorem dX7_fewest_6 : decode cX7_fewest 6 = .ok (.if_icmp .le 6, 3) := by decide +kernel
theorem dX7_fewest_9 : decode cX7_fewest 9 = .ok (.bipush (-102), 2) := by decide +kernel
theorem dX7_fewest_11 : decode cX7_fewest 11 = .ok (.ireturn, 1) := by decide +kernel
theorem dX7_fewest_12 : decode cX7_fewest 12 = .ok (.aload_n 0, 1) := by decide +kernel
theorem dX7_fewest_13 : decode cX7_fewest 13 = .ok (.invokevirtual 172, 3) := by decide +kernel
theorem dX7_fewest_16 : decode cX7_fewest 16 = .ok (.ifCond .ne 6, 3) := by decide +kernel
theorem dX7_fewest_19 : decode cX7_fewest 19 = .ok (.bipush (-103), 2) := by decide +kernel
theorem dX7_fewest_21 : decode cX7_fewest 21 = .ok (.ireturn, 1) := by decide +kernel
theorem dX7_fewest_22 : decode cX7_fewest 22 = .ok (.iload_n 1, 1) := by decide +kernel
theorem dX7_fewest_23 : decode cX7_fewest 23 = .ok (.ifCond .ne 18, 3) := by decide +kernel
theorem dX7_fewest_26 : decode cX7_fewest 26 = .ok (.aload_n 0, 1) := by decide +kernel
theorem dX7_fewest_27 : decode cX7_fewest 27 = .ok (.getfield 39, 3) := by decide +kernel
theorem dX7_fewest_30 : decode cX7_fewest 30 = .ok (.aload_n 0, 1) := by decide +kernel
theorem dX7_fewest_31 : decode cX7_fewest 31 = .ok (.getfield 29, 3) := by decide +kernel
theorem dX7_fewest_34 : decode cX7_fewest 34 = .ok (.getfield 132, 3) := by decide +kernel
theorem dX7_fewest_37 : decode cX7_fewest 37 = .ok (.invokevirtual 175, 3) := by decide +kernel
theorem dX7_fewest_40 : decode cX7_fewest 40 = .ok (.ireturn, 1) := by decide +kernel
theorem dX7_fewest_41 : decode cX7_fewest 41 = .ok (.aload_n 0, 1) := by decide +kernel
theorem dX7_fewest_42 : decode cX7_fewest 42 = .ok (.invokevirtual 178, 3) := by decide +kernel
theorem dX7_fewest_45 : decode cX7_fewest 45 = .ok (.iload_n 1, 1) := by decide +kernel
theorem dX7_fewest_46 : decode cX7_fewest 46 = .ok (.iconst 1, 1) := by decide +kernel
theorem dX7_fewest_47 : decode cX7_fewest 47 = .ok (.isub, 1) := by decide +kernel
theorem dX7_fewest_48 : decode cX7_fewest 48 = .ok (.invokestatic 181, 3) := by decide +kernel
theorem dX7_fewest_51 : decode cX7_fewest 51 = .ok (.ireturn, 1) := by decide +kernel
theorem dX7_ways_0 : decode cX7_ways 0 = .ok (.aload_n 0, 1) := by decide +kernel
theorem dX7_ways_1 : decode cX7_ways 1 = .ok (.invokevirtual 172, 3) := by decide +kernel
theorem dX7_ways_4 : decode cX7_ways 4 = .ok (.ifCond .eq 20, 3) := by decide +kernel
theorem dX7_ways_7 : decode cX7_ways 7 = .ok (.aload_n 0, 1) := by decide +kernel
theorem dX7_ways_8 : decode cX7_ways 8 = .ok (.getfield 39, 3) := by decide +kernel
theorem dX7_ways_11 : decode cX7_ways 11 = .ok (.aload_n 0, 1) := by decide +kernel
theorem dX7_ways_12 : decode cX7_ways 12 = .ok (.getfield 29, 3) := by decide +kernel
theorem dX7_ways_15 : decode cX7_ways 15 = .ok (.getfield 132, 3) := by decide +kernel
theorem dX7_ways_18 : decode cX7_ways 18 = .ok (.invokevirtual 184, 3) := by decide +kernel
theorem dX7_ways_21 : decode cX7_ways 21 = .ok (.goto 5, 3) := by decide +kernel
theorem dX7_ways_24 : decode cX7_ways 24 = .ok (.bipush (-103), 2) := by decide +kernel
theorem dX7_ways_26 : decode cX7_ways 26 = .ok (.ireturn, 1) := by decide +kernel
theorem dX7_wrong_0 : decode cX7_wrong 0 = .ok (.aload_n 0, 1) := by decide +kernel
theorem dX7_wrong_1 : decode cX7_wrong 1 = .ok (.invokevirtual 172, 3) := by decide +kernel
theorem dX7_wrong_4 : decode cX7_wrong 4 = .ok (.ifCond .eq 10, 3) := by decide +kernel
theorem dX7_wrong_7 : decode cX7_wrong 7 = .ok (.aload_n 0, 1) := by decide +kernel
theorem dX7_wrong_8 : decode cX7_wrong 8 = .ok (.invokevirtual 187, 3) := by decide +kernel
theorem dX7_wrong_11 : decode cX7_wrong 11 = .ok (.goto 5, 3) := by decide +kernel
theorem dX7_wrong_14 : decode cX7_wrong 14 = .ok (.bipush (-103), 2) := by decide +kernel
theorem dX7_wrong_16 : decode cX7_wrong 16 = .ok (.ireturn, 1) := by decide +kernel
theorem dX7_ends_0 : decode cX7_ends 0 = .ok (.aload_n 0, 1) := by decide +kernel
theorem dX7_ends_1 : decode cX7_ends 1 = .ok (.invokevirtual 172, 3) := by decide +kernel
theorem dX7_ends_4 : decode cX7_ends 4 = .ok (.ifCond .ne 6, 3) := by decide +kernel
theorem dX7_ends_7 : decode cX7_ends 7 = .ok (.bipush (-103), 2) := by decide +kernel
theorem dX7_ends_9 : decode cX7_ends 9 = .ok (.ireturn, 1) := by decide +kernel
theorem dX7_ends_10 : decode cX7_ends 10 = .ok (.aload_n 0, 1) := by decide +kernel
theorem dX7_ends_11 : decode cX7_ends 11 = .ok (.getfield 43, 3) := by decide +kernel
theorem dX7_ends_14 : decode cX7_ends 14 = .ok (.aload_n 0, 1) := by decide +kernel
theorem dX7_ends_15 : decode cX7_ends 15 = .ok (.getfield 19, 3) := by decide +kernel
theorem dX7_ends_18 : decode cX7_ends 18 = .ok (.aload_n 0, 1) := by decide +kernel
theorem dX7_ends_19 : decode cX7_ends 19 = .ok (.getfield 29, 3) := by decide +kernel
theorem dX7_ends_22 : decode cX7_ends 22 = .ok (.getfield 132, 3) := by decide +kernel
theorem dX7_ends_25 : decode cX7_ends 25 = .ok (.iconst 1, 1) := by decide +kernel
theorem dX7_ends_26 : decode cX7_ends 26 = .ok (.iconst (-1), 1) := by decide +kernel
theorem dX7_ends_27 : decode cX7_ends 27 = .ok (.invokevirtual 114, 3) := by decide +kernel
theorem dX7_ends_30 : decode cX7_ends 30 = .ok (.pop, 1) := by decide +kernel
theorem dX7_ends_31 : decode cX7_ends 31 = .ok (.aload_n 0, 1) := by decide +kernel
theorem dX7_ends_32 : decode cX7_ends 32 = .ok (.getfield 43, 3) := by decide +kernel
theorem dX7_ends_35 : decode cX7_ends 35 = .ok (.getfield 190, 3) := by decide +kernel
theorem dX7_ends_38 : decode cX7_ends 38 = .ok (.ireturn, 1) := by decide +kernel
theorem dX7_soon_0 : decode cX7_soon 0 = .ok (.aload_n 0, 1) := by decide +kernel
theorem dX7_soon_1 : decode cX7_soon 1 = .ok (.invokevirtual 172, 3) := by decide +kernel
theorem dX7_soon_4 : decode cX7_soon 4 = .ok (.ifCond .ne 6, 3) := by decide +kernel
theorem dX7_soon_7 : decode cX7_soon 7 = .ok (.bipush (-103), 2) := by decide +kernel
theorem dX7_soon_9 : decode cX7_soon 9 = .ok (.ireturn, 1) := by decide +kernel
theorem dX7_soon_10 : decode cX7_soon 10 = .ok (.aload_n 0, 1) := by decide +kernel
theorem dX7_soon_11 : decode cX7_soon 11 = .ok (.getfield 43, 3) := by decide +kernel
theorem dX7_soon_14 : decode cX7_soon 14 = .ok (.aload_n 0, 1) := by decide +kernel
theorem dX7_soon_15 : decode cX7_soon 15 = .ok (.getfield 19, 3) := by decide +kernel
theorem dX7_soon_18 : decode cX7_soon 18 = .ok (.aload_n 0, 1) := by decide +kernel
theorem dX7_soon_19 : decode cX7_soon 19 = .ok (.getfield 29, 3) := by decide +kernel
theorem dX7_soon_22 : decode cX7_soon 22 = .ok (.getfield 132, 3) := by decide +kernel
theorem dX7_soon_25 : decode cX7_soon 25 = .ok (.iconst 1, 1) := by decide +kernel
theorem dX7_soon_26 : decode cX7_soon 26 = .ok (.iconst (-1), 1) := by decide +kernel
theorem dX7_soon_27 : decode cX7_soon 27 = .ok (.invokevirtual 114, 3) := by decide +kernel
theorem dX7_soon_30 : decode cX7_soon 30 = .ok (.pop, 1) := by decide +kernel
theorem dX7_soon_31 : decode cX7_soon 31 = .ok (.aload_n 0, 1) := by decide +kernel
theorem dX7_soon_32 : decode cX7_soon 32 = .ok (.getfield 43, 3) := by decide +kernel
theorem dX7_soon_35 : decode cX7_soon 35 = .ok (.getfield 193, 3) := by decide +kernel
theorem dX7_soon_38 : decode cX7_soon 38 = .ok (.ireturn, 1) := by decide +kernel
theorem dX7_comes_0 : decode cX7_comes 0 = .ok (.aload_n 0, 1) := by decide +kernel
theorem dX7_comes_1 : decode cX7_comes 1 = .ok (.invokevirtual 172, 3) := by decide +kernel
theorem dX7_comes_4 : decode cX7_comes 4 = .ok (.ifCond .eq 20, 3) := by decide +kernel
theorem dX7_comes_7 : decode cX7_comes 7 = .ok (.aload_n 0, 1) := by decide +kernel
theorem dX7_comes_8 : decode cX7_comes 8 = .ok (.getfield 10, 3) := by decide +kernel
theorem dX7_comes_11 : decode cX7_comes 11 = .ok (.aload_n 0, 1) := by decide +kernel
theorem dX7_comes_12 : decode cX7_comes 12 = .ok (.getfield 19, 3) := by decide +kernel
theorem dX7_comes_15 : decode cX7_comes 15 = .ok (.getfield 89, 3) := by decide +kernel
theorem dX7_comes_18 : decode cX7_comes 18 = .ok (.invokevirtual 196, 3) := by decide +kernel
theorem dX7_comes_21 : decode cX7_comes 21 = .ok (.ifCond .ne 6, 3) := by decide +kernel
theorem dX7_comes_24 : decode cX7_comes 24 = .ok (.bipush (-103), 2) := by decide +kernel
theorem dX7_comes_26 : decode cX7_comes 26 = .ok (.ireturn, 1) := by decide +kernel
theorem dX7_comes_27 : decode cX7_comes 27 = .ok (.aload_n 0, 1) := by decide +kernel
theorem dX7_comes_28 : decode cX7_comes 28 = .ok (.getfield 43, 3) := by decide +kernel
theorem dX7_comes_31 : decode cX7_comes 31 = .ok (.aload_n 0, 1) := by decide +kernel
theorem dX7_comes_32 : decode cX7_comes 32 = .ok (.getfield 19, 3) := by decide +kernel
theorem dX7_comes_35 : decode cX7_comes 35 = .ok (.aload_n 0, 1) := by decide +kernel
theorem dX7_comes_36 : decode cX7_comes 36 = .ok (.getfield 29, 3) := by decide +kernel
theorem dX7_comes_39 : decode cX7_comes 39 = .ok (.getfield 132, 3) := by decide +kernel
theorem dX7_comes_42 : decode cX7_comes 42 = .ok (.iconst 1, 1) := by decide +kernel
theorem dX7_comes_43 : decode cX7_comes 43 = .ok (.aload_n 0, 1) := by decide +kernel
theorem dX7_comes_44 : decode cX7_comes 44 = .ok (.getfield 10, 3) := by decide +kernel
theorem dX7_comes_47 : decode cX7_comes 47 = .ok (.invokevirtual 83, 3) := by decide +kernel
theorem dX7_comes_50 : decode cX7_comes 50 = .ok (.invokevirtual 114, 3) := by decide +kernel
theorem dX7_comes_53 : decode cX7_comes 53 = .ok (.ireturn, 1) := by decide +kernel
theorem dX7_more_0 : decode cX7_more 0 = .ok (.iload_n 1, 1) := by decide +kernel
theorem dX7_more_1 : decode cX7_more 1 = .ok (.ifCond .lt 8, 3) := by decide +kernel
theorem dX7_more_4 : decode cX7_more 4 = .ok (.iload_n 1, 1) := by decide +kernel
theorem dX7_more_5 : decode cX7_more 5 = .ok (.iconst 1, 1) := by decide +kernel
theorem dX7_more_6 : decode cX7_more 6 = .ok (.if_icmp .le 6, 3) := by decide +kernel
theorem dX7_more_9 : decode cX7_more 9 = .ok (.bipush (-102), 2) := by decide +kernel
theorem dX7_more_11 : decode cX7_more 11 = .ok (.ireturn, 1) := by decide +kernel
theorem dX7_more_12 : decode cX7_more 12 = .ok (.aload_n 0, 1) := by decide +kernel
theorem dX7_more_13 : decode cX7_more 13 = .ok (.invokevirtual 172, 3) := by decide +kernel
theorem dX7_more_16 : decode cX7_more 16 = .ok (.ifCond .eq 15, 3) := by decide +kernel
theorem dX7_more_19 : decode cX7_more 19 = .ok (.aload_n 0, 1) := by decide +kernel
theorem dX7_more_20 : decode cX7_more 20 = .ok (.getfield 19, 3) := by decide +kernel
theorem dX7_more_23 : decode cX7_more 23 = .ok (.getfield 89, 3) := by decide +kernel
theorem dX7_more_26 : decode cX7_more 26 = .ok (.bipush 7, 2) := by decide +kernel
theorem dX7_more_28 : decode cX7_more 28 = .ok (.if_icmp .lt 6, 3) := by decide +kernel
theorem dX7_more_31 : decode cX7_more 31 = .ok (.bipush (-103), 2) := by decide +kernel
theorem dX7_more_33 : decode cX7_more 33 = .ok (.ireturn, 1) := by decide +kernel
theorem dX7_more_34 : decode cX7_more 34 = .ok (.aload_n 0, 1) := by decide +kernel
theorem dX7_more_35 : decode cX7_more 35 = .ok (.getfield 23, 3) := by decide +kernel
theorem dX7_more_38 : decode cX7_more 38 = .ok (.aload_n 0, 1) := by decide +kernel
theorem dX7_more_39 : decode cX7_more 39 = .ok (.getfield 19, 3) := by decide +kernel
theorem dX7_more_42 : decode cX7_more 42 = .ok (.getfield 89, 3) := by decide +kernel
theorem dX7_more_45 : decode cX7_more 45 = .ok (.iconst 1, 1) := by decide +kernel
theorem dX7_more_46 : decode cX7_more 46 = .ok (.iadd, 1) := by decide +kernel
theorem dX7_more_47 : decode cX7_more 47 = .ok (.aload_n 0, 1) := by decide +kernel
theorem dX7_more_48 : decode cX7_more 48 = .ok (.getfield 19, 3) := by decide +kernel
theorem dX7_more_51 : decode cX7_more 51 = .ok (.getfield 199, 3) := by decide +kernel
theorem dX7_more_54 : decode cX7_more 54 = .ok (.invokevirtual 79, 3) := by decide +kernel
theorem dX7_more_57 : decode cX7_more 57 = .ok (.iconst (-1), 1) := by decide +kernel
theorem dX7_more_58 : decode cX7_more 58 = .ok (.istore_n 2, 1) := by decide +kernel
theorem dX7_more_59 : decode cX7_more 59 = .ok (.iconst (-1), 1) := by decide +kernel
theorem dX7_more_60 : decode cX7_more 60 = .ok (.istore_n 3, 1) := by decide +kernel
theorem dX7_more_61 : decode cX7_more 61 = .ok (.iconst 0, 1) := by decide +kernel
theorem dX7_more_62 : decode cX7_more 62 = .ok (.istore 4, 2) := by decide +kernel
theorem dX7_more_64 : decode cX7_more 64 = .ok (.iload 4, 2) := by decide +kernel
theorem dX7_more_66 : decode cX7_more 66 = .ok (.aload_n 0, 1) := by decide +kernel
theorem dX7_more_67 : decode cX7_more 67 = .ok (.getfield 19, 3) := by decide +kernel
theorem dX7_more_70 : decode cX7_more 70 = .ok (.getfield 89, 3) := by decide +kernel
theorem dX7_more_73 : decode cX7_more 73 = .ok (.if_icmp .gt 43, 3) := by decide +kernel
theorem dX7_more_76 : decode cX7_more 76 = .ok (.aload_n 0, 1) := by decide +kernel
theorem dX7_more_77 : decode cX7_more 77 = .ok (.aload_n 0, 1) := by decide +kernel
theorem dX7_more_78 : decode cX7_more 78 = .ok (.getfield 23, 3) := by decide +kernel
theorem dX7_more_81 : decode cX7_more 81 = .ok (.aload_n 0, 1) := by decide +kernel
theorem dX7_more_82 : decode cX7_more 82 = .ok (.getfield 86, 3) := by decide +kernel
theorem dX7_more_85 : decode cX7_more 85 = .ok (.iload 4, 2) := by decide +kernel
theorem dX7_more_87 : decode cX7_more 87 = .ok (.invokestatic 201, 3) := by decide +kernel
theorem dX7_more_90 : decode cX7_more 90 = .ok (.invokevirtual 204, 3) := by decide +kernel
theorem dX7_more_93 : decode cX7_more 93 = .ok (.istore 5, 2) := by decide +kernel
theorem dX7_more_95 : decode cX7_more 95 = .ok (.iload 5, 2) := by decide +kernel
theorem dX7_more_97 : decode cX7_more 97 = .ok (.iload_n 3, 1) := by decide +kernel
theorem dX7_more_98 : decode cX7_more 98 = .ok (.invokestatic 208, 3) := by decide +kernel
theorem dX7_more_101 : decode cX7_more 101 = .ok (.ifCond .eq 9, 3) := by decide +kernel
theorem dX7_more_104 : decode cX7_more 104 = .ok (.iload 4, 2) := by decide +kernel
theorem dX7_more_106 : decode cX7_more 106 = .ok (.istore_n 2, 1) := by decide +kernel
theorem dX7_more_107 : decode cX7_more 107 = .ok (.iload 5, 2) := by decide +kernel
theorem dX7_more_109 : decode cX7_more 109 = .ok (.istore_n 3, 1) := by decide +kernel
theorem dX7_more_110 : decode cX7_more 110 = .ok (.iinc 4 1, 3) := by decide +kernel
theorem dX7_more_113 : decode cX7_more 113 = .ok (.goto (-49), 3) := by decide +kernel
theorem dX7_more_116 : decode cX7_more 116 = .ok (.iload_n 1, 1) := by decide +kernel
theorem dX7_more_117 : decode cX7_more 117 = .ok (.ifCond .ne 7, 3) := by decide +kernel
theorem dX7_more_120 : decode cX7_more 120 = .ok (.iload_n 2, 1) := by decide +kernel
theorem dX7_more_121 : decode cX7_more 121 = .ok (.goto 4, 3) := by decide +kernel
theorem dX7_more_124 : decode cX7_more 124 = .ok (.iload_n 3, 1) := by decide +kernel
theorem dX7_more_125 : decode cX7_more 125 = .ok (.ireturn, 1) := by decide +kernel
theorem dX7_off_0 : decode cX7_off 0 = .ok (.iload_n 1, 1) := by decide +kernel
theorem dX7_off_1 : decode cX7_off 1 = .ok (.ifCond .lt 8, 3) := by decide +kernel
theorem dX7_off_4 : decode cX7_off 4 = .ok (.iload_n 1, 1) := by decide +kernel
theorem dX7_off_5 : decode cX7_off 5 = .ok (.iconst 1, 1) := by decide +kernel
theorem dX7_off_6 : decode cX7_off 6 = .ok (.if_icmp .le 6, 3) := by decide +kernel
theorem dX7_off_9 : decode cX7_off 9 = .ok (.bipush (-102), 2) := by decide +kernel
theorem dX7_off_11 : decode cX7_off 11 = .ok (.ireturn, 1) := by decide +kernel
theorem dX7_off_12 : decode cX7_off 12 = .ok (.aload_n 0, 1) := by decide +kernel
theorem dX7_off_13 : decode cX7_off 13 = .ok (.invokevirtual 172, 3) := by decide +kernel
theorem dX7_off_16 : decode cX7_off 16 = .ok (.ifCond .ne 6, 3) := by decide +kernel
theorem dX7_off_19 : decode cX7_off 19 = .ok (.bipush (-103), 2) := by decide +kernel
theorem dX7_off_21 : decode cX7_off 21 = .ok (.ireturn, 1) := by decide +kernel
theorem dX7_off_22 : decode cX7_off 22 = .ok (.aload_n 0, 1) := by decide +kernel
theorem dX7_off_23 : decode cX7_off 23 = .ok (.getfield 86, 3) := by decide +kernel
theorem dX7_off_26 : decode cX7_off 26 = .ok (.invokestatic 107, 3) := by decide +kernel
theorem dX7_off_29 : decode cX7_off 29 = .ok (.istore_n 2, 1) := by decide +kernel
theorem dX7_off_30 : decode cX7_off 30 = .ok (.iconst (-1), 1) := by decide +kernel
theorem dX7_off_31 : decode cX7_off 31 = .ok (.istore_n 3, 1) := by decide +kernel
theorem dX7_off_32 : decode cX7_off 32 = .ok (.iconst (-1), 1) := by decide +kernel
theorem dX7_off_33 : decode cX7_off 33 = .ok (.istore 4, 2) := by decide +kernel
theorem dX7_off_35 : decode cX7_off 35 = .ok (.iconst 0, 1) := by decide +kernel
theorem dX7_off_36 : decode cX7_off 36 = .ok (.istore 5, 2) := by decide +kernel
theorem dX7_off_38 : decode cX7_off 38 = .ok (.iload 5, 2) := by decide +kernel
theorem dX7_off_40 : decode cX7_off 40 = .ok (.aload_n 0, 1) := by decide +kernel
theorem dX7_off_41 : decode cX7_off 41 = .ok (.getfield 19, 3) := by decide +kernel
theorem dX7_off_44 : decode cX7_off 44 = .ok (.getfield 89, 3) := by decide +kernel
theorem dX7_off_47 : decode cX7_off 47 = .ok (.if_icmp .ge 64, 3) := by decide +kernel
theorem dX7_off_50 : decode cX7_off 50 = .ok (.iload_n 2, 1) := by decide +kernel
theorem dX7_off_51 : decode cX7_off 51 = .ok (.iload 5, 2) := by decide +kernel
theorem dX7_off_53 : decode cX7_off 53 = .ok (.invokestatic 134, 3) := by decide +kernel
theorem dX7_off_56 : decode cX7_off 56 = .ok (.iconst 1, 1) := by decide +kernel
theorem dX7_off_57 : decode cX7_off 57 = .ok (.isub, 1) := by decide +kernel
theorem dX7_off_58 : decode cX7_off 58 = .ok (.istore 6, 2) := by decide +kernel
theorem dX7_off_60 : decode cX7_off 60 = .ok (.iload 6, 2) := by decide +kernel
theorem dX7_off_62 : decode cX7_off 62 = .ok (.iconst (-1), 1) := by decide +kernel
theorem dX7_off_63 : decode cX7_off 63 = .ok (.if_icmp .ne 6, 3) := by decide +kernel
theorem dX7_off_66 : decode cX7_off 66 = .ok (.goto 39, 3) := by decide +kernel
theorem dX7_off_69 : decode cX7_off 69 = .ok (.aload_n 0, 1) := by decide +kernel
theorem dX7_off_70 : decode cX7_off 70 = .ok (.aload_n 0, 1) := by decide +kernel
theorem dX7_off_71 : decode cX7_off 71 = .ok (.getfield 19, 3) := by decide +kernel
theorem dX7_off_74 : decode cX7_off 74 = .ok (.aload_n 0, 1) := by decide +kernel
theorem dX7_off_75 : decode cX7_off 75 = .ok (.getfield 86, 3) := by decide +kernel
theorem dX7_off_78 : decode cX7_off 78 = .ok (.iload 5, 2) := by decide +kernel
theorem dX7_off_80 : decode cX7_off 80 = .ok (.invokestatic 212, 3) := by decide +kernel
theorem dX7_off_83 : decode cX7_off 83 = .ok (.invokevirtual 204, 3) := by decide +kernel
theorem dX7_off_86 : decode cX7_off 86 = .ok (.istore 7, 2) := by decide +kernel
theorem dX7_off_88 : decode cX7_off 88 = .ok (.iload 7, 2) := by decide +kernel
theorem dX7_off_90 : decode cX7_off 90 = .ok (.iload 4, 2) := by decide +kernel
theorem dX7_off_92 : decode cX7_off 92 = .ok (.invokestatic 208, 3) := by decide +kernel
theorem dX7_off_95 : decode cX7_off 95 = .ok (.ifCond .eq 10, 3) := by decide +kernel
theorem dX7_off_98 : decode cX7_off 98 = .ok (.iload 6, 2) := by decide +kernel
theorem dX7_off_100 : decode cX7_off 100 = .ok (.istore_n 3, 1) := by decide +kernel
theorem dX7_off_101 : decode cX7_off 101 = .ok (.iload 7, 2) := by decide +kernel
theorem dX7_off_103 : decode cX7_off 103 = .ok (.istore 4, 2) := by decide +kernel
theorem dX7_off_105 : decode cX7_off 105 = .ok (.iinc 5 1, 3) := by decide +kernel
theorem dX7_off_108 : decode cX7_off 108 = .ok (.goto (-70), 3) := by decide +kernel
theorem dX7_off_111 : decode cX7_off 111 = .ok (.iload_n 1, 1) := by decide +kernel
theorem dX7_off_112 : decode cX7_off 112 = .ok (.ifCond .ne 7, 3) := by decide +kernel
theorem dX7_off_115 : decode cX7_off 115 = .ok (.iload_n 3, 1) := by decide +kernel
theorem dX7_off_116 : decode cX7_off 116 = .ok (.goto 5, 3) := by decide +kernel
theorem dX7_off_119 : decode cX7_off 119 = .ok (.iload 4, 2) := by decide +kernel
theorem dX7_off_121 : decode cX7_off 121 = .ok (.ireturn, 1) := by decide +kernel
theorem dX7_wins_0 : decode cX7_wins 0 = .ok (.iload_n 1, 1) := by decide +kernel
theorem dX7_wins_1 : decode cX7_wins 1 = .ok (.ifCond .lt 8, 3) := by decide +kernel
theorem dX7_wins_4 : decode cX7_wins 4 = .ok (.iload_n 1, 1) := by decide +kernel
theorem dX7_wins_5 : decode cX7_wins 5 = .ok (.iconst 1, 1) := by decide +kernel
theorem dX7_wins_6 : decode cX7_wins 6 = .ok (.if_icmp .le 6, 3) := by decide +kernel
theorem dX7_wins_9 : decode cX7_wins 9 = .ok (.bipush (-102), 2) := by decide +kernel
theorem dX7_wins_11 : decode cX7_wins 11 = .ok (.ireturn, 1) := by decide +kernel
theorem dX7_wins_12 : decode cX7_wins 12 = .ok (.aload_n 0, 1) := by decide +kernel
theorem dX7_wins_13 : decode cX7_wins 13 = .ok (.invokevirtual 215, 3) := by decide +kernel
theorem dX7_wins_16 : decode cX7_wins 16 = .ok (.ifCond .ne 6, 3) := by decide +kernel
theorem dX7_wins_19 : decode cX7_wins 19 = .ok (.bipush (-103), 2) := by decide +kernel
theorem dX7_wins_21 : decode cX7_wins 21 = .ok (.ireturn, 1) := by decide +kernel
theorem dX7_wins_22 : decode cX7_wins 22 = .ok (.aload_n 0, 1) := by decide +kernel
theorem dX7_wins_23 : decode cX7_wins 23 = .ok (.getfield 49, 3) := by decide +kernel
theorem dX7_wins_26 : decode cX7_wins 26 = .ok (.aload_n 0, 1) := by decide +kernel
theorem dX7_wins_27 : decode cX7_wins 27 = .ok (.getfield 19, 3) := by decide +kernel
theorem dX7_wins_30 : decode cX7_wins 30 = .ok (.aload_n 0, 1) := by decide +kernel
theorem dX7_wins_31 : decode cX7_wins 31 = .ok (.getfield 29, 3) := by decide +kernel
theorem dX7_wins_34 : decode cX7_wins 34 = .ok (.getfield 132, 3) := by decide +kernel
theorem dX7_wins_37 : decode cX7_wins 37 = .ok (.iload_n 1, 1) := by decide +kernel
theorem dX7_wins_38 : decode cX7_wins 38 = .ok (.iconst 0, 1) := by decide +kernel
theorem dX7_wins_39 : decode cX7_wins 39 = .ok (.invokevirtual 218, 3) := by decide +kernel
theorem dX7_wins_42 : decode cX7_wins 42 = .ok (.ifCond .eq 7, 3) := by decide +kernel
theorem dX7_wins_45 : decode cX7_wins 45 = .ok (.iconst 1, 1) := by decide +kernel
theorem dX7_wins_46 : decode cX7_wins 46 = .ok (.goto 4, 3) := by decide +kernel
theorem dX7_wins_49 : decode cX7_wins 49 = .ok (.iconst 0, 1) := by decide +kernel
theorem dX7_wins_50 : decode cX7_wins 50 = .ok (.ireturn, 1) := by decide +kernel
theorem dX7_by_0 : decode cX7_by 0 = .ok (.iload_n 1, 1) := by decide +kernel
theorem dX7_by_1 : decode cX7_by 1 = .ok (.ifCond .lt 17, 3) := by decide +kernel
theorem dX7_by_4 : decode cX7_by 4 = .ok (.iload_n 1, 1) := by decide +kernel
theorem dX7_by_5 : decode cX7_by 5 = .ok (.iconst 1, 1) := by decide +kernel
theorem dX7_by_6 : decode cX7_by 6 = .ok (.if_icmp .gt 12, 3) := by decide +kernel
theorem dX7_by_9 : decode cX7_by 9 = .ok (.iload_n 2, 1) := by decide +kernel
theorem dX7_by_10 : decode cX7_by 10 = .ok (.ifCond .lt 8, 3) := by decide +kernel
theorem dX7_by_13 : decode cX7_by 13 = .ok (.iload_n 2, 1) := by decide +kernel
theorem dX7_by_14 : decode cX7_by 14 = .ok (.iconst 1, 1) := by decide +kernel
theorem dX7_by_15 : decode cX7_by 15 = .ok (.if_icmp .le 6, 3) := by decide +kernel
theorem dX7_by_18 : decode cX7_by 18 = .ok (.bipush (-102), 2) := by decide +kernel
theorem dX7_by_20 : decode cX7_by 20 = .ok (.ireturn, 1) := by decide +kernel
theorem dX7_by_21 : decode cX7_by 21 = .ok (.aload_n 0, 1) := by decide +kernel
theorem dX7_by_22 : decode cX7_by 22 = .ok (.invokevirtual 215, 3) := by decide +kernel
theorem dX7_by_25 : decode cX7_by 25 = .ok (.ifCond .ne 6, 3) := by decide +kernel
theorem dX7_by_28 : decode cX7_by 28 = .ok (.bipush (-103), 2) := by decide +kernel
theorem dX7_by_30 : decode cX7_by 30 = .ok (.ireturn, 1) := by decide +kernel
theorem dX7_by_31 : decode cX7_by 31 = .ok (.aload_n 0, 1) := by decide +kernel
theorem dX7_by_32 : decode cX7_by 32 = .ok (.getfield 49, 3) := by decide +kernel
theorem dX7_by_35 : decode cX7_by 35 = .ok (.aload_n 0, 1) := by decide +kernel
theorem dX7_by_36 : decode cX7_by 36 = .ok (.getfield 19, 3) := by decide +kernel
theorem dX7_by_39 : decode cX7_by 39 = .ok (.aload_n 0, 1) := by decide +kernel
theorem dX7_by_40 : decode cX7_by 40 = .ok (.getfield 29, 3) := by decide +kernel
theorem dX7_by_43 : decode cX7_by 43 = .ok (.getfield 132, 3) := by decide +kernel
theorem dX7_by_46 : decode cX7_by 46 = .ok (.iload_n 1, 1) := by decide +kernel
theorem dX7_by_47 : decode cX7_by 47 = .ok (.iconst 0, 1) := by decide +kernel
theorem dX7_by_48 : decode cX7_by 48 = .ok (.invokevirtual 222, 3) := by decide +kernel
theorem dX7_by_51 : decode cX7_by 51 = .ok (.iload_n 2, 1) := by decide +kernel
theorem dX7_by_52 : decode cX7_by 52 = .ok (.invokestatic 181, 3) := by decide +kernel
theorem dX7_by_55 : decode cX7_by 55 = .ok (.ireturn, 1) := by decide +kernel
theorem dX7_play_0 : decode cX7_play 0 = .ok (.iload_n 1, 1) := by decide +kernel
theorem dX7_play_1 : decode cX7_play 1 = .ok (.iconst 1, 1) := by decide +kernel
theorem dX7_play_2 : decode cX7_play 2 = .ok (.if_icmp .lt 22, 3) := by decide +kernel
theorem dX7_play_5 : decode cX7_play 5 = .ok (.iload_n 1, 1) := by decide +kernel
theorem dX7_play_6 : decode cX7_play 6 = .ok (.bipush 60, 2) := by decide +kernel
theorem dX7_play_8 : decode cX7_play 8 = .ok (.if_icmp .gt 16, 3) := by decide +kernel
theorem dX7_play_11 : decode cX7_play 11 = .ok (.iload_n 2, 1) := by decide +kernel
theorem dX7_play_12 : decode cX7_play 12 = .ok (.ifCond .lt 12, 3) := by decide +kernel
theorem dX7_play_15 : decode cX7_play 15 = .ok (.iload_n 3, 1) := by decide +kernel
theorem dX7_play_16 : decode cX7_play 16 = .ok (.ifCond .lt 8, 3) := by decide +kernel
theorem dX7_play_19 : decode cX7_play 19 = .ok (.iload_n 3, 1) := by decide +kernel
theorem dX7_play_20 : decode cX7_play 20 = .ok (.iconst 2, 1) := by decide +kernel
theorem dX7_play_21 : decode cX7_play 21 = .ok (.if_icmp .le 6, 3) := by decide +kernel
theorem dX7_play_24 : decode cX7_play 24 = .ok (.bipush (-102), 2) := by decide +kernel
theorem dX7_play_26 : decode cX7_play 26 = .ok (.ireturn, 1) := by decide +kernel
theorem dX7_play_27 : decode cX7_play 27 = .ok (.aload_n 0, 1) := by decide +kernel
theorem dX7_play_28 : decode cX7_play 28 = .ok (.invokevirtual 172, 3) := by decide +kernel
theorem dX7_play_31 : decode cX7_play 31 = .ok (.ifCond .ne 6, 3) := by decide +kernel
theorem dX7_play_34 : decode cX7_play 34 = .ok (.bipush (-103), 2) := by decide +kernel
theorem dX7_play_36 : decode cX7_play 36 = .ok (.ireturn, 1) := by decide +kernel
theorem dX7_play_37 : decode cX7_play 37 = .ok (.aload_n 0, 1) := by decide +kernel
theorem dX7_play_38 : decode cX7_play 38 = .ok (.getfield 29, 3) := by decide +kernel
theorem dX7_play_41 : decode cX7_play 41 = .ok (.getfield 132, 3) := by decide +kernel
theorem dX7_play_44 : decode cX7_play 44 = .ok (.istore 4, 2) := by decide +kernel
theorem dX7_play_46 : decode cX7_play 46 = .ok (.iload_n 2, 1) := by decide +kernel
theorem dX7_play_47 : decode cX7_play 47 = .ok (.istore 5, 2) := by decide +kernel
theorem dX7_play_49 : decode cX7_play 49 = .ok (.iconst 0, 1) := by decide +kernel
theorem dX7_play_50 : decode cX7_play 50 = .ok (.istore 6, 2) := by decide +kernel
theorem dX7_play_52 : decode cX7_play 52 = .ok (.iconst 0, 1) := by decide +kernel
theorem dX7_play_53 : decode cX7_play 53 = .ok (.istore 7, 2) := by decide +kernel
theorem dX7_play_55 : decode cX7_play 55 = .ok (.iload 7, 2) := by decide +kernel
theorem dX7_play_57 : decode cX7_play 57 = .ok (.iload_n 1, 1) := by decide +kernel
theorem dX7_play_58 : decode cX7_play 58 = .ok (.if_icmp .ge 63, 3) := by decide +kernel
theorem dX7_play_61 : decode cX7_play 61 = .ok (.aload_n 0, 1) := by decide +kernel
theorem dX7_play_62 : decode cX7_play 62 = .ok (.getfield 19, 3) := by decide +kernel
theorem dX7_play_65 : decode cX7_play 65 = .ok (.iload 4, 2) := by decide +kernel
theorem dX7_play_67 : decode cX7_play 67 = .ok (.iconst 1, 1) := by decide +kernel
theorem dX7_play_68 : decode cX7_play 68 = .ok (.invokevirtual 156, 3) := by decide +kernel
theorem dX7_play_71 : decode cX7_play 71 = .ok (.lstore 8, 2) := by decide +kernel
theorem dX7_play_73 : decode cX7_play 73 = .ok (.lload 8, 2) := by decide +kernel
theorem dX7_play_75 : decode cX7_play 75 = .ok (.lconst 0, 1) := by decide +kernel
theorem dX7_play_76 : decode cX7_play 76 = .ok (.lcmp, 1) := by decide +kernel
theorem dX7_play_77 : decode cX7_play 77 = .ok (.ifCond .ne 6, 3) := by decide +kernel
theorem dX7_play_80 : decode cX7_play 80 = .ok (.goto 41, 3) := by decide +kernel
theorem dX7_play_83 : decode cX7_play 83 = .ok (.iload 5, 2) := by decide +kernel
theorem dX7_play_85 : decode cX7_play 85 = .ok (.invokestatic 225, 3) := by decide +kernel
theorem dX7_play_88 : decode cX7_play 88 = .ok (.istore 5, 2) := by decide +kernel
theorem dX7_play_90 : decode cX7_play 90 = .ok (.iload 4, 2) := by decide +kernel
theorem dX7_play_92 : decode cX7_play 92 = .ok (.lload 8, 2) := by decide +kernel
theorem dX7_play_94 : decode cX7_play 94 = .ok (.iload 5, 2) := by decide +kernel
theorem dX7_play_96 : decode cX7_play 96 = .ok (.lload 8, 2) := by decide +kernel
theorem dX7_play_98 : decode cX7_play 98 = .ok (.invokestatic 160, 3) := by decide +kernel
theorem dX7_play_101 : decode cX7_play 101 = .ok (.invokestatic 228, 3) := by decide +kernel
theorem dX7_play_104 : decode cX7_play 104 = .ok (.invokestatic 231, 3) := by decide +kernel
theorem dX7_play_107 : decode cX7_play 107 = .ok (.invokestatic 235, 3) := by decide +kernel
theorem dX7_play_110 : decode cX7_play 110 = .ok (.istore 4, 2) := by decide +kernel
theorem dX7_play_112 : decode cX7_play 112 = .ok (.iinc 6 1, 3) := by decide +kernel
theorem dX7_play_115 : decode cX7_play 115 = .ok (.iinc 7 1, 3) := by decide +kernel
theorem dX7_play_118 : decode cX7_play 118 = .ok (.goto (-63), 3) := by decide +kernel
theorem dX7_play_121 : decode cX7_play 121 = .ok (.iload_n 3, 1) := by decide +kernel
theorem dX7_play_122 : decode cX7_play 122 = .ok (.ifCond .ne 6, 3) := by decide +kernel
theorem dX7_play_125 : decode cX7_play 125 = .ok (.iload 6, 2) := by decide +kernel
theorem dX7_play_127 : decode cX7_play 127 = .ok (.ireturn, 1) := by decide +kernel
theorem dX7_play_128 : decode cX7_play 128 = .ok (.iload_n 3, 1) := by decide +kernel
theorem dX7_play_129 : decode cX7_play 129 = .ok (.iconst 2, 1) := by decide +kernel
theorem dX7_play_130 : decode cX7_play 130 = .ok (.if_icmp .ne 8, 3) := by decide +kernel
theorem dX7_play_133 : decode cX7_play 133 = .ok (.iload 5, 2) := by decide +kernel
theorem dX7_play_135 : decode cX7_play 135 = .ok (.goto 17, 3) := by decide +kernel
theorem dX7_play_138 : decode cX7_play 138 = .ok (.iload 4, 2) := by decide +kernel
theorem dX7_play_140 : decode cX7_play 140 = .ok (.aload_n 0, 1) := by decide +kernel
theorem dX7_play_141 : decode cX7_play 141 = .ok (.getfield 98, 3) := by decide +kernel
theorem dX7_play_144 : decode cX7_play 144 = .ok (.if_icmp .ne 7, 3) := by decide +kernel
theorem dX7_play_147 : decode cX7_play 147 = .ok (.iconst 1, 1) := by decide +kernel
theorem dX7_play_148 : decode cX7_play 148 = .ok (.goto 4, 3) := by decide +kernel
theorem dX7_play_151 : decode cX7_play 151 = .ok (.iconst 0, 1) := by decide +kernel
theorem dX7_play_152 : decode cX7_play 152 = .ok (.ireturn, 1) := by decide +kernel
theorem dX7_image_0 : decode cX7_image 0 = .ok (.aload_n 0, 1) := by decide +kernel
theorem dX7_image_1 : decode cX7_image 1 = .ok (.invokevirtual 172, 3) := by decide +kernel
theorem dX7_image_4 : decode cX7_image 4 = .ok (.ifCond .ne 6, 3) := by decide +kernel
theorem dX7_image_7 : decode cX7_image 7 = .ok (.bipush (-103), 2) := by decide +kernel
theorem dX7_image_9 : decode cX7_image 9 = .ok (.ireturn, 1) := by decide +kernel
theorem dX7_image_10 : decode cX7_image 10 = .ok (.aload_n 0, 1) := by decide +kernel
theorem dX7_image_11 : decode cX7_image 11 = .ok (.getfield 33, 3) := by decide +kernel
theorem dX7_image_14 : decode cX7_image 14 = .ok (.aload_n 0, 1) := by decide +kernel
theorem dX7_image_15 : decode cX7_image 15 = .ok (.getfield 29, 3) := by decide +kernel
theorem dX7_image_18 : decode cX7_image 18 = .ok (.invokevirtual 238, 3) := by decide +kernel
theorem dX7_image_21 : decode cX7_image 21 = .ok (.aload_n 0, 1) := by decide +kernel
theorem dX7_image_22 : decode cX7_image 22 = .ok (.iconst 1, 1) := by decide +kernel
theorem dX7_image_23 : decode cX7_image 23 = .ok (.putfield 121, 3) := by decide +kernel
theorem dX7_image_26 : decode cX7_image 26 = .ok (.aload_n 0, 1) := by decide +kernel
theorem dX7_image_27 : decode cX7_image 27 = .ok (.getfield 33, 3) := by decide +kernel
theorem dX7_image_30 : decode cX7_image 30 = .ok (.getfield 165, 3) := by decide +kernel
theorem dX7_image_33 : decode cX7_image 33 = .ok (.ireturn, 1) := by decide +kernel
theorem dX7_restore_0 : decode cX7_restore 0 = .ok (.aload_n 0, 1) := by decide +kernel
theorem dX7_restore_1 : decode cX7_restore 1 = .ok (.getfield 121, 3) := by decide +kernel
theorem dX7_restore_4 : decode cX7_restore 4 = .ok (.ifCond .ne 6, 3) := by decide +kernel
theorem dX7_restore_7 : decode cX7_restore 7 = .ok (.bipush (-103), 2) := by decide +kernel
theorem dX7_restore_9 : decode cX7_restore 9 = .ok (.ireturn, 1) := by decide +kernel
theorem dX7_restore_10 : decode cX7_restore 10 = .ok (.aload_n 0, 1) := by decide +kernel
theorem dX7_restore_11 : decode cX7_restore 11 = .ok (.getfield 29, 3) := by decide +kernel
theorem dX7_restore_14 : decode cX7_restore 14 = .ok (.aload_n 0, 1) := by decide +kernel
theorem dX7_restore_15 : decode cX7_restore 15 = .ok (.getfield 33, 3) := by decide +kernel
theorem dX7_restore_18 : decode cX7_restore 18 = .ok (.invokevirtual 238, 3) := by decide +kernel
theorem dX7_restore_21 : decode cX7_restore 21 = .ok (.aload_n 0, 1) := by decide +kernel
theorem dX7_restore_22 : decode cX7_restore 22 = .ok (.getfield 29, 3) := by decide +kernel
theorem dX7_restore_25 : decode cX7_restore 25 = .ok (.getfield 165, 3) := by decide +kernel
theorem dX7_restore_28 : decode cX7_restore 28 = .ok (.ireturn, 1) := by decide +kernel
theorem dX7_count_0 : decode cX7_count 0 = .ok (.iload_n 1, 1) := by decide +kernel
theorem dX7_count_1 : decode cX7_count 1 = .ok (.tableswitch 121 0 9 #[55, 63, 68, 76, 89, 89, 89, 89, 108, 116], 55) := by decide +kernel
theorem dX7_count_56 : decode cX7_count 56 = .ok (.aload_n 0, 1) := by decide +kernel
theorem dX7_count_57 : decode cX7_count 57 = .ok (.getfield 19, 3) := by decide +kernel
theorem dX7_count_60 : decode cX7_count 60 = .ok (.getfield 89, 3) := by decide +kernel
theorem dX7_count_63 : decode cX7_count 63 = .ok (.ireturn, 1) := by decide +kernel
theorem dX7_count_64 : decode cX7_count 64 = .ok (.aload_n 0, 1) := by decide +kernel
theorem dX7_count_65 : decode cX7_count 65 = .ok (.getfield 104, 3) := by decide +kernel
theorem dX7_count_68 : decode cX7_count 68 = .ok (.ireturn, 1) := by decide +kernel
theorem dX7_count_69 : decode cX7_count 69 = .ok (.aload_n 0, 1) := by decide +kernel
theorem dX7_count_70 : decode cX7_count 70 = .ok (.getfield 29, 3) := by decide +kernel
theorem dX7_count_73 : decode cX7_count 73 = .ok (.getfield 165, 3) := by decide +kernel
theorem dX7_count_76 : decode cX7_count 76 = .ok (.ireturn, 1) := by decide +kernel
theorem dX7_count_77 : decode cX7_count 77 = .ok (.aload_n 0, 1) := by decide +kernel
theorem dX7_count_78 : decode cX7_count 78 = .ok (.getfield 19, 3) := by decide +kernel
theorem dX7_count_81 : decode cX7_count 81 = .ok (.getfield 89, 3) := by decide +kernel
theorem dX7_count_84 : decode cX7_count 84 = .ok (.aload_n 0, 1) := by decide +kernel
theorem dX7_count_85 : decode cX7_count 85 = .ok (.getfield 104, 3) := by decide +kernel
theorem dX7_count_88 : decode cX7_count 88 = .ok (.isub, 1) := by decide +kernel
theorem dX7_count_89 : decode cX7_count 89 = .ok (.ireturn, 1) := by decide +kernel
theorem dX7_count_90 : decode cX7_count 90 = .ok (.aload_n 0, 1) := by decide +kernel
theorem dX7_count_91 : decode cX7_count 91 = .ok (.getfield 19, 3) := by decide +kernel
theorem dX7_count_94 : decode cX7_count 94 = .ok (.iload_n 1, 1) := by decide +kernel
theorem dX7_count_95 : decode cX7_count 95 = .ok (.iconst 4, 1) := by decide +kernel
theorem dX7_count_96 : decode cX7_count 96 = .ok (.isub, 1) := by decide +kernel
theorem dX7_count_97 : decode cX7_count 97 = .ok (.invokevirtual 242, 3) := by decide +kernel
theorem dX7_count_100 : decode cX7_count 100 = .ok (.ifCond .eq 7, 3) := by decide +kernel
theorem dX7_count_103 : decode cX7_count 103 = .ok (.iconst 1, 1) := by decide +kernel
theorem dX7_count_104 : decode cX7_count 104 = .ok (.goto 4, 3) := by decide +kernel
theorem dX7_count_107 : decode cX7_count 107 = .ok (.iconst 0, 1) := by decide +kernel
theorem dX7_count_108 : decode cX7_count 108 = .ok (.ireturn, 1) := by decide +kernel
theorem dX7_count_109 : decode cX7_count 109 = .ok (.aload_n 0, 1) := by decide +kernel
theorem dX7_count_110 : decode cX7_count 110 = .ok (.getfield 10, 3) := by decide +kernel
theorem dX7_count_113 : decode cX7_count 113 = .ok (.getfield 57, 3) := by decide +kernel
theorem dX7_count_116 : decode cX7_count 116 = .ok (.ireturn, 1) := by decide +kernel
theorem dX7_count_117 : decode cX7_count 117 = .ok (.aload_n 0, 1) := by decide +kernel
theorem dX7_count_118 : decode cX7_count 118 = .ok (.getfield 125, 3) := by decide +kernel
theorem dX7_count_121 : decode cX7_count 121 = .ok (.ireturn, 1) := by decide +kernel
theorem dX7_count_122 : decode cX7_count 122 = .ok (.bipush (-102), 2) := by decide +kernel
theorem dX7_count_124 : decode cX7_count 124 = .ok (.ireturn, 1) := by decide +kernel
theorem dX7_digest_0 : decode cX7_digest 0 = .ok (.ldc2_w 245, 3) := by decide +kernel
theorem dX7_digest_3 : decode cX7_digest 3 = .ok (.lstore_n 1, 1) := by decide +kernel
theorem dX7_digest_4 : decode cX7_digest 4 = .ok (.iconst 0, 1) := by decide +kernel
theorem dX7_digest_5 : decode cX7_digest 5 = .ok (.istore_n 3, 1) := by decide +kernel
theorem dX7_digest_6 : decode cX7_digest 6 = .ok (.iload_n 3, 1) := by decide +kernel
theorem dX7_digest_7 : decode cX7_digest 7 = .ok (.aload_n 0, 1) := by decide +kernel
theorem dX7_digest_8 : decode cX7_digest 8 = .ok (.getfield 19, 3) := by decide +kernel
theorem dX7_digest_11 : decode cX7_digest 11 = .ok (.getfield 89, 3) := by decide +kernel
theorem dX7_digest_14 : decode cX7_digest 14 = .ok (.if_icmp .ge 35, 3) := by decide +kernel
theorem dX7_digest_17 : decode cX7_digest 17 = .ok (.ldc2_w 247, 3) := by decide +kernel
theorem dX7_digest_20 : decode cX7_digest 20 = .ok (.lload_n 1, 1) := by decide +kernel
theorem dX7_digest_21 : decode cX7_digest 21 = .ok (.lmul, 1) := by decide +kernel
theorem dX7_digest_22 : decode cX7_digest 22 = .ok (.aload_n 0, 1) := by decide +kernel
theorem dX7_digest_23 : decode cX7_digest 23 = .ok (.iload_n 3, 1) := by decide +kernel
theorem dX7_digest_24 : decode cX7_digest 24 = .ok (.invokevirtual 249, 3) := by decide +kernel
theorem dX7_digest_27 : decode cX7_digest 27 = .ok (.i2l, 1) := by decide +kernel
theorem dX7_digest_28 : decode cX7_digest 28 = .ok (.ladd, 1) := by decide +kernel
theorem dX7_digest_29 : decode cX7_digest 29 = .ok (.lstore_n 1, 1) := by decide +kernel
theorem dX7_digest_30 : decode cX7_digest 30 = .ok (.ldc2_w 247, 3) := by decide +kernel
theorem dX7_digest_33 : decode cX7_digest 33 = .ok (.lload_n 1, 1) := by decide +kernel
theorem dX7_digest_34 : decode cX7_digest 34 = .ok (.lmul, 1) := by decide +kernel
theorem dX7_digest_35 : decode cX7_digest 35 = .ok (.aload_n 0, 1) := by decide +kernel
theorem dX7_digest_36 : decode cX7_digest 36 = .ok (.iload_n 3, 1) := by decide +kernel
theorem dX7_digest_37 : decode cX7_digest 37 = .ok (.invokevirtual 252, 3) := by decide +kernel
theorem dX7_digest_40 : decode cX7_digest 40 = .ok (.i2l, 1) := by decide +kernel
theorem dX7_digest_41 : decode cX7_digest 41 = .ok (.ladd, 1) := by decide +kernel
theorem dX7_digest_42 : decode cX7_digest 42 = .ok (.lstore_n 1, 1) := by decide +kernel
theorem dX7_digest_43 : decode cX7_digest 43 = .ok (.iinc 3 1, 3) := by decide +kernel
theorem dX7_digest_46 : decode cX7_digest 46 = .ok (.goto (-40), 3) := by decide +kernel
theorem dX7_digest_49 : decode cX7_digest 49 = .ok (.iconst 0, 1) := by decide +kernel
theorem dX7_digest_50 : decode cX7_digest 50 = .ok (.istore_n 3, 1) := by decide +kernel
theorem dX7_digest_51 : decode cX7_digest 51 = .ok (.iload_n 3, 1) := by decide +kernel
theorem dX7_digest_52 : decode cX7_digest 52 = .ok (.aload_n 0, 1) := by decide +kernel
theorem dX7_digest_53 : decode cX7_digest 53 = .ok (.getfield 104, 3) := by decide +kernel
theorem dX7_digest_56 : decode cX7_digest 56 = .ok (.if_icmp .ge 39, 3) := by decide +kernel
theorem dX7_digest_59 : decode cX7_digest 59 = .ok (.iconst 0, 1) := by decide +kernel
theorem dX7_digest_60 : decode cX7_digest 60 = .ok (.istore 4, 2) := by decide +kernel
theorem dX7_digest_62 : decode cX7_digest 62 = .ok (.iload 4, 2) := by decide +kernel
theorem dX7_digest_64 : decode cX7_digest 64 = .ok (.iconst 2, 1) := by decide +kernel
theorem dX7_digest_65 : decode cX7_digest 65 = .ok (.if_icmp .gt 24, 3) := by decide +kernel
theorem dX7_digest_68 : decode cX7_digest 68 = .ok (.ldc2_w 247, 3) := by decide +kernel
theorem dX7_digest_71 : decode cX7_digest 71 = .ok (.lload_n 1, 1) := by decide +kernel
theorem dX7_digest_72 : decode cX7_digest 72 = .ok (.lmul, 1) := by decide +kernel
theorem dX7_digest_73 : decode cX7_digest 73 = .ok (.aload_n 0, 1) := by decide +kernel
theorem dX7_digest_74 : decode cX7_digest 74 = .ok (.iload_n 3, 1) := by decide +kernel
theorem dX7_digest_75 : decode cX7_digest 75 = .ok (.iload 4, 2) := by decide +kernel
theorem dX7_digest_77 : decode cX7_digest 77 = .ok (.invokevirtual 255, 3) := by decide +kernel
theorem dX7_digest_80 : decode cX7_digest 80 = .ok (.i2l, 1) := by decide +kernel
theorem dX7_digest_81 : decode cX7_digest 81 = .ok (.ladd, 1) := by decide +kernel
theorem dX7_digest_82 : decode cX7_digest 82 = .ok (.lstore_n 1, 1) := by decide +kernel
theorem dX7_digest_83 : decode cX7_digest 83 = .ok (.iinc 4 1, 3) := by decide +kernel
theorem dX7_digest_86 : decode cX7_digest 86 = .ok (.goto (-24), 3) := by decide +kernel
theorem dX7_digest_89 : decode cX7_digest 89 = .ok (.iinc 3 1, 3) := by decide +kernel
theorem dX7_digest_92 : decode cX7_digest 92 = .ok (.goto (-41), 3) := by decide +kernel
theorem dX7_digest_95 : decode cX7_digest 95 = .ok (.ldc2_w 247, 3) := by decide +kernel
theorem dX7_digest_98 : decode cX7_digest 98 = .ok (.lload_n 1, 1) := by decide +kernel
theorem dX7_digest_99 : decode cX7_digest 99 = .ok (.lmul, 1) := by decide +kernel
theorem dX7_digest_100 : decode cX7_digest 100 = .ok (.aload_n 0, 1) := by decide +kernel
theorem dX7_digest_101 : decode cX7_digest 101 = .ok (.invokevirtual 258, 3) := by decide +kernel
theorem dX7_digest_104 : decode cX7_digest 104 = .ok (.i2l, 1) := by decide +kernel
theorem dX7_digest_105 : decode cX7_digest 105 = .ok (.ladd, 1) := by decide +kernel
theorem dX7_digest_106 : decode cX7_digest 106 = .ok (.lstore_n 1, 1) := by decide +kernel
theorem dX7_digest_107 : decode cX7_digest 107 = .ok (.aload_n 0, 1) := by decide +kernel
theorem dX7_digest_108 : decode cX7_digest 108 = .ok (.invokevirtual 172, 3) := by decide +kernel
theorem dX7_digest_111 : decode cX7_digest 111 = .ok (.ifCond .eq 77, 3) := by decide +kernel
theorem dX7_digest_114 : decode cX7_digest 114 = .ok (.iconst 0, 1) := by decide +kernel
theorem dX7_digest_115 : decode cX7_digest 115 = .ok (.istore_n 3, 1) := by decide +kernel
theorem dX7_digest_116 : decode cX7_digest 116 = .ok (.iload_n 3, 1) := by decide +kernel
theorem dX7_digest_117 : decode cX7_digest 117 = .ok (.iconst 2, 1) := by decide +kernel
theorem dX7_digest_118 : decode cX7_digest 118 = .ok (.if_icmp .gt 22, 3) := by decide +kernel
theorem dX7_digest_121 : decode cX7_digest 121 = .ok (.ldc2_w 247, 3) := by decide +kernel
theorem dX7_digest_124 : decode cX7_digest 124 = .ok (.lload_n 1, 1) := by decide +kernel
theorem dX7_digest_125 : decode cX7_digest 125 = .ok (.lmul, 1) := by decide +kernel
theorem dX7_digest_126 : decode cX7_digest 126 = .ok (.aload_n 0, 1) := by decide +kernel
theorem dX7_digest_127 : decode cX7_digest 127 = .ok (.iload_n 3, 1) := by decide +kernel
theorem dX7_digest_128 : decode cX7_digest 128 = .ok (.invokevirtual 261, 3) := by decide +kernel
theorem dX7_digest_131 : decode cX7_digest 131 = .ok (.i2l, 1) := by decide +kernel
theorem dX7_digest_132 : decode cX7_digest 132 = .ok (.ladd, 1) := by decide +kernel
theorem dX7_digest_133 : decode cX7_digest 133 = .ok (.lstore_n 1, 1) := by decide +kernel
theorem dX7_digest_134 : decode cX7_digest 134 = .ok (.iinc 3 1, 3) := by decide +kernel
theorem dX7_digest_137 : decode cX7_digest 137 = .ok (.goto (-21), 3) := by decide +kernel
theorem dX7_digest_140 : decode cX7_digest 140 = .ok (.ldc2_w 247, 3) := by decide +kernel
theorem dX7_digest_143 : decode cX7_digest 143 = .ok (.lload_n 1, 1) := by decide +kernel
theorem dX7_digest_144 : decode cX7_digest 144 = .ok (.lmul, 1) := by decide +kernel
theorem dX7_digest_145 : decode cX7_digest 145 = .ok (.aload_n 0, 1) := by decide +kernel
theorem dX7_digest_146 : decode cX7_digest 146 = .ok (.invokevirtual 264, 3) := by decide +kernel
theorem dX7_digest_149 : decode cX7_digest 149 = .ok (.i2l, 1) := by decide +kernel
theorem dX7_digest_150 : decode cX7_digest 150 = .ok (.ladd, 1) := by decide +kernel
theorem dX7_digest_151 : decode cX7_digest 151 = .ok (.lstore_n 1, 1) := by decide +kernel
theorem dX7_digest_152 : decode cX7_digest 152 = .ok (.ldc2_w 247, 3) := by decide +kernel
theorem dX7_digest_155 : decode cX7_digest 155 = .ok (.lload_n 1, 1) := by decide +kernel
theorem dX7_digest_156 : decode cX7_digest 156 = .ok (.lmul, 1) := by decide +kernel
theorem dX7_digest_157 : decode cX7_digest 157 = .ok (.aload_n 0, 1) := by decide +kernel
theorem dX7_digest_158 : decode cX7_digest 158 = .ok (.invokevirtual 267, 3) := by decide +kernel
theorem dX7_digest_161 : decode cX7_digest 161 = .ok (.i2l, 1) := by decide +kernel
theorem dX7_digest_162 : decode cX7_digest 162 = .ok (.ladd, 1) := by decide +kernel
theorem dX7_digest_163 : decode cX7_digest 163 = .ok (.lstore_n 1, 1) := by decide +kernel
theorem dX7_digest_164 : decode cX7_digest 164 = .ok (.ldc2_w 247, 3) := by decide +kernel
theorem dX7_digest_167 : decode cX7_digest 167 = .ok (.lload_n 1, 1) := by decide +kernel
theorem dX7_digest_168 : decode cX7_digest 168 = .ok (.lmul, 1) := by decide +kernel
theorem dX7_digest_169 : decode cX7_digest 169 = .ok (.aload_n 0, 1) := by decide +kernel
theorem dX7_digest_170 : decode cX7_digest 170 = .ok (.invokevirtual 270, 3) := by decide +kernel
theorem dX7_digest_173 : decode cX7_digest 173 = .ok (.i2l, 1) := by decide +kernel
theorem dX7_digest_174 : decode cX7_digest 174 = .ok (.ladd, 1) := by decide +kernel
theorem dX7_digest_175 : decode cX7_digest 175 = .ok (.lstore_n 1, 1) := by decide +kernel
theorem dX7_digest_176 : decode cX7_digest 176 = .ok (.ldc2_w 247, 3) := by decide +kernel
theorem dX7_digest_179 : decode cX7_digest 179 = .ok (.lload_n 1, 1) := by decide +kernel
theorem dX7_digest_180 : decode cX7_digest 180 = .ok (.lmul, 1) := by decide +kernel
theorem dX7_digest_181 : decode cX7_digest 181 = .ok (.aload_n 0, 1) := by decide +kernel
theorem dX7_digest_182 : decode cX7_digest 182 = .ok (.invokevirtual 273, 3) := by decide +kernel
theorem dX7_digest_185 : decode cX7_digest 185 = .ok (.i2l, 1) := by decide +kernel
theorem dX7_digest_186 : decode cX7_digest 186 = .ok (.ladd, 1) := by decide +kernel
theorem dX7_digest_187 : decode cX7_digest 187 = .ok (.lstore_n 1, 1) := by decide +kernel
theorem dX7_digest_188 : decode cX7_digest 188 = .ok (.aload_n 0, 1) := by decide +kernel
theorem dX7_digest_189 : decode cX7_digest 189 = .ok (.invokevirtual 215, 3) := by decide +kernel
theorem dX7_digest_192 : decode cX7_digest 192 = .ok (.ifCond .eq 29, 3) := by decide +kernel
theorem dX7_digest_195 : decode cX7_digest 195 = .ok (.ldc2_w 247, 3) := by decide +kernel
theorem dX7_digest_198 : decode cX7_digest 198 = .ok (.lload_n 1, 1) := by decide +kernel
theorem dX7_digest_199 : decode cX7_digest 199 = .ok (.lmul, 1) := by decide +kernel
theorem dX7_digest_200 : decode cX7_digest 200 = .ok (.aload_n 0, 1) := by decide +kernel
theorem dX7_digest_201 : decode cX7_digest 201 = .ok (.iconst 0, 1) := by decide +kernel
theorem dX7_digest_202 : decode cX7_digest 202 = .ok (.invokevirtual 276, 3) := by decide +kernel
theorem dX7_digest_205 : decode cX7_digest 205 = .ok (.i2l, 1) := by decide +kernel
theorem dX7_digest_206 : decode cX7_digest 206 = .ok (.ladd, 1) := by decide +kernel
theorem dX7_digest_207 : decode cX7_digest 207 = .ok (.lstore_n 1, 1) := by decide +kernel
theorem dX7_digest_208 : decode cX7_digest 208 = .ok (.ldc2_w 247, 3) := by decide +kernel
theorem dX7_digest_211 : decode cX7_digest 211 = .ok (.lload_n 1, 1) := by decide +kernel
theorem dX7_digest_212 : decode cX7_digest 212 = .ok (.lmul, 1) := by decide +kernel
theorem dX7_digest_213 : decode cX7_digest 213 = .ok (.aload_n 0, 1) := by decide +kernel
theorem dX7_digest_214 : decode cX7_digest 214 = .ok (.iconst 1, 1) := by decide +kernel
theorem dX7_digest_215 : decode cX7_digest 215 = .ok (.invokevirtual 276, 3) := by decide +kernel
theorem dX7_digest_218 : decode cX7_digest 218 = .ok (.i2l, 1) := by decide +kernel
theorem dX7_digest_219 : decode cX7_digest 219 = .ok (.ladd, 1) := by decide +kernel
theorem dX7_digest_220 : decode cX7_digest 220 = .ok (.lstore_n 1, 1) := by decide +kernel
theorem dX7_digest_221 : decode cX7_digest 221 = .ok (.iconst 0, 1) := by decide +kernel
theorem dX7_digest_222 : decode cX7_digest 222 = .ok (.istore_n 3, 1) := by decide +kernel
theorem dX7_digest_223 : decode cX7_digest 223 = .ok (.iload_n 3, 1) := by decide +kernel
theorem dX7_digest_224 : decode cX7_digest 224 = .ok (.aload_n 0, 1) := by decide +kernel
theorem dX7_digest_225 : decode cX7_digest 225 = .ok (.getfield 10, 3) := by decide +kernel
theorem dX7_digest_228 : decode cX7_digest 228 = .ok (.getfield 57, 3) := by decide +kernel
theorem dX7_digest_231 : decode cX7_digest 231 = .ok (.if_icmp .ge 32, 3) := by decide +kernel
theorem dX7_digest_234 : decode cX7_digest 234 = .ok (.iload_n 3, 1) := by decide +kernel
theorem dX7_digest_235 : decode cX7_digest 235 = .ok (.bipush 14, 2) := by decide +kernel
theorem dX7_digest_237 : decode cX7_digest 237 = .ok (.if_icmp .ge 26, 3) := by decide +kernel
theorem dX7_digest_240 : decode cX7_digest 240 = .ok (.ldc2_w 247, 3) := by decide +kernel
theorem dX7_digest_243 : decode cX7_digest 243 = .ok (.lload_n 1, 1) := by decide +kernel
theorem dX7_digest_244 : decode cX7_digest 244 = .ok (.lmul, 1) := by decide +kernel
theorem dX7_digest_245 : decode cX7_digest 245 = .ok (.aload_n 0, 1) := by decide +kernel
theorem dX7_digest_246 : decode cX7_digest 246 = .ok (.getfield 10, 3) := by decide +kernel
theorem dX7_digest_249 : decode cX7_digest 249 = .ok (.getfield 279, 3) := by decide +kernel
theorem dX7_digest_252 : decode cX7_digest 252 = .ok (.iload_n 3, 1) := by decide +kernel
theorem dX7_digest_253 : decode cX7_digest 253 = .ok (.iaload, 1) := by decide +kernel
theorem dX7_digest_254 : decode cX7_digest 254 = .ok (.i2l, 1) := by decide +kernel
theorem dX7_digest_255 : decode cX7_digest 255 = .ok (.ladd, 1) := by decide +kernel
theorem dX7_digest_256 : decode cX7_digest 256 = .ok (.lstore_n 1, 1) := by decide +kernel
theorem dX7_digest_257 : decode cX7_digest 257 = .ok (.iinc 3 1, 3) := by decide +kernel
theorem dX7_digest_260 : decode cX7_digest 260 = .ok (.goto (-37), 3) := by decide +kernel
theorem dX7_digest_263 : decode cX7_digest 263 = .ok (.iconst 0, 1) := by decide +kernel
theorem dX7_digest_264 : decode cX7_digest 264 = .ok (.istore_n 3, 1) := by decide +kernel
theorem dX7_digest_265 : decode cX7_digest 265 = .ok (.iload_n 3, 1) := by decide +kernel
theorem dX7_digest_266 : decode cX7_digest 266 = .ok (.bipush 9, 2) := by decide +kernel
theorem dX7_digest_268 : decode cX7_digest 268 = .ok (.if_icmp .gt 22, 3) := by decide +kernel
theorem dX7_digest_271 : decode cX7_digest 271 = .ok (.ldc2_w 247, 3) := by decide +kernel
theorem dX7_digest_274 : decode cX7_digest 274 = .ok (.lload_n 1, 1) := by decide +kernel
theorem dX7_digest_275 : decode cX7_digest 275 = .ok (.lmul, 1) := by decide +kernel
theorem dX7_digest_276 : decode cX7_digest 276 = .ok (.aload_n 0, 1) := by decide +kernel
theorem dX7_digest_277 : decode cX7_digest 277 = .ok (.iload_n 3, 1) := by decide +kernel
theorem dX7_digest_278 : decode cX7_digest 278 = .ok (.invokevirtual 283, 3) := by decide +kernel
theorem dX7_digest_281 : decode cX7_digest 281 = .ok (.i2l, 1) := by decide +kernel
theorem dX7_digest_282 : decode cX7_digest 282 = .ok (.ladd, 1) := by decide +kernel
theorem dX7_digest_283 : decode cX7_digest 283 = .ok (.lstore_n 1, 1) := by decide +kernel
theorem dX7_digest_284 : decode cX7_digest 284 = .ok (.iinc 3 1, 3) := by decide +kernel
theorem dX7_digest_287 : decode cX7_digest 287 = .ok (.goto (-22), 3) := by decide +kernel
theorem dX7_digest_290 : decode cX7_digest 290 = .ok (.lload_n 1, 1) := by decide +kernel
theorem dX7_digest_291 : decode cX7_digest 291 = .ok (.lreturn, 1) := by decide +kernel
theorem dX7_hasBrook_0 : decode cX7_hasBrook 0 = .ok (.aload_n 0, 1) := by decide +kernel
theorem dX7_hasBrook_1 : decode cX7_hasBrook 1 = .ok (.getfield 19, 3) := by decide +kernel
theorem dX7_hasBrook_4 : decode cX7_hasBrook 4 = .ok (.getfield 89, 3) := by decide +kernel
theorem dX7_hasBrook_7 : decode cX7_hasBrook 7 = .ok (.ifCond .le 7, 3) := by decide +kernel
theorem dX7_hasBrook_10 : decode cX7_hasBrook 10 = .ok (.iconst 1, 1) := by decide +kernel
theorem dX7_hasBrook_11 : decode cX7_hasBrook 11 = .ok (.goto 4, 3) := by decide +kernel
theorem dX7_hasBrook_14 : decode cX7_hasBrook 14 = .ok (.iconst 0, 1) := by decide +kernel
theorem dX7_hasBrook_15 : decode cX7_hasBrook 15 = .ok (.ireturn, 1) := by decide +kernel
theorem dX7_hasGame_0 : decode cX7_hasGame 0 = .ok (.aload_n 0, 1) := by decide +kernel
theorem dX7_hasGame_1 : decode cX7_hasGame 1 = .ok (.invokevirtual 172, 3) := by decide +kernel
theorem dX7_hasGame_4 : decode cX7_hasGame 4 = .ok (.ifCond .eq 27, 3) := by decide +kernel
theorem dX7_hasGame_7 : decode cX7_hasGame 7 = .ok (.aload_n 0, 1) := by decide +kernel
theorem dX7_hasGame_8 : decode cX7_hasGame 8 = .ok (.getfield 19, 3) := by decide +kernel
theorem dX7_hasGame_11 : decode cX7_hasGame 11 = .ok (.getfield 286, 3) := by decide +kernel
theorem dX7_hasGame_14 : decode cX7_hasGame 14 = .ok (.ifCond .ne 17, 3) := by decide +kernel
theorem dX7_hasGame_17 : decode cX7_hasGame 17 = .ok (.aload_n 0, 1) := by decide +kernel
theorem dX7_hasGame_18 : decode cX7_hasGame 18 = .ok (.getfield 19, 3) := by decide +kernel
theorem dX7_hasGame_21 : decode cX7_hasGame 21 = .ok (.getfield 289, 3) := by decide +kernel
theorem dX7_hasGame_24 : decode cX7_hasGame 24 = .ok (.ifCond .ne 7, 3) := by decide +kernel
theorem dX7_hasGame_27 : decode cX7_hasGame 27 = .ok (.iconst 1, 1) := by decide +kernel
theorem dX7_hasGame_28 : decode cX7_hasGame 28 = .ok (.goto 4, 3) := by decide +kernel
theorem dX7_hasGame_31 : decode cX7_hasGame 31 = .ok (.iconst 0, 1) := by decide +kernel
theorem dX7_hasGame_32 : decode cX7_hasGame 32 = .ok (.ireturn, 1) := by decide +kernel
theorem dX7_isStone_0 : decode cX7_isStone 0 = .ok (.iload_n 1, 1) := by decide +kernel
theorem dX7_isStone_1 : decode cX7_isStone 1 = .ok (.ifCond .lt 18, 3) := by decide +kernel
theorem dX7_isStone_4 : decode cX7_isStone 4 = .ok (.iload_n 1, 1) := by decide +kernel
theorem dX7_isStone_5 : decode cX7_isStone 5 = .ok (.aload_n 0, 1) := by decide +kernel
theorem dX7_isStone_6 : decode cX7_isStone 6 = .ok (.getfield 19, 3) := by decide +kernel
theorem dX7_isStone_9 : decode cX7_isStone 9 = .ok (.getfield 89, 3) := by decide +kernel
theorem dX7_isStone_12 : decode cX7_isStone 12 = .ok (.if_icmp .ge 7, 3) := by decide +kernel
theorem dX7_isStone_15 : decode cX7_isStone 15 = .ok (.iconst 1, 1) := by decide +kernel
theorem dX7_isStone_16 : decode cX7_isStone 16 = .ok (.goto 4, 3) := by decide +kernel
theorem dX7_isStone_19 : decode cX7_isStone 19 = .ok (.iconst 0, 1) := by decide +kernel
theorem dX7_isStone_20 : decode cX7_isStone 20 = .ok (.ireturn, 1) := by decide +kernel
theorem dX7_isFrog_0 : decode cX7_isFrog 0 = .ok (.iload_n 1, 1) := by decide +kernel
theorem dX7_isFrog_1 : decode cX7_isFrog 1 = .ok (.ifCond .lt 15, 3) := by decide +kernel
theorem dX7_isFrog_4 : decode cX7_isFrog 4 = .ok (.iload_n 1, 1) := by decide +kernel
theorem dX7_isFrog_5 : decode cX7_isFrog 5 = .ok (.aload_n 0, 1) := by decide +kernel
theorem dX7_isFrog_6 : decode cX7_isFrog 6 = .ok (.getfield 104, 3) := by decide +kernel
theorem dX7_isFrog_9 : decode cX7_isFrog 9 = .ok (.if_icmp .ge 7, 3) := by decide +kernel
theorem dX7_isFrog_12 : decode cX7_isFrog 12 = .ok (.iconst 1, 1) := by decide +kernel
theorem dX7_isFrog_13 : decode cX7_isFrog 13 = .ok (.goto 4, 3) := by decide +kernel
theorem dX7_isFrog_16 : decode cX7_isFrog 16 = .ok (.iconst 0, 1) := by decide +kernel
theorem dX7_isFrog_17 : decode cX7_isFrog 17 = .ok (.ireturn, 1) := by decide +kernel
theorem dX7_kindOfFrog_0 : decode cX7_kindOfFrog 0 = .ok (.aload_n 0, 1) := by decide +kernel
theorem dX7_kindOfFrog_1 : decode cX7_kindOfFrog 1 = .ok (.getfield 29, 3) := by decide +kernel
theorem dX7_kindOfFrog_4 : decode cX7_kindOfFrog 4 = .ok (.getfield 132, 3) := by decide +kernel
theorem dX7_kindOfFrog_7 : decode cX7_kindOfFrog 7 = .ok (.aload_n 0, 1) := by decide +kernel
theorem dX7_kindOfFrog_8 : decode cX7_kindOfFrog 8 = .ok (.getfield 29, 3) := by decide +kernel
theorem dX7_kindOfFrog_11 : decode cX7_kindOfFrog 11 = .ok (.iload_n 1, 1) := by decide +kernel
theorem dX7_kindOfFrog_12 : decode cX7_kindOfFrog 12 = .ok (.invokevirtual 146, 3) := by decide +kernel
theorem dX7_kindOfFrog_15 : decode cX7_kindOfFrog 15 = .ok (.invokestatic 134, 3) := by decide +kernel
theorem dX7_kindOfFrog_18 : decode cX7_kindOfFrog 18 = .ok (.ireturn, 1) := by decide +kernel
theorem dX7_partOfMove_0 : decode cX7_partOfMove 0 = .ok (.iload_n 0, 1) := by decide +kernel
theorem dX7_partOfMove_1 : decode cX7_partOfMove 1 = .ok (.iconst (-1), 1) := by decide +kernel
theorem dX7_partOfMove_2 : decode cX7_partOfMove 2 = .ok (.if_icmp .ne 5, 3) := by decide +kernel
theorem dX7_partOfMove_5 : decode cX7_partOfMove 5 = .ok (.iconst (-1), 1) := by decide +kernel
theorem dX7_partOfMove_6 : decode cX7_partOfMove 6 = .ok (.ireturn, 1) := by decide +kernel
theorem dX7_partOfMove_7 : decode cX7_partOfMove 7 = .ok (.iload_n 1, 1) := by decide +kernel
theorem dX7_partOfMove_8 : decode cX7_partOfMove 8 = .ok (.ifCond .ne 9, 3) := by decide +kernel
theorem dX7_partOfMove_11 : decode cX7_partOfMove 11 = .ok (.iload_n 0, 1) := by decide +kernel
theorem dX7_partOfMove_12 : decode cX7_partOfMove 12 = .ok (.iconst 3, 1) := by decide +kernel
theorem dX7_partOfMove_13 : decode cX7_partOfMove 13 = .ok (.ishr, 1) := by decide +kernel
theorem dX7_partOfMove_14 : decode cX7_partOfMove 14 = .ok (.goto 7, 3) := by decide +kernel
theorem dX7_partOfMove_17 : decode cX7_partOfMove 17 = .ok (.iload_n 0, 1) := by decide +kernel
theorem dX7_partOfMove_18 : decode cX7_partOfMove 18 = .ok (.bipush 7, 2) := by decide +kernel
theorem dX7_partOfMove_20 : decode cX7_partOfMove 20 = .ok (.iand, 1) := by decide +kernel
theorem dX7_partOfMove_21 : decode cX7_partOfMove 21 = .ok (.ireturn, 1) := by decide +kernel
theorem dX7_firstOfFewest_0 : decode cX7_firstOfFewest 0 = .ok (.aload_n 0, 1) := by decide +kernel
theorem dX7_firstOfFewest_1 : decode cX7_firstOfFewest 1 = .ok (.getfield 39, 3) := by decide +kernel
theorem dX7_firstOfFewest_4 : decode cX7_firstOfFewest 4 = .ok (.aload_n 0, 1) := by decide +kernel
theorem dX7_firstOfFewest_5 : decode cX7_firstOfFewest 5 = .ok (.getfield 29, 3) := by decide +kernel
theorem dX7_firstOfFewest_8 : decode cX7_firstOfFewest 8 = .ok (.getfield 132, 3) := by decide +kernel
theorem dX7_firstOfFewest_11 : decode cX7_firstOfFewest 11 = .ok (.invokevirtual 175, 3) := by decide +kernel
theorem dX7_firstOfFewest_14 : decode cX7_firstOfFewest 14 = .ok (.istore_n 1, 1) := by decide +kernel
theorem dX7_firstOfFewest_15 : decode cX7_firstOfFewest 15 = .ok (.iload_n 1, 1) := by decide +kernel
theorem dX7_firstOfFewest_16 : decode cX7_firstOfFewest 16 = .ok (.ifCond .gt 5, 3) := by decide +kernel
theorem dX7_firstOfFewest_19 : decode cX7_firstOfFewest 19 = .ok (.iconst (-1), 1) := by decide +kernel
theorem dX7_firstOfFewest_20 : decode cX7_firstOfFewest 20 = .ok (.ireturn, 1) := by decide +kernel
theorem dX7_firstOfFewest_21 : decode cX7_firstOfFewest 21 = .ok (.aload_n 0, 1) := by decide +kernel
theorem dX7_firstOfFewest_22 : decode cX7_firstOfFewest 22 = .ok (.getfield 19, 3) := by decide +kernel
theorem dX7_firstOfFewest_25 : decode cX7_firstOfFewest 25 = .ok (.aload_n 0, 1) := by decide +kernel
theorem dX7_firstOfFewest_26 : decode cX7_firstOfFewest 26 = .ok (.getfield 29, 3) := by decide +kernel
theorem dX7_firstOfFewest_29 : decode cX7_firstOfFewest 29 = .ok (.getfield 132, 3) := by decide +kernel
theorem dX7_firstOfFewest_32 : decode cX7_firstOfFewest 32 = .ok (.iconst 1, 1) := by decide +kernel
theorem dX7_firstOfFewest_33 : decode cX7_firstOfFewest 33 = .ok (.invokevirtual 156, 3) := by decide +kernel
theorem dX7_firstOfFewest_36 : decode cX7_firstOfFewest 36 = .ok (.lstore_n 2, 1) := by decide +kernel
theorem dX7_firstOfFewest_37 : decode cX7_firstOfFewest 37 = .ok (.lload_n 2, 1) := by decide +kernel
theorem dX7_firstOfFewest_38 : decode cX7_firstOfFewest 38 = .ok (.invokestatic 160, 3) := by decide +kernel
theorem dX7_firstOfFewest_41 : decode cX7_firstOfFewest 41 = .ok (.istore 4, 2) := by decide +kernel
theorem dX7_firstOfFewest_43 : decode cX7_firstOfFewest 43 = .ok (.iconst 0, 1) := by decide +kernel
theorem dX7_firstOfFewest_44 : decode cX7_firstOfFewest 44 = .ok (.istore 5, 2) := by decide +kernel
theorem dX7_firstOfFewest_46 : decode cX7_firstOfFewest 46 = .ok (.iload 5, 2) := by decide +kernel
theorem dX7_firstOfFewest_48 : decode cX7_firstOfFewest 48 = .ok (.iload 4, 2) := by decide +kernel
theorem dX7_firstOfFewest_50 : decode cX7_firstOfFewest 50 = .ok (.if_icmp .ge 49, 3) := by decide +kernel
theorem dX7_firstOfFewest_53 : decode cX7_firstOfFewest 53 = .ok (.lload_n 2, 1) := by decide +kernel
theorem dX7_firstOfFewest_54 : decode cX7_firstOfFewest 54 = .ok (.invokestatic 292, 3) := by decide +kernel
theorem dX7_firstOfFewest_57 : decode cX7_firstOfFewest 57 = .ok (.istore 6, 2) := by decide +kernel
theorem dX7_firstOfFewest_59 : decode cX7_firstOfFewest 59 = .ok (.lload_n 2, 1) := by decide +kernel
theorem dX7_firstOfFewest_60 : decode cX7_firstOfFewest 60 = .ok (.lload_n 2, 1) := by decide +kernel
theorem dX7_firstOfFewest_61 : decode cX7_firstOfFewest 61 = .ok (.lconst 1, 1) := by decide +kernel
theorem dX7_firstOfFewest_62 : decode cX7_firstOfFewest 62 = .ok (.lsub, 1) := by decide +kernel
theorem dX7_firstOfFewest_63 : decode cX7_firstOfFewest 63 = .ok (.land, 1) := by decide +kernel
theorem dX7_firstOfFewest_64 : decode cX7_firstOfFewest 64 = .ok (.lstore_n 2, 1) := by decide +kernel
theorem dX7_firstOfFewest_65 : decode cX7_firstOfFewest 65 = .ok (.aload_n 0, 1) := by decide +kernel
theorem dX7_firstOfFewest_66 : decode cX7_firstOfFewest 66 = .ok (.getfield 39, 3) := by decide +kernel
theorem dX7_firstOfFewest_69 : decode cX7_firstOfFewest 69 = .ok (.aload_n 0, 1) := by decide +kernel
theorem dX7_firstOfFewest_70 : decode cX7_firstOfFewest 70 = .ok (.getfield 29, 3) := by decide +kernel
theorem dX7_firstOfFewest_73 : decode cX7_firstOfFewest 73 = .ok (.getfield 132, 3) := by decide +kernel
theorem dX7_firstOfFewest_76 : decode cX7_firstOfFewest 76 = .ok (.iload 6, 2) := by decide +kernel
theorem dX7_firstOfFewest_78 : decode cX7_firstOfFewest 78 = .ok (.invokestatic 235, 3) := by decide +kernel
theorem dX7_firstOfFewest_81 : decode cX7_firstOfFewest 81 = .ok (.invokevirtual 175, 3) := by decide +kernel
theorem dX7_firstOfFewest_84 : decode cX7_firstOfFewest 84 = .ok (.iload_n 1, 1) := by decide +kernel
theorem dX7_firstOfFewest_85 : decode cX7_firstOfFewest 85 = .ok (.iconst 1, 1) := by decide +kernel
theorem dX7_firstOfFewest_86 : decode cX7_firstOfFewest 86 = .ok (.isub, 1) := by decide +kernel
theorem dX7_firstOfFewest_87 : decode cX7_firstOfFewest 87 = .ok (.if_icmp .ne 6, 3) := by decide +kernel
theorem dX7_firstOfFewest_90 : decode cX7_firstOfFewest 90 = .ok (.iload 6, 2) := by decide +kernel
theorem dX7_firstOfFewest_92 : decode cX7_firstOfFewest 92 = .ok (.ireturn, 1) := by decide +kernel
theorem dX7_firstOfFewest_93 : decode cX7_firstOfFewest 93 = .ok (.iinc 5 1, 3) := by decide +kernel
theorem dX7_firstOfFewest_96 : decode cX7_firstOfFewest 96 = .ok (.goto (-50), 3) := by decide +kernel
theorem dX7_firstOfFewest_99 : decode cX7_firstOfFewest 99 = .ok (.iconst (-1), 1) := by decide +kernel
theorem dX7_firstOfFewest_100 : decode cX7_firstOfFewest 100 = .ok (.ireturn, 1) := by decide +kernel

theorem dX7_init_0 : decode cX7_init 0 = .ok (.aload_n 0, 1) := by decide +kernel
theorem dX7_init_1 : decode cX7_init 1 = .ok (.invokespecial 3, 3) := by decide +kernel
theorem dX7_init_4 : decode cX7_init 4 = .ok (.aload_n 0, 1) := by decide +kernel
theorem dX7_init_5 : decode cX7_init 5 = .ok (.aload_n 1, 1) := by decide +kernel
theorem dX7_init_6 : decode cX7_init 6 = .ok (.putfield 9, 3) := by decide +kernel
theorem dX7_init_9 : decode cX7_init 9 = .ok (.aload_n 0, 1) := by decide +kernel
theorem dX7_init_10 : decode cX7_init 10 = .ok (.aload_n 2, 1) := by decide +kernel
theorem dX7_init_11 : decode cX7_init 11 = .ok (.putfield 15, 3) := by decide +kernel
theorem dX7_init_14 : decode cX7_init 14 = .ok (.aload_n 0, 1) := by decide +kernel
theorem dX7_init_15 : decode cX7_init 15 = .ok (.aload_n 3, 1) := by decide +kernel
theorem dX7_init_16 : decode cX7_init 16 = .ok (.putfield 19, 3) := by decide +kernel
theorem dX7_init_19 : decode cX7_init 19 = .ok (.aload_n 0, 1) := by decide +kernel
theorem dX7_init_20 : decode cX7_init 20 = .ok (.sipush 128, 3) := by decide +kernel
theorem dX7_init_23 : decode cX7_init 23 = .ok (.newarray .int, 2) := by decide +kernel
theorem dX7_init_25 : decode cX7_init 25 = .ok (.putfield 23, 3) := by decide +kernel
theorem dX7_init_28 : decode cX7_init 28 = .ok (.aload_n 0, 1) := by decide +kernel
theorem dX7_init_29 : decode cX7_init 29 = .ok (.bipush 32, 2) := by decide +kernel
theorem dX7_init_31 : decode cX7_init 31 = .ok (.newarray .int, 2) := by decide +kernel
theorem dX7_init_33 : decode cX7_init 33 = .ok (.putfield 27, 3) := by decide +kernel
theorem dX7_init_36 : decode cX7_init 36 = .ok (.aload_n 0, 1) := by decide +kernel
theorem dX7_init_37 : decode cX7_init 37 = .ok (.iconst 4, 1) := by decide +kernel
theorem dX7_init_38 : decode cX7_init 38 = .ok (.newarray .int, 2) := by decide +kernel
theorem dX7_init_40 : decode cX7_init 40 = .ok (.putfield 30, 3) := by decide +kernel
theorem dX7_init_43 : decode cX7_init 43 = .ok (.aload_n 0, 1) := by decide +kernel
theorem dX7_init_44 : decode cX7_init 44 = .ok (.bipush 16, 2) := by decide +kernel
theorem dX7_init_46 : decode cX7_init 46 = .ok (.newarray .int, 2) := by decide +kernel
theorem dX7_init_48 : decode cX7_init 48 = .ok (.putfield 33, 3) := by decide +kernel
theorem dX7_init_51 : decode cX7_init 51 = .ok (.aload_n 0, 1) := by decide +kernel
theorem dX7_init_52 : decode cX7_init 52 = .ok (.bipush 16, 2) := by decide +kernel
theorem dX7_init_54 : decode cX7_init 54 = .ok (.newarray .int, 2) := by decide +kernel
theorem dX7_init_56 : decode cX7_init 56 = .ok (.putfield 36, 3) := by decide +kernel
theorem dX7_init_59 : decode cX7_init 59 = .ok (.aload_n 0, 1) := by decide +kernel
theorem dX7_init_60 : decode cX7_init 60 = .ok (.bipush 8, 2) := by decide +kernel
theorem dX7_init_62 : decode cX7_init 62 = .ok (.newarray .int, 2) := by decide +kernel
theorem dX7_init_64 : decode cX7_init 64 = .ok (.putfield 39, 3) := by decide +kernel
theorem dX7_init_67 : decode cX7_init 67 = .ok (.aload_n 0, 1) := by decide +kernel
theorem dX7_init_68 : decode cX7_init 68 = .ok (.bipush 8, 2) := by decide +kernel
theorem dX7_init_70 : decode cX7_init 70 = .ok (.newarray .int, 2) := by decide +kernel
theorem dX7_init_72 : decode cX7_init 72 = .ok (.putfield 42, 3) := by decide +kernel
theorem dX7_init_75 : decode cX7_init 75 = .ok (.aload_n 0, 1) := by decide +kernel
theorem dX7_init_76 : decode cX7_init 76 = .ok (.bipush 8, 2) := by decide +kernel
theorem dX7_init_78 : decode cX7_init 78 = .ok (.newarray .long, 2) := by decide +kernel
theorem dX7_init_80 : decode cX7_init 80 = .ok (.putfield 45, 3) := by decide +kernel
theorem dX7_init_83 : decode cX7_init 83 = .ok (.aload_n 0, 1) := by decide +kernel
theorem dX7_init_84 : decode cX7_init 84 = .ok (.bipush 8, 2) := by decide +kernel
theorem dX7_init_86 : decode cX7_init 86 = .ok (.newarray .long, 2) := by decide +kernel
theorem dX7_init_88 : decode cX7_init 88 = .ok (.putfield 49, 3) := by decide +kernel
theorem dX7_init_91 : decode cX7_init 91 = .ok (.aload_n 0, 1) := by decide +kernel
theorem dX7_init_92 : decode cX7_init 92 = .ok (.lconst 0, 1) := by decide +kernel
theorem dX7_init_93 : decode cX7_init 93 = .ok (.putfield 52, 3) := by decide +kernel
theorem dX7_init_96 : decode cX7_init 96 = .ok (.aload_n 0, 1) := by decide +kernel
theorem dX7_init_97 : decode cX7_init 97 = .ok (.lconst 0, 1) := by decide +kernel
theorem dX7_init_98 : decode cX7_init 98 = .ok (.putfield 56, 3) := by decide +kernel
theorem dX7_init_101 : decode cX7_init 101 = .ok (.aload_n 0, 1) := by decide +kernel
theorem dX7_init_102 : decode cX7_init 102 = .ok (.iconst 0, 1) := by decide +kernel
theorem dX7_init_103 : decode cX7_init 103 = .ok (.putfield 59, 3) := by decide +kernel
theorem dX7_init_106 : decode cX7_init 106 = .ok (.aload_n 0, 1) := by decide +kernel
theorem dX7_init_107 : decode cX7_init 107 = .ok (.iconst 0, 1) := by decide +kernel
theorem dX7_init_108 : decode cX7_init 108 = .ok (.putfield 63, 3) := by decide +kernel
theorem dX7_init_111 : decode cX7_init 111 = .ok (.aload_n 0, 1) := by decide +kernel
theorem dX7_init_112 : decode cX7_init 112 = .ok (.iconst (-1), 1) := by decide +kernel
theorem dX7_init_113 : decode cX7_init 113 = .ok (.putfield 67, 3) := by decide +kernel
theorem dX7_init_116 : decode cX7_init 116 = .ok (.return_, 1) := by decide +kernel
theorem dX7_settle_0 : decode cX7_settle 0 = .ok (.aload_n 0, 1) := by decide +kernel
theorem dX7_settle_1 : decode cX7_settle 1 = .ok (.aload_n 0, 1) := by decide +kernel
theorem dX7_settle_2 : decode cX7_settle 2 = .ok (.getfield 15, 3) := by decide +kernel
theorem dX7_settle_5 : decode cX7_settle 5 = .ok (.getfield 70, 3) := by decide +kernel
theorem dX7_settle_8 : decode cX7_settle 8 = .ok (.invokevirtual 75, 3) := by decide +kernel
theorem dX7_settle_11 : decode cX7_settle 11 = .ok (.aload_n 0, 1) := by decide +kernel
theorem dX7_settle_12 : decode cX7_settle 12 = .ok (.iconst (-1), 1) := by decide +kernel
theorem dX7_settle_13 : decode cX7_settle 13 = .ok (.putfield 67, 3) := by decide +kernel
theorem dX7_settle_16 : decode cX7_settle 16 = .ok (.aload_n 0, 1) := by decide +kernel
theorem dX7_settle_17 : decode cX7_settle 17 = .ok (.getfield 27, 3) := by decide +kernel
theorem dX7_settle_20 : decode cX7_settle 20 = .ok (.iconst 0, 1) := by decide +kernel
theorem dX7_settle_21 : decode cX7_settle 21 = .ok (.invokestatic 79, 3) := by decide +kernel
theorem dX7_settle_24 : decode cX7_settle 24 = .ok (.iconst 0, 1) := by decide +kernel
theorem dX7_settle_25 : decode cX7_settle 25 = .ok (.istore_n 1, 1) := by decide +kernel
theorem dX7_settle_26 : decode cX7_settle 26 = .ok (.iload_n 1, 1) := by decide +kernel
theorem dX7_settle_27 : decode cX7_settle 27 = .ok (.aload_n 0, 1) := by decide +kernel
theorem dX7_settle_28 : decode cX7_settle 28 = .ok (.getfield 9, 3) := by decide +kernel
theorem dX7_settle_31 : decode cX7_settle 31 = .ok (.getfield 85, 3) := by decide +kernel
theorem dX7_settle_34 : decode cX7_settle 34 = .ok (.if_icmp .ge 50, 3) := by decide +kernel
theorem dX7_settle_37 : decode cX7_settle 37 = .ok (.aload_n 0, 1) := by decide +kernel
theorem dX7_settle_38 : decode cX7_settle 38 = .ok (.getfield 15, 3) := by decide +kernel
theorem dX7_settle_41 : decode cX7_settle 41 = .ok (.getfield 90, 3) := by decide +kernel
theorem dX7_settle_44 : decode cX7_settle 44 = .ok (.iload_n 1, 1) := by decide +kernel
theorem dX7_settle_45 : decode cX7_settle 45 = .ok (.iaload, 1) := by decide +kernel
theorem dX7_settle_46 : decode cX7_settle 46 = .ok (.iconst 3, 1) := by decide +kernel
theorem dX7_settle_47 : decode cX7_settle 47 = .ok (.if_icmp .ne 21, 3) := by decide +kernel
theorem dX7_settle_50 : decode cX7_settle 50 = .ok (.aload_n 0, 1) := by decide +kernel
theorem dX7_settle_51 : decode cX7_settle 51 = .ok (.getfield 67, 3) := by decide +kernel
theorem dX7_settle_54 : decode cX7_settle 54 = .ok (.iconst (-1), 1) := by decide +kernel
theorem dX7_settle_55 : decode cX7_settle 55 = .ok (.if_icmp .eq 5, 3) := by decide +kernel
theorem dX7_settle_58 : decode cX7_settle 58 = .ok (.iconst 0, 1) := by decide +kernel
theorem dX7_settle_59 : decode cX7_settle 59 = .ok (.ireturn, 1) := by decide +kernel
theorem dX7_settle_60 : decode cX7_settle 60 = .ok (.aload_n 0, 1) := by decide +kernel
theorem dX7_settle_61 : decode cX7_settle 61 = .ok (.iload_n 1, 1) := by decide +kernel
theorem dX7_settle_62 : decode cX7_settle 62 = .ok (.putfield 67, 3) := by decide +kernel
theorem dX7_settle_65 : decode cX7_settle 65 = .ok (.goto 13, 3) := by decide +kernel
theorem dX7_settle_68 : decode cX7_settle 68 = .ok (.aload_n 0, 1) := by decide +kernel
theorem dX7_settle_69 : decode cX7_settle 69 = .ok (.iload_n 1, 1) := by decide +kernel
theorem dX7_settle_70 : decode cX7_settle 70 = .ok (.invokevirtual 93, 3) := by decide +kernel
theorem dX7_settle_73 : decode cX7_settle 73 = .ok (.ifCond .ne 5, 3) := by decide +kernel
theorem dX7_settle_76 : decode cX7_settle 76 = .ok (.iconst 0, 1) := by decide +kernel
theorem dX7_settle_77 : decode cX7_settle 77 = .ok (.ireturn, 1) := by decide +kernel
theorem dX7_settle_78 : decode cX7_settle 78 = .ok (.iinc 1 1, 3) := by decide +kernel
theorem dX7_settle_81 : decode cX7_settle 81 = .ok (.goto (-55), 3) := by decide +kernel
theorem dX7_settle_84 : decode cX7_settle 84 = .ok (.aload_n 0, 1) := by decide +kernel
theorem dX7_settle_85 : decode cX7_settle 85 = .ok (.getfield 9, 3) := by decide +kernel
theorem dX7_settle_88 : decode cX7_settle 88 = .ok (.getfield 85, 3) := by decide +kernel
theorem dX7_settle_91 : decode cX7_settle 91 = .ok (.ifCond .le 22, 3) := by decide +kernel
theorem dX7_settle_94 : decode cX7_settle 94 = .ok (.aload_n 0, 1) := by decide +kernel
theorem dX7_settle_95 : decode cX7_settle 95 = .ok (.getfield 67, 3) := by decide +kernel
theorem dX7_settle_98 : decode cX7_settle 98 = .ok (.iconst (-1), 1) := by decide +kernel
theorem dX7_settle_99 : decode cX7_settle 99 = .ok (.if_icmp .eq 10, 3) := by decide +kernel
theorem dX7_settle_102 : decode cX7_settle 102 = .ok (.aload_n 0, 1) := by decide +kernel
theorem dX7_settle_103 : decode cX7_settle 103 = .ok (.invokevirtual 97, 3) := by decide +kernel
theorem dX7_settle_106 : decode cX7_settle 106 = .ok (.ifCond .eq 7, 3) := by decide +kernel
theorem dX7_settle_109 : decode cX7_settle 109 = .ok (.iconst 1, 1) := by decide +kernel
theorem dX7_settle_110 : decode cX7_settle 110 = .ok (.goto 4, 3) := by decide +kernel
theorem dX7_settle_113 : decode cX7_settle 113 = .ok (.iconst 0, 1) := by decide +kernel
theorem dX7_settle_114 : decode cX7_settle 114 = .ok (.ireturn, 1) := by decide +kernel
theorem dX7_open_0 : decode cX7_open 0 = .ok (.aload_n 0, 1) := by decide +kernel
theorem dX7_open_1 : decode cX7_open 1 = .ok (.aload_n 0, 1) := by decide +kernel
theorem dX7_open_2 : decode cX7_open 2 = .ok (.getfield 19, 3) := by decide +kernel
theorem dX7_open_5 : decode cX7_open 5 = .ok (.iload_n 1, 1) := by decide +kernel
theorem dX7_open_6 : decode cX7_open 6 = .ok (.invokevirtual 101, 3) := by decide +kernel
theorem dX7_open_9 : decode cX7_open 9 = .ok (.putfield 59, 3) := by decide +kernel
theorem dX7_open_12 : decode cX7_open 12 = .ok (.aload_n 0, 1) := by decide +kernel
theorem dX7_open_13 : decode cX7_open 13 = .ok (.aload_n 0, 1) := by decide +kernel
theorem dX7_open_14 : decode cX7_open 14 = .ok (.getfield 19, 3) := by decide +kernel
theorem dX7_open_17 : decode cX7_open 17 = .ok (.iload_n 1, 1) := by decide +kernel
theorem dX7_open_18 : decode cX7_open 18 = .ok (.aload_n 0, 1) := by decide +kernel
theorem dX7_open_19 : decode cX7_open 19 = .ok (.getfield 9, 3) := by decide +kernel
theorem dX7_open_22 : decode cX7_open 22 = .ok (.getfield 106, 3) := by decide +kernel
theorem dX7_open_25 : decode cX7_open 25 = .ok (.invokevirtual 109, 3) := by decide +kernel
theorem dX7_open_28 : decode cX7_open 28 = .ok (.putfield 63, 3) := by decide +kernel
theorem dX7_open_31 : decode cX7_open 31 = .ok (.aload_n 0, 1) := by decide +kernel
theorem dX7_open_32 : decode cX7_open 32 = .ok (.invokevirtual 112, 3) := by decide +kernel
theorem dX7_open_35 : decode cX7_open 35 = .ok (.return_, 1) := by decide +kernel
theorem dX7_isFree_0 : decode cX7_isFree 0 = .ok (.aload_n 0, 1) := by decide +kernel
theorem dX7_isFree_1 : decode cX7_isFree 1 = .ok (.getfield 63, 3) := by decide +kernel
theorem dX7_isFree_4 : decode cX7_isFree 4 = .ok (.iload_n 1, 1) := by decide +kernel
theorem dX7_isFree_5 : decode cX7_isFree 5 = .ok (.ishr, 1) := by decide +kernel
theorem dX7_isFree_6 : decode cX7_isFree 6 = .ok (.iconst 1, 1) := by decide +kernel
theorem dX7_isFree_7 : decode cX7_isFree 7 = .ok (.iand, 1) := by decide +kernel
theorem dX7_isFree_8 : decode cX7_isFree 8 = .ok (.ifCond .eq 7, 3) := by decide +kernel
theorem dX7_isFree_11 : decode cX7_isFree 11 = .ok (.iconst 1, 1) := by decide +kernel
theorem dX7_isFree_12 : decode cX7_isFree 12 = .ok (.goto 4, 3) := by decide +kernel
theorem dX7_isFree_15 : decode cX7_isFree 15 = .ok (.iconst 0, 1) := by decide +kernel
theorem dX7_isFree_16 : decode cX7_isFree 16 = .ok (.ireturn, 1) := by decide +kernel
theorem dX7_takeParts_0 : decode cX7_takeParts 0 = .ok (.iconst 0, 1) := by decide +kernel
theorem dX7_takeParts_1 : decode cX7_takeParts 1 = .ok (.istore_n 2, 1) := by decide +kernel
theorem dX7_takeParts_2 : decode cX7_takeParts 2 = .ok (.iconst 0, 1) := by decide +kernel
theorem dX7_takeParts_3 : decode cX7_takeParts 3 = .ok (.istore_n 3, 1) := by decide +kernel
theorem dX7_takeParts_4 : decode cX7_takeParts 4 = .ok (.iload_n 3, 1) := by decide +kernel
theorem dX7_takeParts_5 : decode cX7_takeParts 5 = .ok (.bipush 8, 2) := by decide +kernel
theorem dX7_takeParts_7 : decode cX7_takeParts 7 = .ok (.if_icmp .ge 58, 3) := by decide +kernel
theorem dX7_takeParts_10 : decode cX7_takeParts 10 = .ok (.aload_n 0, 1) := by decide +kernel
theorem dX7_takeParts_11 : decode cX7_takeParts 11 = .ok (.getfield 15, 3) := by decide +kernel
theorem dX7_takeParts_14 : decode cX7_takeParts 14 = .ok (.getfield 115, 3) := by decide +kernel
theorem dX7_takeParts_17 : decode cX7_takeParts 17 = .ok (.iload_n 1, 1) := by decide +kernel
theorem dX7_takeParts_18 : decode cX7_takeParts 18 = .ok (.bipush 8, 2) := by decide +kernel
theorem dX7_takeParts_20 : decode cX7_takeParts 20 = .ok (.imul, 1) := by decide +kernel
theorem dX7_takeParts_21 : decode cX7_takeParts 21 = .ok (.iload_n 3, 1) := by decide +kernel
theorem dX7_takeParts_22 : decode cX7_takeParts 22 = .ok (.iadd, 1) := by decide +kernel
theorem dX7_takeParts_23 : decode cX7_takeParts 23 = .ok (.iaload, 1) := by decide +kernel
theorem dX7_takeParts_24 : decode cX7_takeParts 24 = .ok (.istore 4, 2) := by decide +kernel
theorem dX7_takeParts_26 : decode cX7_takeParts 26 = .ok (.iload 4, 2) := by decide +kernel
theorem dX7_takeParts_28 : decode cX7_takeParts 28 = .ok (.ifCond .le 13, 3) := by decide +kernel
theorem dX7_takeParts_31 : decode cX7_takeParts 31 = .ok (.aload_n 0, 1) := by decide +kernel
theorem dX7_takeParts_32 : decode cX7_takeParts 32 = .ok (.iload_n 3, 1) := by decide +kernel
theorem dX7_takeParts_33 : decode cX7_takeParts 33 = .ok (.invokevirtual 116, 3) := by decide +kernel
theorem dX7_takeParts_36 : decode cX7_takeParts 36 = .ok (.ifCond .ne 5, 3) := by decide +kernel
theorem dX7_takeParts_39 : decode cX7_takeParts 39 = .ok (.iconst 0, 1) := by decide +kernel
theorem dX7_takeParts_40 : decode cX7_takeParts 40 = .ok (.ireturn, 1) := by decide +kernel
theorem dX7_takeParts_41 : decode cX7_takeParts 41 = .ok (.aload_n 0, 1) := by decide +kernel
theorem dX7_takeParts_42 : decode cX7_takeParts 42 = .ok (.getfield 27, 3) := by decide +kernel
theorem dX7_takeParts_45 : decode cX7_takeParts 45 = .ok (.iload_n 1, 1) := by decide +kernel
theorem dX7_takeParts_46 : decode cX7_takeParts 46 = .ok (.bipush 8, 2) := by decide +kernel
theorem dX7_takeParts_48 : decode cX7_takeParts 48 = .ok (.imul, 1) := by decide +kernel
theorem dX7_takeParts_49 : decode cX7_takeParts 49 = .ok (.iload_n 3, 1) := by decide +kernel
theorem dX7_takeParts_50 : decode cX7_takeParts 50 = .ok (.iadd, 1) := by decide +kernel
theorem dX7_takeParts_51 : decode cX7_takeParts 51 = .ok (.iload 4, 2) := by decide +kernel
theorem dX7_takeParts_53 : decode cX7_takeParts 53 = .ok (.iastore, 1) := by decide +kernel
theorem dX7_takeParts_54 : decode cX7_takeParts 54 = .ok (.iload_n 2, 1) := by decide +kernel
theorem dX7_takeParts_55 : decode cX7_takeParts 55 = .ok (.iload 4, 2) := by decide +kernel
theorem dX7_takeParts_57 : decode cX7_takeParts 57 = .ok (.iadd, 1) := by decide +kernel
theorem dX7_takeParts_58 : decode cX7_takeParts 58 = .ok (.istore_n 2, 1) := by decide +kernel
theorem dX7_takeParts_59 : decode cX7_takeParts 59 = .ok (.iinc 3 1, 3) := by decide +kernel
theorem dX7_takeParts_62 : decode cX7_takeParts 62 = .ok (.goto (-58), 3) := by decide +kernel
theorem dX7_takeParts_65 : decode cX7_takeParts 65 = .ok (.iload_n 2, 1) := by decide +kernel
theorem dX7_takeParts_66 : decode cX7_takeParts 66 = .ok (.bipush 100, 2) := by decide +kernel
theorem dX7_takeParts_68 : decode cX7_takeParts 68 = .ok (.if_icmp .ne 7, 3) := by decide +kernel
theorem dX7_takeParts_71 : decode cX7_takeParts 71 = .ok (.iconst 1, 1) := by decide +kernel
theorem dX7_takeParts_72 : decode cX7_takeParts 72 = .ok (.goto 4, 3) := by decide +kernel
theorem dX7_takeParts_75 : decode cX7_takeParts 75 = .ok (.iconst 0, 1) := by decide +kernel
theorem dX7_takeParts_76 : decode cX7_takeParts 76 = .ok (.ireturn, 1) := by decide +kernel
theorem dX7_answerAnew_0 : decode cX7_answerAnew 0 = .ok (.aload_n 0, 1) := by decide +kernel
theorem dX7_answerAnew_1 : decode cX7_answerAnew 1 = .ok (.aload_n 0, 1) := by decide +kernel
theorem dX7_answerAnew_2 : decode cX7_answerAnew 2 = .ok (.getfield 67, 3) := by decide +kernel
theorem dX7_answerAnew_5 : decode cX7_answerAnew 5 = .ok (.invokevirtual 119, 3) := by decide +kernel
theorem dX7_answerAnew_8 : decode cX7_answerAnew 8 = .ok (.aload_n 0, 1) := by decide +kernel
theorem dX7_answerAnew_9 : decode cX7_answerAnew 9 = .ok (.aload_n 0, 1) := by decide +kernel
theorem dX7_answerAnew_10 : decode cX7_answerAnew 10 = .ok (.getfield 67, 3) := by decide +kernel
theorem dX7_answerAnew_13 : decode cX7_answerAnew 13 = .ok (.invokevirtual 122, 3) := by decide +kernel
theorem dX7_answerAnew_16 : decode cX7_answerAnew 16 = .ok (.istore_n 1, 1) := by decide +kernel
theorem dX7_answerAnew_17 : decode cX7_answerAnew 17 = .ok (.iload_n 1, 1) := by decide +kernel
theorem dX7_answerAnew_18 : decode cX7_answerAnew 18 = .ok (.iconst (-1), 1) := by decide +kernel
theorem dX7_answerAnew_19 : decode cX7_answerAnew 19 = .ok (.if_icmp .ne 5, 3) := by decide +kernel
theorem dX7_answerAnew_22 : decode cX7_answerAnew 22 = .ok (.iconst 0, 1) := by decide +kernel
theorem dX7_answerAnew_23 : decode cX7_answerAnew 23 = .ok (.ireturn, 1) := by decide +kernel
theorem dX7_answerAnew_24 : decode cX7_answerAnew 24 = .ok (.aload_n 0, 1) := by decide +kernel
theorem dX7_answerAnew_25 : decode cX7_answerAnew 25 = .ok (.aload_n 0, 1) := by decide +kernel
theorem dX7_answerAnew_26 : decode cX7_answerAnew 26 = .ok (.getfield 67, 3) := by decide +kernel
theorem dX7_answerAnew_29 : decode cX7_answerAnew 29 = .ok (.iload_n 1, 1) := by decide +kernel
theorem dX7_answerAnew_30 : decode cX7_answerAnew 30 = .ok (.invokevirtual 126, 3) := by decide +kernel
theorem dX7_answerAnew_33 : decode cX7_answerAnew 33 = .ok (.iconst 1, 1) := by decide +kernel
theorem dX7_answerAnew_34 : decode cX7_answerAnew 34 = .ok (.ireturn, 1) := by decide +kernel
theorem dX7_makeSure_0 : decode cX7_makeSure 0 = .ok (.iconst 0, 1) := by decide +kernel
theorem dX7_makeSure_1 : decode cX7_makeSure 1 = .ok (.istore_n 3, 1) := by decide +kernel
theorem dX7_makeSure_2 : decode cX7_makeSure 2 = .ok (.iload_n 3, 1) := by decide +kernel
theorem dX7_makeSure_3 : decode cX7_makeSure 3 = .ok (.bipush 8, 2) := by decide +kernel
theorem dX7_makeSure_5 : decode cX7_makeSure 5 = .ok (.if_icmp .ge 31, 3) := by decide +kernel
theorem dX7_makeSure_8 : decode cX7_makeSure 8 = .ok (.aload_n 0, 1) := by decide +kernel
theorem dX7_makeSure_9 : decode cX7_makeSure 9 = .ok (.getfield 27, 3) := by decide +kernel
theorem dX7_makeSure_12 : decode cX7_makeSure 12 = .ok (.iload_n 1, 1) := by decide +kernel
theorem dX7_makeSure_13 : decode cX7_makeSure 13 = .ok (.bipush 8, 2) := by decide +kernel
theorem dX7_makeSure_15 : decode cX7_makeSure 15 = .ok (.imul, 1) := by decide +kernel
theorem dX7_makeSure_16 : decode cX7_makeSure 16 = .ok (.iload_n 3, 1) := by decide +kernel
theorem dX7_makeSure_17 : decode cX7_makeSure 17 = .ok (.iadd, 1) := by decide +kernel
theorem dX7_makeSure_18 : decode cX7_makeSure 18 = .ok (.iload_n 3, 1) := by decide +kernel
theorem dX7_makeSure_19 : decode cX7_makeSure 19 = .ok (.iload_n 2, 1) := by decide +kernel
theorem dX7_makeSure_20 : decode cX7_makeSure 20 = .ok (.if_icmp .ne 8, 3) := by decide +kernel
theorem dX7_makeSure_23 : decode cX7_makeSure 23 = .ok (.bipush 100, 2) := by decide +kernel
theorem dX7_makeSure_25 : decode cX7_makeSure 25 = .ok (.goto 4, 3) := by decide +kernel
theorem dX7_makeSure_28 : decode cX7_makeSure 28 = .ok (.iconst 0, 1) := by decide +kernel
theorem dX7_makeSure_29 : decode cX7_makeSure 29 = .ok (.iastore, 1) := by decide +kernel
theorem dX7_makeSure_30 : decode cX7_makeSure 30 = .ok (.iinc 3 1, 3) := by decide +kernel
theorem dX7_makeSure_33 : decode cX7_makeSure 33 = .ok (.goto (-31), 3) := by decide +kernel
theorem dX7_makeSure_36 : decode cX7_makeSure 36 = .ok (.return_, 1) := by decide +kernel
theorem dX7_gather_0 : decode cX7_gather 0 = .ok (.aload_n 0, 1) := by decide +kernel
theorem dX7_gather_1 : decode cX7_gather 1 = .ok (.getfield 23, 3) := by decide +kernel
theorem dX7_gather_4 : decode cX7_gather 4 = .ok (.iconst 0, 1) := by decide +kernel
theorem dX7_gather_5 : decode cX7_gather 5 = .ok (.invokestatic 79, 3) := by decide +kernel
theorem dX7_gather_8 : decode cX7_gather 8 = .ok (.iconst 0, 1) := by decide +kernel
theorem dX7_gather_9 : decode cX7_gather 9 = .ok (.istore_n 1, 1) := by decide +kernel
theorem dX7_gather_10 : decode cX7_gather 10 = .ok (.iload_n 1, 1) := by decide +kernel
theorem dX7_gather_11 : decode cX7_gather 11 = .ok (.aload_n 0, 1) := by decide +kernel
theorem dX7_gather_12 : decode cX7_gather 12 = .ok (.getfield 9, 3) := by decide +kernel
theorem dX7_gather_15 : decode cX7_gather 15 = .ok (.getfield 130, 3) := by decide +kernel
theorem dX7_gather_18 : decode cX7_gather 18 = .ok (.if_icmp .ge 71, 3) := by decide +kernel
theorem dX7_gather_21 : decode cX7_gather 21 = .ok (.iconst 1, 1) := by decide +kernel
theorem dX7_gather_22 : decode cX7_gather 22 = .ok (.istore_n 2, 1) := by decide +kernel
theorem dX7_gather_23 : decode cX7_gather 23 = .ok (.iload_n 2, 1) := by decide +kernel
theorem dX7_gather_24 : decode cX7_gather 24 = .ok (.aload_n 0, 1) := by decide +kernel
theorem dX7_gather_25 : decode cX7_gather 25 = .ok (.getfield 9, 3) := by decide +kernel
theorem dX7_gather_28 : decode cX7_gather 28 = .ok (.invokevirtual 133, 3) := by decide +kernel
theorem dX7_gather_31 : decode cX7_gather 31 = .ok (.if_icmp .gt 52, 3) := by decide +kernel
theorem dX7_gather_34 : decode cX7_gather 34 = .ok (.aload_n 0, 1) := by decide +kernel
theorem dX7_gather_35 : decode cX7_gather 35 = .ok (.getfield 9, 3) := by decide +kernel
theorem dX7_gather_38 : decode cX7_gather 38 = .ok (.iload_n 1, 1) := by decide +kernel
theorem dX7_gather_39 : decode cX7_gather 39 = .ok (.iload_n 2, 1) := by decide +kernel
theorem dX7_gather_40 : decode cX7_gather 40 = .ok (.aload_n 0, 1) := by decide +kernel
theorem dX7_gather_41 : decode cX7_gather 41 = .ok (.getfield 59, 3) := by decide +kernel
theorem dX7_gather_44 : decode cX7_gather 44 = .ok (.invokevirtual 137, 3) := by decide +kernel
theorem dX7_gather_47 : decode cX7_gather 47 = .ok (.aload_n 0, 1) := by decide +kernel
theorem dX7_gather_48 : decode cX7_gather 48 = .ok (.getfield 9, 3) := by decide +kernel
theorem dX7_gather_51 : decode cX7_gather 51 = .ok (.getfield 141, 3) := by decide +kernel
theorem dX7_gather_54 : decode cX7_gather 54 = .ok (.iload_n 1, 1) := by decide +kernel
theorem dX7_gather_55 : decode cX7_gather 55 = .ok (.iaload, 1) := by decide +kernel
theorem dX7_gather_56 : decode cX7_gather 56 = .ok (.imul, 1) := by decide +kernel
theorem dX7_gather_57 : decode cX7_gather 57 = .ok (.istore_n 3, 1) := by decide +kernel
theorem dX7_gather_58 : decode cX7_gather 58 = .ok (.iload_n 3, 1) := by decide +kernel
theorem dX7_gather_59 : decode cX7_gather 59 = .ok (.ifCond .le 18, 3) := by decide +kernel
theorem dX7_gather_62 : decode cX7_gather 62 = .ok (.aload_n 0, 1) := by decide +kernel
theorem dX7_gather_63 : decode cX7_gather 63 = .ok (.iload_n 2, 1) := by decide +kernel
theorem dX7_gather_64 : decode cX7_gather 64 = .ok (.iload_n 3, 1) := by decide +kernel
theorem dX7_gather_65 : decode cX7_gather 65 = .ok (.aload_n 0, 1) := by decide +kernel
theorem dX7_gather_66 : decode cX7_gather 66 = .ok (.getfield 9, 3) := by decide +kernel
theorem dX7_gather_69 : decode cX7_gather 69 = .ok (.getfield 144, 3) := by decide +kernel
theorem dX7_gather_72 : decode cX7_gather 72 = .ok (.iload_n 1, 1) := by decide +kernel
theorem dX7_gather_73 : decode cX7_gather 73 = .ok (.iaload, 1) := by decide +kernel
theorem dX7_gather_74 : decode cX7_gather 74 = .ok (.invokevirtual 147, 3) := by decide +kernel
theorem dX7_gather_77 : decode cX7_gather 77 = .ok (.iinc 2 1, 3) := by decide +kernel
theorem dX7_gather_80 : decode cX7_gather 80 = .ok (.goto (-57), 3) := by decide +kernel
theorem dX7_gather_83 : decode cX7_gather 83 = .ok (.iinc 1 1, 3) := by decide +kernel
theorem dX7_gather_86 : decode cX7_gather 86 = .ok (.goto (-76), 3) := by decide +kernel
theorem dX7_gather_89 : decode cX7_gather 89 = .ok (.return_, 1) := by decide +kernel
theorem dX7_addCrowd_0 : decode cX7_addCrowd 0 = .ok (.iconst 0, 1) := by decide +kernel
theorem dX7_addCrowd_1 : decode cX7_addCrowd 1 = .ok (.istore 4, 2) := by decide +kernel
theorem dX7_addCrowd_3 : decode cX7_addCrowd 3 = .ok (.iload 4, 2) := by decide +kernel
theorem dX7_addCrowd_5 : decode cX7_addCrowd 5 = .ok (.aload_n 0, 1) := by decide +kernel
theorem dX7_addCrowd_6 : decode cX7_addCrowd 6 = .ok (.getfield 9, 3) := by decide +kernel
theorem dX7_addCrowd_9 : decode cX7_addCrowd 9 = .ok (.getfield 106, 3) := by decide +kernel
theorem dX7_addCrowd_12 : decode cX7_addCrowd 12 = .ok (.if_icmp .ge 38, 3) := by decide +kernel
theorem dX7_addCrowd_15 : decode cX7_addCrowd 15 = .ok (.aload_n 0, 1) := by decide +kernel
theorem dX7_addCrowd_16 : decode cX7_addCrowd 16 = .ok (.getfield 9, 3) := by decide +kernel
theorem dX7_addCrowd_19 : decode cX7_addCrowd 19 = .ok (.iload 4, 2) := by decide +kernel
theorem dX7_addCrowd_21 : decode cX7_addCrowd 21 = .ok (.invokevirtual 151, 3) := by decide +kernel
theorem dX7_addCrowd_24 : decode cX7_addCrowd 24 = .ok (.iload_n 3, 1) := by decide +kernel
theorem dX7_addCrowd_25 : decode cX7_addCrowd 25 = .ok (.if_icmp .gt 19, 3) := by decide +kernel
theorem dX7_addCrowd_28 : decode cX7_addCrowd 28 = .ok (.aload_n 0, 1) := by decide +kernel
theorem dX7_addCrowd_29 : decode cX7_addCrowd 29 = .ok (.getfield 23, 3) := by decide +kernel
theorem dX7_addCrowd_32 : decode cX7_addCrowd 32 = .ok (.iload_n 1, 1) := by decide +kernel
theorem dX7_addCrowd_33 : decode cX7_addCrowd 33 = .ok (.bipush 8, 2) := by decide +kernel
theorem dX7_addCrowd_35 : decode cX7_addCrowd 35 = .ok (.imul, 1) := by decide +kernel
theorem dX7_addCrowd_36 : decode cX7_addCrowd 36 = .ok (.iload 4, 2) := by decide +kernel
theorem dX7_addCrowd_38 : decode cX7_addCrowd 38 = .ok (.iadd, 1) := by decide +kernel
theorem dX7_addCrowd_39 : decode cX7_addCrowd 39 = .ok (.dup2, 1) := by decide +kernel
theorem dX7_addCrowd_40 : decode cX7_addCrowd 40 = .ok (.iaload, 1) := by decide +kernel
theorem dX7_addCrowd_41 : decode cX7_addCrowd 41 = .ok (.iload_n 2, 1) := by decide +kernel
theorem dX7_addCrowd_42 : decode cX7_addCrowd 42 = .ok (.iadd, 1) := by decide +kernel
theorem dX7_addCrowd_43 : decode cX7_addCrowd 43 = .ok (.iastore, 1) := by decide +kernel
theorem dX7_addCrowd_44 : decode cX7_addCrowd 44 = .ok (.iinc 4 1, 3) := by decide +kernel
theorem dX7_addCrowd_47 : decode cX7_addCrowd 47 = .ok (.goto (-44), 3) := by decide +kernel
theorem dX7_addCrowd_50 : decode cX7_addCrowd 50 = .ok (.return_, 1) := by decide +kernel
theorem dX7_survey_0 : decode cX7_survey 0 = .ok (.aload_n 0, 1) := by decide +kernel
theorem dX7_survey_1 : decode cX7_survey 1 = .ok (.getfield 45, 3) := by decide +kernel
theorem dX7_survey_4 : decode cX7_survey 4 = .ok (.lconst 0, 1) := by decide +kernel
theorem dX7_survey_5 : decode cX7_survey 5 = .ok (.invokestatic 154, 3) := by decide +kernel
theorem dX7_survey_8 : decode cX7_survey 8 = .ok (.aload_n 0, 1) := by decide +kernel
theorem dX7_survey_9 : decode cX7_survey 9 = .ok (.getfield 49, 3) := by decide +kernel
theorem dX7_survey_12 : decode cX7_survey 12 = .ok (.lconst 0, 1) := by decide +kernel
theorem dX7_survey_13 : decode cX7_survey 13 = .ok (.invokestatic 154, 3) := by decide +kernel
theorem dX7_survey_16 : decode cX7_survey 16 = .ok (.aload_n 0, 1) := by decide +kernel
theorem dX7_survey_17 : decode cX7_survey 17 = .ok (.invokevirtual 157, 3) := by decide +kernel
theorem dX7_survey_20 : decode cX7_survey 20 = .ok (.istore_n 2, 1) := by decide +kernel
theorem dX7_survey_21 : decode cX7_survey 21 = .ok (.aload_n 0, 1) := by decide +kernel
theorem dX7_survey_22 : decode cX7_survey 22 = .ok (.invokevirtual 160, 3) := by decide +kernel
theorem dX7_survey_25 : decode cX7_survey 25 = .ok (.iconst 0, 1) := by decide +kernel
theorem dX7_survey_26 : decode cX7_survey 26 = .ok (.istore_n 3, 1) := by decide +kernel
theorem dX7_survey_27 : decode cX7_survey 27 = .ok (.iload_n 3, 1) := by decide +kernel
theorem dX7_survey_28 : decode cX7_survey 28 = .ok (.iload_n 2, 1) := by decide +kernel
theorem dX7_survey_29 : decode cX7_survey 29 = .ok (.if_icmp .ge 100, 3) := by decide +kernel
theorem dX7_survey_32 : decode cX7_survey 32 = .ok (.aload_n 0, 1) := by decide +kernel
theorem dX7_survey_33 : decode cX7_survey 33 = .ok (.iload_n 1, 1) := by decide +kernel
theorem dX7_survey_34 : decode cX7_survey 34 = .ok (.invokevirtual 163, 3) := by decide +kernel
theorem dX7_survey_37 : decode cX7_survey 37 = .ok (.lstore 4, 2) := by decide +kernel
theorem dX7_survey_39 : decode cX7_survey 39 = .ok (.lload 4, 2) := by decide +kernel
theorem dX7_survey_41 : decode cX7_survey 41 = .ok (.lconst 0, 1) := by decide +kernel
theorem dX7_survey_42 : decode cX7_survey 42 = .ok (.lcmp, 1) := by decide +kernel
theorem dX7_survey_43 : decode cX7_survey 43 = .ok (.ifCond .le 75, 3) := by decide +kernel
theorem dX7_survey_46 : decode cX7_survey 46 = .ok (.aload_n 0, 1) := by decide +kernel
theorem dX7_survey_47 : decode cX7_survey 47 = .ok (.invokevirtual 167, 3) := by decide +kernel
theorem dX7_survey_50 : decode cX7_survey 50 = .ok (.aload_n 0, 1) := by decide +kernel
theorem dX7_survey_51 : decode cX7_survey 51 = .ok (.iload_n 1, 1) := by decide +kernel
theorem dX7_survey_52 : decode cX7_survey 52 = .ok (.invokevirtual 170, 3) := by decide +kernel
theorem dX7_survey_55 : decode cX7_survey 55 = .ok (.iconst 0, 1) := by decide +kernel
theorem dX7_survey_56 : decode cX7_survey 56 = .ok (.istore 6, 2) := by decide +kernel
theorem dX7_survey_58 : decode cX7_survey 58 = .ok (.iload 6, 2) := by decide +kernel
theorem dX7_survey_60 : decode cX7_survey 60 = .ok (.aload_n 0, 1) := by decide +kernel
theorem dX7_survey_61 : decode cX7_survey 61 = .ok (.getfield 9, 3) := by decide +kernel
theorem dX7_survey_64 : decode cX7_survey 64 = .ok (.getfield 106, 3) := by decide +kernel
theorem dX7_survey_67 : decode cX7_survey 67 = .ok (.if_icmp .ge 51, 3) := by decide +kernel
theorem dX7_survey_70 : decode cX7_survey 70 = .ok (.aload_n 0, 1) := by decide +kernel
theorem dX7_survey_71 : decode cX7_survey 71 = .ok (.getfield 45, 3) := by decide +kernel
theorem dX7_survey_74 : decode cX7_survey 74 = .ok (.iload 6, 2) := by decide +kernel
theorem dX7_survey_76 : decode cX7_survey 76 = .ok (.dup2, 1) := by decide +kernel
theorem dX7_survey_77 : decode cX7_survey 77 = .ok (.laload, 1) := by decide +kernel
theorem dX7_survey_78 : decode cX7_survey 78 = .ok (.lload 4, 2) := by decide +kernel
theorem dX7_survey_80 : decode cX7_survey 80 = .ok (.aload_n 0, 1) := by decide +kernel
theorem dX7_survey_81 : decode cX7_survey 81 = .ok (.getfield 39, 3) := by decide +kernel
theorem dX7_survey_84 : decode cX7_survey 84 = .ok (.iload 6, 2) := by decide +kernel
theorem dX7_survey_86 : decode cX7_survey 86 = .ok (.iaload, 1) := by decide +kernel
theorem dX7_survey_87 : decode cX7_survey 87 = .ok (.i2l, 1) := by decide +kernel
theorem dX7_survey_88 : decode cX7_survey 88 = .ok (.lmul, 1) := by decide +kernel
theorem dX7_survey_89 : decode cX7_survey 89 = .ok (.ladd, 1) := by decide +kernel
theorem dX7_survey_90 : decode cX7_survey 90 = .ok (.lastore, 1) := by decide +kernel
theorem dX7_survey_91 : decode cX7_survey 91 = .ok (.aload_n 0, 1) := by decide +kernel
theorem dX7_survey_92 : decode cX7_survey 92 = .ok (.getfield 49, 3) := by decide +kernel
theorem dX7_survey_95 : decode cX7_survey 95 = .ok (.iload 6, 2) := by decide +kernel
theorem dX7_survey_97 : decode cX7_survey 97 = .ok (.dup2, 1) := by decide +kernel
theorem dX7_survey_98 : decode cX7_survey 98 = .ok (.laload, 1) := by decide +kernel
theorem dX7_survey_99 : decode cX7_survey 99 = .ok (.lload 4, 2) := by decide +kernel
theorem dX7_survey_101 : decode cX7_survey 101 = .ok (.aload_n 0, 1) := by decide +kernel
theorem dX7_survey_102 : decode cX7_survey 102 = .ok (.getfield 42, 3) := by decide +kernel
theorem dX7_survey_105 : decode cX7_survey 105 = .ok (.iload 6, 2) := by decide +kernel
theorem dX7_survey_107 : decode cX7_survey 107 = .ok (.iaload, 1) := by decide +kernel
theorem dX7_survey_108 : decode cX7_survey 108 = .ok (.i2l, 1) := by decide +kernel
theorem dX7_survey_109 : decode cX7_survey 109 = .ok (.lmul, 1) := by decide +kernel
theorem dX7_survey_110 : decode cX7_survey 110 = .ok (.ladd, 1) := by decide +kernel
theorem dX7_survey_111 : decode cX7_survey 111 = .ok (.lastore, 1) := by decide +kernel
theorem dX7_survey_112 : decode cX7_survey 112 = .ok (.iinc 6 1, 3) := by decide +kernel
theorem dX7_survey_115 : decode cX7_survey 115 = .ok (.goto (-57), 3) := by decide +kernel
theorem dX7_survey_118 : decode cX7_survey 118 = .ok (.aload_n 0, 1) := by decide +kernel
theorem dX7_survey_119 : decode cX7_survey 119 = .ok (.iload_n 1, 1) := by decide +kernel
theorem dX7_survey_120 : decode cX7_survey 120 = .ok (.invokevirtual 173, 3) := by decide +kernel
theorem dX7_survey_123 : decode cX7_survey 123 = .ok (.iinc 3 1, 3) := by decide +kernel
theorem dX7_survey_126 : decode cX7_survey 126 = .ok (.goto (-99), 3) := by decide +kernel
theorem dX7_survey_129 : decode cX7_survey 129 = .ok (.return_, 1) := by decide +kernel
theorem dX7_rowsOfOthers_0 : decode cX7_rowsOfOthers 0 = .ok (.iconst 1, 1) := by decide +kernel
theorem dX7_rowsOfOthers_1 : decode cX7_rowsOfOthers 1 = .ok (.istore_n 1, 1) := by decide +kernel
theorem dX7_rowsOfOthers_2 : decode cX7_rowsOfOthers 2 = .ok (.iconst 1, 1) := by decide +kernel
theorem dX7_rowsOfOthers_3 : decode cX7_rowsOfOthers 3 = .ok (.istore_n 2, 1) := by decide +kernel
theorem dX7_rowsOfOthers_4 : decode cX7_rowsOfOthers 4 = .ok (.iload_n 2, 1) := by decide +kernel
theorem dX7_rowsOfOthers_5 : decode cX7_rowsOfOthers 5 = .ok (.aload_n 0, 1) := by decide +kernel
theorem dX7_rowsOfOthers_6 : decode cX7_rowsOfOthers 6 = .ok (.getfield 9, 3) := by decide +kernel
theorem dX7_rowsOfOthers_9 : decode cX7_rowsOfOthers 9 = .ok (.getfield 85, 3) := by decide +kernel
theorem dX7_rowsOfOthers_12 : decode cX7_rowsOfOthers 12 = .ok (.if_icmp .ge 19, 3) := by decide +kernel
theorem dX7_rowsOfOthers_15 : decode cX7_rowsOfOthers 15 = .ok (.iload_n 1, 1) := by decide +kernel
theorem dX7_rowsOfOthers_16 : decode cX7_rowsOfOthers 16 = .ok (.aload_n 0, 1) := by decide +kernel
theorem dX7_rowsOfOthers_17 : decode cX7_rowsOfOthers 17 = .ok (.getfield 9, 3) := by decide +kernel
theorem dX7_rowsOfOthers_20 : decode cX7_rowsOfOthers 20 = .ok (.getfield 106, 3) := by decide +kernel
theorem dX7_rowsOfOthers_23 : decode cX7_rowsOfOthers 23 = .ok (.imul, 1) := by decide +kernel
theorem dX7_rowsOfOthers_24 : decode cX7_rowsOfOthers 24 = .ok (.istore_n 1, 1) := by decide +kernel
theorem dX7_rowsOfOthers_25 : decode cX7_rowsOfOthers 25 = .ok (.iinc 2 1, 3) := by decide +kernel
theorem dX7_rowsOfOthers_28 : decode cX7_rowsOfOthers 28 = .ok (.goto (-24), 3) := by decide +kernel
theorem dX7_rowsOfOthers_31 : decode cX7_rowsOfOthers 31 = .ok (.iload_n 1, 1) := by decide +kernel
theorem dX7_rowsOfOthers_32 : decode cX7_rowsOfOthers 32 = .ok (.ireturn, 1) := by decide +kernel
theorem dX7_firstRow_0 : decode cX7_firstRow 0 = .ok (.aload_n 0, 1) := by decide +kernel
theorem dX7_firstRow_1 : decode cX7_firstRow 1 = .ok (.getfield 30, 3) := by decide +kernel
theorem dX7_firstRow_4 : decode cX7_firstRow 4 = .ok (.iconst 0, 1) := by decide +kernel
theorem dX7_firstRow_5 : decode cX7_firstRow 5 = .ok (.invokestatic 79, 3) := by decide +kernel
theorem dX7_firstRow_8 : decode cX7_firstRow 8 = .ok (.return_, 1) := by decide +kernel
theorem dX7_nextRow_0 : decode cX7_nextRow 0 = .ok (.iconst 0, 1) := by decide +kernel
theorem dX7_nextRow_1 : decode cX7_nextRow 1 = .ok (.istore_n 2, 1) := by decide +kernel
theorem dX7_nextRow_2 : decode cX7_nextRow 2 = .ok (.iload_n 2, 1) := by decide +kernel
theorem dX7_nextRow_3 : decode cX7_nextRow 3 = .ok (.aload_n 0, 1) := by decide +kernel
theorem dX7_nextRow_4 : decode cX7_nextRow 4 = .ok (.getfield 9, 3) := by decide +kernel
theorem dX7_nextRow_7 : decode cX7_nextRow 7 = .ok (.getfield 85, 3) := by decide +kernel
theorem dX7_nextRow_10 : decode cX7_nextRow 10 = .ok (.if_icmp .ge 48, 3) := by decide +kernel
theorem dX7_nextRow_13 : decode cX7_nextRow 13 = .ok (.iload_n 2, 1) := by decide +kernel
theorem dX7_nextRow_14 : decode cX7_nextRow 14 = .ok (.iload_n 1, 1) := by decide +kernel
theorem dX7_nextRow_15 : decode cX7_nextRow 15 = .ok (.if_icmp .eq 37, 3) := by decide +kernel
theorem dX7_nextRow_18 : decode cX7_nextRow 18 = .ok (.aload_n 0, 1) := by decide +kernel
theorem dX7_nextRow_19 : decode cX7_nextRow 19 = .ok (.getfield 30, 3) := by decide +kernel
theorem dX7_nextRow_22 : decode cX7_nextRow 22 = .ok (.iload_n 2, 1) := by decide +kernel
theorem dX7_nextRow_23 : decode cX7_nextRow 23 = .ok (.dup2, 1) := by decide +kernel
theorem dX7_nextRow_24 : decode cX7_nextRow 24 = .ok (.iaload, 1) := by decide +kernel
theorem dX7_nextRow_25 : decode cX7_nextRow 25 = .ok (.iconst 1, 1) := by decide +kernel
theorem dX7_nextRow_26 : decode cX7_nextRow 26 = .ok (.iadd, 1) := by decide +kernel
theorem dX7_nextRow_27 : decode cX7_nextRow 27 = .ok (.iastore, 1) := by decide +kernel
theorem dX7_nextRow_28 : decode cX7_nextRow 28 = .ok (.aload_n 0, 1) := by decide +kernel
theorem dX7_nextRow_29 : decode cX7_nextRow 29 = .ok (.getfield 30, 3) := by decide +kernel
theorem dX7_nextRow_32 : decode cX7_nextRow 32 = .ok (.iload_n 2, 1) := by decide +kernel
theorem dX7_nextRow_33 : decode cX7_nextRow 33 = .ok (.iaload, 1) := by decide +kernel
theorem dX7_nextRow_34 : decode cX7_nextRow 34 = .ok (.aload_n 0, 1) := by decide +kernel
theorem dX7_nextRow_35 : decode cX7_nextRow 35 = .ok (.getfield 9, 3) := by decide +kernel
theorem dX7_nextRow_38 : decode cX7_nextRow 38 = .ok (.getfield 106, 3) := by decide +kernel
theorem dX7_nextRow_41 : decode cX7_nextRow 41 = .ok (.if_icmp .ge 4, 3) := by decide +kernel
theorem dX7_nextRow_44 : decode cX7_nextRow 44 = .ok (.return_, 1) := by decide +kernel
theorem dX7_nextRow_45 : decode cX7_nextRow 45 = .ok (.aload_n 0, 1) := by decide +kernel
theorem dX7_nextRow_46 : decode cX7_nextRow 46 = .ok (.getfield 30, 3) := by decide +kernel
theorem dX7_nextRow_49 : decode cX7_nextRow 49 = .ok (.iload_n 2, 1) := by decide +kernel
theorem dX7_nextRow_50 : decode cX7_nextRow 50 = .ok (.iconst 0, 1) := by decide +kernel
theorem dX7_nextRow_51 : decode cX7_nextRow 51 = .ok (.iastore, 1) := by decide +kernel
theorem dX7_nextRow_52 : decode cX7_nextRow 52 = .ok (.iinc 2 1, 3) := by decide +kernel
theorem dX7_nextRow_55 : decode cX7_nextRow 55 = .ok (.goto (-53), 3) := by decide +kernel
theorem dX7_nextRow_58 : decode cX7_nextRow 58 = .ok (.return_, 1) := by decide +kernel
theorem dX7_weightOfOthers_0 : decode cX7_weightOfOthers 0 = .ok (.lconst 1, 1) := by decide +kernel
theorem dX7_weightOfOthers_1 : decode cX7_weightOfOthers 1 = .ok (.lstore_n 2, 1) := by decide +kernel
theorem dX7_weightOfOthers_2 : decode cX7_weightOfOthers 2 = .ok (.iconst 0, 1) := by decide +kernel
theorem dX7_weightOfOthers_3 : decode cX7_weightOfOthers 3 = .ok (.istore 4, 2) := by decide +kernel
theorem dX7_weightOfOthers_5 : decode cX7_weightOfOthers 5 = .ok (.iload 4, 2) := by decide +kernel
theorem dX7_weightOfOthers_7 : decode cX7_weightOfOthers 7 = .ok (.aload_n 0, 1) := by decide +kernel
theorem dX7_weightOfOthers_8 : decode cX7_weightOfOthers 8 = .ok (.getfield 9, 3) := by decide +kernel
theorem dX7_weightOfOthers_11 : decode cX7_weightOfOthers 11 = .ok (.getfield 85, 3) := by decide +kernel
theorem dX7_weightOfOthers_14 : decode cX7_weightOfOthers 14 = .ok (.if_icmp .ge 43, 3) := by decide +kernel
theorem dX7_weightOfOthers_17 : decode cX7_weightOfOthers 17 = .ok (.lload_n 2, 1) := by decide +kernel
theorem dX7_weightOfOthers_18 : decode cX7_weightOfOthers 18 = .ok (.lconst 0, 1) := by decide +kernel
theorem dX7_weightOfOthers_19 : decode cX7_weightOfOthers 19 = .ok (.lcmp, 1) := by decide +kernel
theorem dX7_weightOfOthers_20 : decode cX7_weightOfOthers 20 = .ok (.ifCond .le 37, 3) := by decide +kernel
theorem dX7_weightOfOthers_23 : decode cX7_weightOfOthers 23 = .ok (.iload 4, 2) := by decide +kernel
theorem dX7_weightOfOthers_25 : decode cX7_weightOfOthers 25 = .ok (.iload_n 1, 1) := by decide +kernel
theorem dX7_weightOfOthers_26 : decode cX7_weightOfOthers 26 = .ok (.if_icmp .eq 25, 3) := by decide +kernel
theorem dX7_weightOfOthers_29 : decode cX7_weightOfOthers 29 = .ok (.lload_n 2, 1) := by decide +kernel
theorem dX7_weightOfOthers_30 : decode cX7_weightOfOthers 30 = .ok (.aload_n 0, 1) := by decide +kernel
theorem dX7_weightOfOthers_31 : decode cX7_weightOfOthers 31 = .ok (.getfield 27, 3) := by decide +kernel
theorem dX7_weightOfOthers_34 : decode cX7_weightOfOthers 34 = .ok (.iload 4, 2) := by decide +kernel
theorem dX7_weightOfOthers_36 : decode cX7_weightOfOthers 36 = .ok (.bipush 8, 2) := by decide +kernel
theorem dX7_weightOfOthers_38 : decode cX7_weightOfOthers 38 = .ok (.imul, 1) := by decide +kernel
theorem dX7_weightOfOthers_39 : decode cX7_weightOfOthers 39 = .ok (.aload_n 0, 1) := by decide +kernel
theorem dX7_weightOfOthers_40 : decode cX7_weightOfOthers 40 = .ok (.getfield 30, 3) := by decide +kernel
theorem dX7_weightOfOthers_43 : decode cX7_weightOfOthers 43 = .ok (.iload 4, 2) := by decide +kernel
theorem dX7_weightOfOthers_45 : decode cX7_weightOfOthers 45 = .ok (.iaload, 1) := by decide +kernel
theorem dX7_weightOfOthers_46 : decode cX7_weightOfOthers 46 = .ok (.iadd, 1) := by decide +kernel
theorem dX7_weightOfOthers_47 : decode cX7_weightOfOthers 47 = .ok (.iaload, 1) := by decide +kernel
theorem dX7_weightOfOthers_48 : decode cX7_weightOfOthers 48 = .ok (.i2l, 1) := by decide +kernel
theorem dX7_weightOfOthers_49 : decode cX7_weightOfOthers 49 = .ok (.lmul, 1) := by decide +kernel
theorem dX7_weightOfOthers_50 : decode cX7_weightOfOthers 50 = .ok (.lstore_n 2, 1) := by decide +kernel
theorem dX7_weightOfOthers_51 : decode cX7_weightOfOthers 51 = .ok (.iinc 4 1, 3) := by decide +kernel
theorem dX7_weightOfOthers_54 : decode cX7_weightOfOthers 54 = .ok (.goto (-49), 3) := by decide +kernel
theorem dX7_weightOfOthers_57 : decode cX7_weightOfOthers 57 = .ok (.lload_n 2, 1) := by decide +kernel
theorem dX7_weightOfOthers_58 : decode cX7_weightOfOthers 58 = .ok (.lreturn, 1) := by decide +kernel
theorem dX7_readRow_0 : decode cX7_readRow 0 = .ok (.aload_n 0, 1) := by decide +kernel
theorem dX7_readRow_1 : decode cX7_readRow 1 = .ok (.getfield 33, 3) := by decide +kernel
theorem dX7_readRow_4 : decode cX7_readRow 4 = .ok (.iconst 0, 1) := by decide +kernel
theorem dX7_readRow_5 : decode cX7_readRow 5 = .ok (.bipush 8, 2) := by decide +kernel
theorem dX7_readRow_7 : decode cX7_readRow 7 = .ok (.iastore, 1) := by decide +kernel
theorem dX7_readRow_8 : decode cX7_readRow 8 = .ok (.aload_n 0, 1) := by decide +kernel
theorem dX7_readRow_9 : decode cX7_readRow 9 = .ok (.getfield 36, 3) := by decide +kernel
theorem dX7_readRow_12 : decode cX7_readRow 12 = .ok (.iconst 0, 1) := by decide +kernel
theorem dX7_readRow_13 : decode cX7_readRow 13 = .ok (.iconst 0, 1) := by decide +kernel
theorem dX7_readRow_14 : decode cX7_readRow 14 = .ok (.iastore, 1) := by decide +kernel
theorem dX7_readRow_15 : decode cX7_readRow 15 = .ok (.iconst 0, 1) := by decide +kernel
theorem dX7_readRow_16 : decode cX7_readRow 16 = .ok (.istore_n 1, 1) := by decide +kernel
theorem dX7_readRow_17 : decode cX7_readRow 17 = .ok (.iload_n 1, 1) := by decide +kernel
theorem dX7_readRow_18 : decode cX7_readRow 18 = .ok (.aload_n 0, 1) := by decide +kernel
theorem dX7_readRow_19 : decode cX7_readRow 19 = .ok (.getfield 9, 3) := by decide +kernel
theorem dX7_readRow_22 : decode cX7_readRow 22 = .ok (.getfield 85, 3) := by decide +kernel
theorem dX7_readRow_25 : decode cX7_readRow 25 = .ok (.if_icmp .ge 115, 3) := by decide +kernel
theorem dX7_readRow_28 : decode cX7_readRow 28 = .ok (.iconst 1, 1) := by decide +kernel
theorem dX7_readRow_29 : decode cX7_readRow 29 = .ok (.iload_n 1, 1) := by decide +kernel
theorem dX7_readRow_30 : decode cX7_readRow 30 = .ok (.ishl, 1) := by decide +kernel
theorem dX7_readRow_31 : decode cX7_readRow 31 = .ok (.istore_n 2, 1) := by decide +kernel
theorem dX7_readRow_32 : decode cX7_readRow 32 = .ok (.iload_n 2, 1) := by decide +kernel
theorem dX7_readRow_33 : decode cX7_readRow 33 = .ok (.iconst 2, 1) := by decide +kernel
theorem dX7_readRow_34 : decode cX7_readRow 34 = .ok (.iload_n 1, 1) := by decide +kernel
theorem dX7_readRow_35 : decode cX7_readRow 35 = .ok (.ishl, 1) := by decide +kernel
theorem dX7_readRow_36 : decode cX7_readRow 36 = .ok (.if_icmp .ge 98, 3) := by decide +kernel
theorem dX7_readRow_39 : decode cX7_readRow 39 = .ok (.iload_n 2, 1) := by decide +kernel
theorem dX7_readRow_40 : decode cX7_readRow 40 = .ok (.iconst 1, 1) := by decide +kernel
theorem dX7_readRow_41 : decode cX7_readRow 41 = .ok (.iload_n 1, 1) := by decide +kernel
theorem dX7_readRow_42 : decode cX7_readRow 42 = .ok (.ishl, 1) := by decide +kernel
theorem dX7_readRow_43 : decode cX7_readRow 43 = .ok (.isub, 1) := by decide +kernel
theorem dX7_readRow_44 : decode cX7_readRow 44 = .ok (.istore_n 3, 1) := by decide +kernel
theorem dX7_readRow_45 : decode cX7_readRow 45 = .ok (.aload_n 0, 1) := by decide +kernel
theorem dX7_readRow_46 : decode cX7_readRow 46 = .ok (.getfield 30, 3) := by decide +kernel
theorem dX7_readRow_49 : decode cX7_readRow 49 = .ok (.iload_n 1, 1) := by decide +kernel
theorem dX7_readRow_50 : decode cX7_readRow 50 = .ok (.iaload, 1) := by decide +kernel
theorem dX7_readRow_51 : decode cX7_readRow 51 = .ok (.aload_n 0, 1) := by decide +kernel
theorem dX7_readRow_52 : decode cX7_readRow 52 = .ok (.getfield 33, 3) := by decide +kernel
theorem dX7_readRow_55 : decode cX7_readRow 55 = .ok (.iload_n 3, 1) := by decide +kernel
theorem dX7_readRow_56 : decode cX7_readRow 56 = .ok (.iaload, 1) := by decide +kernel
theorem dX7_readRow_57 : decode cX7_readRow 57 = .ok (.if_icmp .gt 9, 3) := by decide +kernel
theorem dX7_readRow_60 : decode cX7_readRow 60 = .ok (.iconst 1, 1) := by decide +kernel
theorem dX7_readRow_61 : decode cX7_readRow 61 = .ok (.iload_n 1, 1) := by decide +kernel
theorem dX7_readRow_62 : decode cX7_readRow 62 = .ok (.ishl, 1) := by decide +kernel
theorem dX7_readRow_63 : decode cX7_readRow 63 = .ok (.goto 4, 3) := by decide +kernel
theorem dX7_readRow_66 : decode cX7_readRow 66 = .ok (.iconst 0, 1) := by decide +kernel
theorem dX7_readRow_67 : decode cX7_readRow 67 = .ok (.istore 4, 2) := by decide +kernel
theorem dX7_readRow_69 : decode cX7_readRow 69 = .ok (.aload_n 0, 1) := by decide +kernel
theorem dX7_readRow_70 : decode cX7_readRow 70 = .ok (.getfield 30, 3) := by decide +kernel
theorem dX7_readRow_73 : decode cX7_readRow 73 = .ok (.iload_n 1, 1) := by decide +kernel
theorem dX7_readRow_74 : decode cX7_readRow 74 = .ok (.iaload, 1) := by decide +kernel
theorem dX7_readRow_75 : decode cX7_readRow 75 = .ok (.aload_n 0, 1) := by decide +kernel
theorem dX7_readRow_76 : decode cX7_readRow 76 = .ok (.getfield 33, 3) := by decide +kernel
theorem dX7_readRow_79 : decode cX7_readRow 79 = .ok (.iload_n 3, 1) := by decide +kernel
theorem dX7_readRow_80 : decode cX7_readRow 80 = .ok (.iaload, 1) := by decide +kernel
theorem dX7_readRow_81 : decode cX7_readRow 81 = .ok (.if_icmp .lt 12, 3) := by decide +kernel
theorem dX7_readRow_84 : decode cX7_readRow 84 = .ok (.aload_n 0, 1) := by decide +kernel
theorem dX7_readRow_85 : decode cX7_readRow 85 = .ok (.getfield 36, 3) := by decide +kernel
theorem dX7_readRow_88 : decode cX7_readRow 88 = .ok (.iload_n 3, 1) := by decide +kernel
theorem dX7_readRow_89 : decode cX7_readRow 89 = .ok (.iaload, 1) := by decide +kernel
theorem dX7_readRow_90 : decode cX7_readRow 90 = .ok (.goto 4, 3) := by decide +kernel
theorem dX7_readRow_93 : decode cX7_readRow 93 = .ok (.iconst 0, 1) := by decide +kernel
theorem dX7_readRow_94 : decode cX7_readRow 94 = .ok (.istore 5, 2) := by decide +kernel
theorem dX7_readRow_96 : decode cX7_readRow 96 = .ok (.aload_n 0, 1) := by decide +kernel
theorem dX7_readRow_97 : decode cX7_readRow 97 = .ok (.getfield 33, 3) := by decide +kernel
theorem dX7_readRow_100 : decode cX7_readRow 100 = .ok (.iload_n 2, 1) := by decide +kernel
theorem dX7_readRow_101 : decode cX7_readRow 101 = .ok (.aload_n 0, 1) := by decide +kernel
theorem dX7_readRow_102 : decode cX7_readRow 102 = .ok (.getfield 30, 3) := by decide +kernel
theorem dX7_readRow_105 : decode cX7_readRow 105 = .ok (.iload_n 1, 1) := by decide +kernel
theorem dX7_readRow_106 : decode cX7_readRow 106 = .ok (.iaload, 1) := by decide +kernel
theorem dX7_readRow_107 : decode cX7_readRow 107 = .ok (.aload_n 0, 1) := by decide +kernel
theorem dX7_readRow_108 : decode cX7_readRow 108 = .ok (.getfield 33, 3) := by decide +kernel
theorem dX7_readRow_111 : decode cX7_readRow 111 = .ok (.iload_n 3, 1) := by decide +kernel
theorem dX7_readRow_112 : decode cX7_readRow 112 = .ok (.iaload, 1) := by decide +kernel
theorem dX7_readRow_113 : decode cX7_readRow 113 = .ok (.invokestatic 176, 3) := by decide +kernel
theorem dX7_readRow_116 : decode cX7_readRow 116 = .ok (.iastore, 1) := by decide +kernel
theorem dX7_readRow_117 : decode cX7_readRow 117 = .ok (.aload_n 0, 1) := by decide +kernel
theorem dX7_readRow_118 : decode cX7_readRow 118 = .ok (.getfield 36, 3) := by decide +kernel
theorem dX7_readRow_121 : decode cX7_readRow 121 = .ok (.iload_n 2, 1) := by decide +kernel
theorem dX7_readRow_122 : decode cX7_readRow 122 = .ok (.iload 4, 2) := by decide +kernel
theorem dX7_readRow_124 : decode cX7_readRow 124 = .ok (.iload 5, 2) := by decide +kernel
theorem dX7_readRow_126 : decode cX7_readRow 126 = .ok (.ior, 1) := by decide +kernel
theorem dX7_readRow_127 : decode cX7_readRow 127 = .ok (.iastore, 1) := by decide +kernel
theorem dX7_readRow_128 : decode cX7_readRow 128 = .ok (.iinc 2 1, 3) := by decide +kernel
theorem dX7_readRow_131 : decode cX7_readRow 131 = .ok (.goto (-99), 3) := by decide +kernel
theorem dX7_readRow_134 : decode cX7_readRow 134 = .ok (.iinc 1 1, 3) := by decide +kernel
theorem dX7_readRow_137 : decode cX7_readRow 137 = .ok (.goto (-120), 3) := by decide +kernel
theorem dX7_readRow_140 : decode cX7_readRow 140 = .ok (.return_, 1) := by decide +kernel
theorem dX7_weigh_0 : decode cX7_weigh 0 = .ok (.aload_n 0, 1) := by decide +kernel
theorem dX7_weigh_1 : decode cX7_weigh 1 = .ok (.getfield 39, 3) := by decide +kernel
theorem dX7_weigh_4 : decode cX7_weigh 4 = .ok (.iconst 0, 1) := by decide +kernel
theorem dX7_weigh_5 : decode cX7_weigh 5 = .ok (.invokestatic 79, 3) := by decide +kernel
theorem dX7_weigh_8 : decode cX7_weigh 8 = .ok (.aload_n 0, 1) := by decide +kernel
theorem dX7_weigh_9 : decode cX7_weigh 9 = .ok (.getfield 42, 3) := by decide +kernel
theorem dX7_weigh_12 : decode cX7_weigh 12 = .ok (.iconst 0, 1) := by decide +kernel
theorem dX7_weigh_13 : decode cX7_weigh 13 = .ok (.invokestatic 79, 3) := by decide +kernel
theorem dX7_weigh_16 : decode cX7_weigh 16 = .ok (.aload_n 0, 1) := by decide +kernel
theorem dX7_weigh_17 : decode cX7_weigh 17 = .ok (.getfield 15, 3) := by decide +kernel
theorem dX7_weigh_20 : decode cX7_weigh 20 = .ok (.iload_n 1, 1) := by decide +kernel
theorem dX7_weigh_21 : decode cX7_weigh 21 = .ok (.invokevirtual 181, 3) := by decide +kernel
theorem dX7_weigh_24 : decode cX7_weigh 24 = .ok (.istore_n 2, 1) := by decide +kernel
theorem dX7_weigh_25 : decode cX7_weigh 25 = .ok (.iconst 1, 1) := by decide +kernel
theorem dX7_weigh_26 : decode cX7_weigh 26 = .ok (.iload_n 1, 1) := by decide +kernel
theorem dX7_weigh_27 : decode cX7_weigh 27 = .ok (.ishl, 1) := by decide +kernel
theorem dX7_weigh_28 : decode cX7_weigh 28 = .ok (.istore_n 3, 1) := by decide +kernel
theorem dX7_weigh_29 : decode cX7_weigh 29 = .ok (.iload_n 3, 1) := by decide +kernel
theorem dX7_weigh_30 : decode cX7_weigh 30 = .ok (.aload_n 0, 1) := by decide +kernel
theorem dX7_weigh_31 : decode cX7_weigh 31 = .ok (.getfield 9, 3) := by decide +kernel
theorem dX7_weigh_34 : decode cX7_weigh 34 = .ok (.invokevirtual 133, 3) := by decide +kernel
theorem dX7_weigh_37 : decode cX7_weigh 37 = .ok (.if_icmp .gt 195, 3) := by decide +kernel
theorem dX7_weigh_40 : decode cX7_weigh 40 = .ok (.iload_n 3, 1) := by decide +kernel
theorem dX7_weigh_41 : decode cX7_weigh 41 = .ok (.iload_n 1, 1) := by decide +kernel
theorem dX7_weigh_42 : decode cX7_weigh 42 = .ok (.ishr, 1) := by decide +kernel
theorem dX7_weigh_43 : decode cX7_weigh 43 = .ok (.iconst 1, 1) := by decide +kernel
theorem dX7_weigh_44 : decode cX7_weigh 44 = .ok (.iand, 1) := by decide +kernel
theorem dX7_weigh_45 : decode cX7_weigh 45 = .ok (.ifCond .eq 181, 3) := by decide +kernel
theorem dX7_weigh_48 : decode cX7_weigh 48 = .ok (.aload_n 0, 1) := by decide +kernel
theorem dX7_weigh_49 : decode cX7_weigh 49 = .ok (.getfield 23, 3) := by decide +kernel
theorem dX7_weigh_52 : decode cX7_weigh 52 = .ok (.iload_n 3, 1) := by decide +kernel
theorem dX7_weigh_53 : decode cX7_weigh 53 = .ok (.bipush 8, 2) := by decide +kernel
theorem dX7_weigh_55 : decode cX7_weigh 55 = .ok (.imul, 1) := by decide +kernel
theorem dX7_weigh_56 : decode cX7_weigh 56 = .ok (.iaload, 1) := by decide +kernel
theorem dX7_weigh_57 : decode cX7_weigh 57 = .ok (.ifCond .le 169, 3) := by decide +kernel
theorem dX7_weigh_60 : decode cX7_weigh 60 = .ok (.iload_n 3, 1) := by decide +kernel
theorem dX7_weigh_61 : decode cX7_weigh 61 = .ok (.iconst 1, 1) := by decide +kernel
theorem dX7_weigh_62 : decode cX7_weigh 62 = .ok (.iload_n 1, 1) := by decide +kernel
theorem dX7_weigh_63 : decode cX7_weigh 63 = .ok (.ishl, 1) := by decide +kernel
theorem dX7_weigh_64 : decode cX7_weigh 64 = .ok (.iconst (-1), 1) := by decide +kernel
theorem dX7_weigh_65 : decode cX7_weigh 65 = .ok (.ixor, 1) := by decide +kernel
theorem dX7_weigh_66 : decode cX7_weigh 66 = .ok (.iand, 1) := by decide +kernel
theorem dX7_weigh_67 : decode cX7_weigh 67 = .ok (.istore 4, 2) := by decide +kernel
theorem dX7_weigh_69 : decode cX7_weigh 69 = .ok (.aload_n 0, 1) := by decide +kernel
theorem dX7_weigh_70 : decode cX7_weigh 70 = .ok (.getfield 33, 3) := by decide +kernel
theorem dX7_weigh_73 : decode cX7_weigh 73 = .ok (.iload 4, 2) := by decide +kernel
theorem dX7_weigh_75 : decode cX7_weigh 75 = .ok (.iaload, 1) := by decide +kernel
theorem dX7_weigh_76 : decode cX7_weigh 76 = .ok (.istore 5, 2) := by decide +kernel
theorem dX7_weigh_78 : decode cX7_weigh 78 = .ok (.iload 4, 2) := by decide +kernel
theorem dX7_weigh_80 : decode cX7_weigh 80 = .ok (.aload_n 0, 1) := by decide +kernel
theorem dX7_weigh_81 : decode cX7_weigh 81 = .ok (.getfield 15, 3) := by decide +kernel
theorem dX7_weigh_84 : decode cX7_weigh 84 = .ok (.getfield 184, 3) := by decide +kernel
theorem dX7_weigh_87 : decode cX7_weigh 87 = .ok (.iand, 1) := by decide +kernel
theorem dX7_weigh_88 : decode cX7_weigh 88 = .ok (.istore 6, 2) := by decide +kernel
theorem dX7_weigh_90 : decode cX7_weigh 90 = .ok (.bipush 12, 2) := by decide +kernel
theorem dX7_weigh_92 : decode cX7_weigh 92 = .ok (.iconst 1, 1) := by decide +kernel
theorem dX7_weigh_93 : decode cX7_weigh 93 = .ok (.iload 6, 2) := by decide +kernel
theorem dX7_weigh_95 : decode cX7_weigh 95 = .ok (.invokestatic 186, 3) := by decide +kernel
theorem dX7_weigh_98 : decode cX7_weigh 98 = .ok (.iadd, 1) := by decide +kernel
theorem dX7_weigh_99 : decode cX7_weigh 99 = .ok (.idiv, 1) := by decide +kernel
theorem dX7_weigh_100 : decode cX7_weigh 100 = .ok (.istore 7, 2) := by decide +kernel
theorem dX7_weigh_102 : decode cX7_weigh 102 = .ok (.bipush 12, 2) := by decide +kernel
theorem dX7_weigh_104 : decode cX7_weigh 104 = .ok (.iconst 1, 1) := by decide +kernel
theorem dX7_weigh_105 : decode cX7_weigh 105 = .ok (.iload 6, 2) := by decide +kernel
theorem dX7_weigh_107 : decode cX7_weigh 107 = .ok (.aload_n 0, 1) := by decide +kernel
theorem dX7_weigh_108 : decode cX7_weigh 108 = .ok (.getfield 36, 3) := by decide +kernel
theorem dX7_weigh_111 : decode cX7_weigh 111 = .ok (.iload 4, 2) := by decide +kernel
theorem dX7_weigh_113 : decode cX7_weigh 113 = .ok (.iaload, 1) := by decide +kernel
theorem dX7_weigh_114 : decode cX7_weigh 114 = .ok (.ior, 1) := by decide +kernel
theorem dX7_weigh_115 : decode cX7_weigh 115 = .ok (.invokestatic 186, 3) := by decide +kernel
theorem dX7_weigh_118 : decode cX7_weigh 118 = .ok (.iadd, 1) := by decide +kernel
theorem dX7_weigh_119 : decode cX7_weigh 119 = .ok (.idiv, 1) := by decide +kernel
theorem dX7_weigh_120 : decode cX7_weigh 120 = .ok (.istore 8, 2) := by decide +kernel
theorem dX7_weigh_122 : decode cX7_weigh 122 = .ok (.iconst 0, 1) := by decide +kernel
theorem dX7_weigh_123 : decode cX7_weigh 123 = .ok (.istore 9, 2) := by decide +kernel
theorem dX7_weigh_125 : decode cX7_weigh 125 = .ok (.iload 9, 2) := by decide +kernel
theorem dX7_weigh_127 : decode cX7_weigh 127 = .ok (.aload_n 0, 1) := by decide +kernel
theorem dX7_weigh_128 : decode cX7_weigh 128 = .ok (.getfield 9, 3) := by decide +kernel
theorem dX7_weigh_131 : decode cX7_weigh 131 = .ok (.getfield 106, 3) := by decide +kernel
theorem dX7_weigh_134 : decode cX7_weigh 134 = .ok (.if_icmp .ge 92, 3) := by decide +kernel
theorem dX7_weigh_137 : decode cX7_weigh 137 = .ok (.iload 9, 2) := by decide +kernel
theorem dX7_weigh_139 : decode cX7_weigh 139 = .ok (.iload 5, 2) := by decide +kernel
theorem dX7_weigh_141 : decode cX7_weigh 141 = .ok (.if_icmp .le 7, 3) := by decide +kernel
theorem dX7_weigh_144 : decode cX7_weigh 144 = .ok (.iload_n 2, 1) := by decide +kernel
theorem dX7_weigh_145 : decode cX7_weigh 145 = .ok (.ifCond .eq 81, 3) := by decide +kernel
theorem dX7_weigh_148 : decode cX7_weigh 148 = .ok (.iload 9, 2) := by decide +kernel
theorem dX7_weigh_150 : decode cX7_weigh 150 = .ok (.iload 5, 2) := by decide +kernel
theorem dX7_weigh_152 : decode cX7_weigh 152 = .ok (.invokestatic 176, 3) := by decide +kernel
theorem dX7_weigh_155 : decode cX7_weigh 155 = .ok (.istore 10, 2) := by decide +kernel
theorem dX7_weigh_157 : decode cX7_weigh 157 = .ok (.aload_n 0, 1) := by decide +kernel
theorem dX7_weigh_158 : decode cX7_weigh 158 = .ok (.getfield 23, 3) := by decide +kernel
theorem dX7_weigh_161 : decode cX7_weigh 161 = .ok (.iload_n 3, 1) := by decide +kernel
theorem dX7_weigh_162 : decode cX7_weigh 162 = .ok (.bipush 8, 2) := by decide +kernel
theorem dX7_weigh_164 : decode cX7_weigh 164 = .ok (.imul, 1) := by decide +kernel
theorem dX7_weigh_165 : decode cX7_weigh 165 = .ok (.iload 10, 2) := by decide +kernel
theorem dX7_weigh_167 : decode cX7_weigh 167 = .ok (.iadd, 1) := by decide +kernel
theorem dX7_weigh_168 : decode cX7_weigh 168 = .ok (.iaload, 1) := by decide +kernel
theorem dX7_weigh_169 : decode cX7_weigh 169 = .ok (.iload 9, 2) := by decide +kernel
theorem dX7_weigh_171 : decode cX7_weigh 171 = .ok (.iload 5, 2) := by decide +kernel
theorem dX7_weigh_173 : decode cX7_weigh 173 = .ok (.if_icmp .ge 8, 3) := by decide +kernel
theorem dX7_weigh_176 : decode cX7_weigh 176 = .ok (.iload 7, 2) := by decide +kernel
theorem dX7_weigh_178 : decode cX7_weigh 178 = .ok (.goto 5, 3) := by decide +kernel
theorem dX7_weigh_181 : decode cX7_weigh 181 = .ok (.iload 8, 2) := by decide +kernel
theorem dX7_weigh_183 : decode cX7_weigh 183 = .ok (.imul, 1) := by decide +kernel
theorem dX7_weigh_184 : decode cX7_weigh 184 = .ok (.istore 11, 2) := by decide +kernel
theorem dX7_weigh_186 : decode cX7_weigh 186 = .ok (.aload_n 0, 1) := by decide +kernel
theorem dX7_weigh_187 : decode cX7_weigh 187 = .ok (.getfield 39, 3) := by decide +kernel
theorem dX7_weigh_190 : decode cX7_weigh 190 = .ok (.iload 9, 2) := by decide +kernel
theorem dX7_weigh_192 : decode cX7_weigh 192 = .ok (.dup2, 1) := by decide +kernel
theorem dX7_weigh_193 : decode cX7_weigh 193 = .ok (.iaload, 1) := by decide +kernel
theorem dX7_weigh_194 : decode cX7_weigh 194 = .ok (.iload 11, 2) := by decide +kernel
theorem dX7_weigh_196 : decode cX7_weigh 196 = .ok (.iadd, 1) := by decide +kernel
theorem dX7_weigh_197 : decode cX7_weigh 197 = .ok (.iastore, 1) := by decide +kernel
theorem dX7_weigh_198 : decode cX7_weigh 198 = .ok (.aload_n 0, 1) := by decide +kernel
theorem dX7_weigh_199 : decode cX7_weigh 199 = .ok (.getfield 42, 3) := by decide +kernel
theorem dX7_weigh_202 : decode cX7_weigh 202 = .ok (.iload 9, 2) := by decide +kernel
theorem dX7_weigh_204 : decode cX7_weigh 204 = .ok (.dup2, 1) := by decide +kernel
theorem dX7_weigh_205 : decode cX7_weigh 205 = .ok (.iaload, 1) := by decide +kernel
theorem dX7_weigh_206 : decode cX7_weigh 206 = .ok (.iload 11, 2) := by decide +kernel
theorem dX7_weigh_208 : decode cX7_weigh 208 = .ok (.aload_n 0, 1) := by decide +kernel
theorem dX7_weigh_209 : decode cX7_weigh 209 = .ok (.getfield 9, 3) := by decide +kernel
theorem dX7_weigh_212 : decode cX7_weigh 212 = .ok (.iload 10, 2) := by decide +kernel
theorem dX7_weigh_214 : decode cX7_weigh 214 = .ok (.invokevirtual 151, 3) := by decide +kernel
theorem dX7_weigh_217 : decode cX7_weigh 217 = .ok (.imul, 1) := by decide +kernel
theorem dX7_weigh_218 : decode cX7_weigh 218 = .ok (.iadd, 1) := by decide +kernel
theorem dX7_weigh_219 : decode cX7_weigh 219 = .ok (.iastore, 1) := by decide +kernel
theorem dX7_weigh_220 : decode cX7_weigh 220 = .ok (.iinc 9 1, 3) := by decide +kernel
theorem dX7_weigh_223 : decode cX7_weigh 223 = .ok (.goto (-98), 3) := by decide +kernel
theorem dX7_weigh_226 : decode cX7_weigh 226 = .ok (.iinc 3 1, 3) := by decide +kernel
theorem dX7_weigh_229 : decode cX7_weigh 229 = .ok (.goto (-200), 3) := by decide +kernel
theorem dX7_weigh_232 : decode cX7_weigh 232 = .ok (.return_, 1) := by decide +kernel
theorem dX7_gainAt_0 : decode cX7_gainAt 0 = .ok (.aload_n 0, 1) := by decide +kernel
theorem dX7_gainAt_1 : decode cX7_gainAt 1 = .ok (.getfield 49, 3) := by decide +kernel
theorem dX7_gainAt_4 : decode cX7_gainAt 4 = .ok (.iload_n 2, 1) := by decide +kernel
theorem dX7_gainAt_5 : decode cX7_gainAt 5 = .ok (.laload, 1) := by decide +kernel
theorem dX7_gainAt_6 : decode cX7_gainAt 6 = .ok (.aload_n 0, 1) := by decide +kernel
theorem dX7_gainAt_7 : decode cX7_gainAt 7 = .ok (.getfield 15, 3) := by decide +kernel
theorem dX7_gainAt_10 : decode cX7_gainAt 10 = .ok (.getfield 191, 3) := by decide +kernel
theorem dX7_gainAt_13 : decode cX7_gainAt 13 = .ok (.iload_n 1, 1) := by decide +kernel
theorem dX7_gainAt_14 : decode cX7_gainAt 14 = .ok (.iaload, 1) := by decide +kernel
theorem dX7_gainAt_15 : decode cX7_gainAt 15 = .ok (.i2l, 1) := by decide +kernel
theorem dX7_gainAt_16 : decode cX7_gainAt 16 = .ok (.aload_n 0, 1) := by decide +kernel
theorem dX7_gainAt_17 : decode cX7_gainAt 17 = .ok (.getfield 45, 3) := by decide +kernel
theorem dX7_gainAt_20 : decode cX7_gainAt 20 = .ok (.iload_n 2, 1) := by decide +kernel
theorem dX7_gainAt_21 : decode cX7_gainAt 21 = .ok (.laload, 1) := by decide +kernel
theorem dX7_gainAt_22 : decode cX7_gainAt 22 = .ok (.lmul, 1) := by decide +kernel
theorem dX7_gainAt_23 : decode cX7_gainAt 23 = .ok (.lsub, 1) := by decide +kernel
theorem dX7_gainAt_24 : decode cX7_gainAt 24 = .ok (.lreturn, 1) := by decide +kernel
theorem dX7_soldBy_0 : decode cX7_soldBy 0 = .ok (.lconst 0, 1) := by decide +kernel
theorem dX7_soldBy_1 : decode cX7_soldBy 1 = .ok (.lstore_n 2, 1) := by decide +kernel
theorem dX7_soldBy_2 : decode cX7_soldBy 2 = .ok (.iconst 0, 1) := by decide +kernel
theorem dX7_soldBy_3 : decode cX7_soldBy 3 = .ok (.istore 4, 2) := by decide +kernel
theorem dX7_soldBy_5 : decode cX7_soldBy 5 = .ok (.iload 4, 2) := by decide +kernel
theorem dX7_soldBy_7 : decode cX7_soldBy 7 = .ok (.aload_n 0, 1) := by decide +kernel
theorem dX7_soldBy_8 : decode cX7_soldBy 8 = .ok (.getfield 9, 3) := by decide +kernel
theorem dX7_soldBy_11 : decode cX7_soldBy 11 = .ok (.getfield 106, 3) := by decide +kernel
theorem dX7_soldBy_14 : decode cX7_soldBy 14 = .ok (.if_icmp .ge 33, 3) := by decide +kernel
theorem dX7_soldBy_17 : decode cX7_soldBy 17 = .ok (.lload_n 2, 1) := by decide +kernel
theorem dX7_soldBy_18 : decode cX7_soldBy 18 = .ok (.aload_n 0, 1) := by decide +kernel
theorem dX7_soldBy_19 : decode cX7_soldBy 19 = .ok (.getfield 27, 3) := by decide +kernel
theorem dX7_soldBy_22 : decode cX7_soldBy 22 = .ok (.iload_n 1, 1) := by decide +kernel
theorem dX7_soldBy_23 : decode cX7_soldBy 23 = .ok (.bipush 8, 2) := by decide +kernel
theorem dX7_soldBy_25 : decode cX7_soldBy 25 = .ok (.imul, 1) := by decide +kernel
theorem dX7_soldBy_26 : decode cX7_soldBy 26 = .ok (.iload 4, 2) := by decide +kernel
theorem dX7_soldBy_28 : decode cX7_soldBy 28 = .ok (.iadd, 1) := by decide +kernel
theorem dX7_soldBy_29 : decode cX7_soldBy 29 = .ok (.iaload, 1) := by decide +kernel
theorem dX7_soldBy_30 : decode cX7_soldBy 30 = .ok (.i2l, 1) := by decide +kernel
theorem dX7_soldBy_31 : decode cX7_soldBy 31 = .ok (.aload_n 0, 1) := by decide +kernel
theorem dX7_soldBy_32 : decode cX7_soldBy 32 = .ok (.getfield 45, 3) := by decide +kernel
theorem dX7_soldBy_35 : decode cX7_soldBy 35 = .ok (.iload 4, 2) := by decide +kernel
theorem dX7_soldBy_37 : decode cX7_soldBy 37 = .ok (.laload, 1) := by decide +kernel
theorem dX7_soldBy_38 : decode cX7_soldBy 38 = .ok (.lmul, 1) := by decide +kernel
theorem dX7_soldBy_39 : decode cX7_soldBy 39 = .ok (.ladd, 1) := by decide +kernel
theorem dX7_soldBy_40 : decode cX7_soldBy 40 = .ok (.lstore_n 2, 1) := by decide +kernel
theorem dX7_soldBy_41 : decode cX7_soldBy 41 = .ok (.iinc 4 1, 3) := by decide +kernel
theorem dX7_soldBy_44 : decode cX7_soldBy 44 = .ok (.goto (-39), 3) := by decide +kernel
theorem dX7_soldBy_47 : decode cX7_soldBy 47 = .ok (.lload_n 2, 1) := by decide +kernel
theorem dX7_soldBy_48 : decode cX7_soldBy 48 = .ok (.lreturn, 1) := by decide +kernel
theorem dX7_earnedBy_0 : decode cX7_earnedBy 0 = .ok (.lconst 0, 1) := by decide +kernel
theorem dX7_earnedBy_1 : decode cX7_earnedBy 1 = .ok (.lstore_n 2, 1) := by decide +kernel
theorem dX7_earnedBy_2 : decode cX7_earnedBy 2 = .ok (.iconst 0, 1) := by decide +kernel
theorem dX7_earnedBy_3 : decode cX7_earnedBy 3 = .ok (.istore 4, 2) := by decide +kernel
theorem dX7_earnedBy_5 : decode cX7_earnedBy 5 = .ok (.iload 4, 2) := by decide +kernel
theorem dX7_earnedBy_7 : decode cX7_earnedBy 7 = .ok (.aload_n 0, 1) := by decide +kernel
theorem dX7_earnedBy_8 : decode cX7_earnedBy 8 = .ok (.getfield 9, 3) := by decide +kernel
theorem dX7_earnedBy_11 : decode cX7_earnedBy 11 = .ok (.getfield 106, 3) := by decide +kernel
theorem dX7_earnedBy_14 : decode cX7_earnedBy 14 = .ok (.if_icmp .ge 33, 3) := by decide +kernel
theorem dX7_earnedBy_17 : decode cX7_earnedBy 17 = .ok (.lload_n 2, 1) := by decide +kernel
theorem dX7_earnedBy_18 : decode cX7_earnedBy 18 = .ok (.aload_n 0, 1) := by decide +kernel
theorem dX7_earnedBy_19 : decode cX7_earnedBy 19 = .ok (.getfield 27, 3) := by decide +kernel
theorem dX7_earnedBy_22 : decode cX7_earnedBy 22 = .ok (.iload_n 1, 1) := by decide +kernel
theorem dX7_earnedBy_23 : decode cX7_earnedBy 23 = .ok (.bipush 8, 2) := by decide +kernel
theorem dX7_earnedBy_25 : decode cX7_earnedBy 25 = .ok (.imul, 1) := by decide +kernel
theorem dX7_earnedBy_26 : decode cX7_earnedBy 26 = .ok (.iload 4, 2) := by decide +kernel
theorem dX7_earnedBy_28 : decode cX7_earnedBy 28 = .ok (.iadd, 1) := by decide +kernel
theorem dX7_earnedBy_29 : decode cX7_earnedBy 29 = .ok (.iaload, 1) := by decide +kernel
theorem dX7_earnedBy_30 : decode cX7_earnedBy 30 = .ok (.i2l, 1) := by decide +kernel
theorem dX7_earnedBy_31 : decode cX7_earnedBy 31 = .ok (.aload_n 0, 1) := by decide +kernel
theorem dX7_earnedBy_32 : decode cX7_earnedBy 32 = .ok (.iload_n 1, 1) := by decide +kernel
theorem dX7_earnedBy_33 : decode cX7_earnedBy 33 = .ok (.iload 4, 2) := by decide +kernel
theorem dX7_earnedBy_35 : decode cX7_earnedBy 35 = .ok (.invokevirtual 194, 3) := by decide +kernel
theorem dX7_earnedBy_38 : decode cX7_earnedBy 38 = .ok (.lmul, 1) := by decide +kernel
theorem dX7_earnedBy_39 : decode cX7_earnedBy 39 = .ok (.ladd, 1) := by decide +kernel
theorem dX7_earnedBy_40 : decode cX7_earnedBy 40 = .ok (.lstore_n 2, 1) := by decide +kernel
theorem dX7_earnedBy_41 : decode cX7_earnedBy 41 = .ok (.iinc 4 1, 3) := by decide +kernel
theorem dX7_earnedBy_44 : decode cX7_earnedBy 44 = .ok (.goto (-39), 3) := by decide +kernel
theorem dX7_earnedBy_47 : decode cX7_earnedBy 47 = .ok (.lload_n 2, 1) := by decide +kernel
theorem dX7_earnedBy_48 : decode cX7_earnedBy 48 = .ok (.lreturn, 1) := by decide +kernel
theorem dX7_earnedAt_0 : decode cX7_earnedAt 0 = .ok (.ldc2_w 198, 3) := by decide +kernel
theorem dX7_earnedAt_3 : decode cX7_earnedAt 3 = .ok (.aload_n 0, 1) := by decide +kernel
theorem dX7_earnedAt_4 : decode cX7_earnedAt 4 = .ok (.iload_n 1, 1) := by decide +kernel
theorem dX7_earnedAt_5 : decode cX7_earnedAt 5 = .ok (.iload_n 2, 1) := by decide +kernel
theorem dX7_earnedAt_6 : decode cX7_earnedAt 6 = .ok (.invokevirtual 194, 3) := by decide +kernel
theorem dX7_earnedAt_9 : decode cX7_earnedAt 9 = .ok (.lmul, 1) := by decide +kernel
theorem dX7_earnedAt_10 : decode cX7_earnedAt 10 = .ok (.lreturn, 1) := by decide +kernel
theorem dX7_bestStep_0 : decode cX7_bestStep 0 = .ok (.iconst (-1), 1) := by decide +kernel
theorem dX7_bestStep_1 : decode cX7_bestStep 1 = .ok (.istore_n 2, 1) := by decide +kernel
theorem dX7_bestStep_2 : decode cX7_bestStep 2 = .ok (.iconst 0, 1) := by decide +kernel
theorem dX7_bestStep_3 : decode cX7_bestStep 3 = .ok (.istore_n 3, 1) := by decide +kernel
theorem dX7_bestStep_4 : decode cX7_bestStep 4 = .ok (.iload_n 3, 1) := by decide +kernel
theorem dX7_bestStep_5 : decode cX7_bestStep 5 = .ok (.aload_n 0, 1) := by decide +kernel
theorem dX7_bestStep_6 : decode cX7_bestStep 6 = .ok (.getfield 9, 3) := by decide +kernel
theorem dX7_bestStep_9 : decode cX7_bestStep 9 = .ok (.getfield 106, 3) := by decide +kernel
theorem dX7_bestStep_12 : decode cX7_bestStep 12 = .ok (.if_icmp .ge 40, 3) := by decide +kernel
theorem dX7_bestStep_15 : decode cX7_bestStep 15 = .ok (.aload_n 0, 1) := by decide +kernel
theorem dX7_bestStep_16 : decode cX7_bestStep 16 = .ok (.iload_n 3, 1) := by decide +kernel
theorem dX7_bestStep_17 : decode cX7_bestStep 17 = .ok (.invokevirtual 116, 3) := by decide +kernel
theorem dX7_bestStep_20 : decode cX7_bestStep 20 = .ok (.ifCond .eq 26, 3) := by decide +kernel
theorem dX7_bestStep_23 : decode cX7_bestStep 23 = .ok (.iload_n 2, 1) := by decide +kernel
theorem dX7_bestStep_24 : decode cX7_bestStep 24 = .ok (.iconst (-1), 1) := by decide +kernel
theorem dX7_bestStep_25 : decode cX7_bestStep 25 = .ok (.if_icmp .eq 19, 3) := by decide +kernel
theorem dX7_bestStep_28 : decode cX7_bestStep 28 = .ok (.aload_n 0, 1) := by decide +kernel
theorem dX7_bestStep_29 : decode cX7_bestStep 29 = .ok (.iload_n 1, 1) := by decide +kernel
theorem dX7_bestStep_30 : decode cX7_bestStep 30 = .ok (.iload_n 3, 1) := by decide +kernel
theorem dX7_bestStep_31 : decode cX7_bestStep 31 = .ok (.invokevirtual 194, 3) := by decide +kernel
theorem dX7_bestStep_34 : decode cX7_bestStep 34 = .ok (.aload_n 0, 1) := by decide +kernel
theorem dX7_bestStep_35 : decode cX7_bestStep 35 = .ok (.iload_n 1, 1) := by decide +kernel
theorem dX7_bestStep_36 : decode cX7_bestStep 36 = .ok (.iload_n 2, 1) := by decide +kernel
theorem dX7_bestStep_37 : decode cX7_bestStep 37 = .ok (.invokevirtual 194, 3) := by decide +kernel
theorem dX7_bestStep_40 : decode cX7_bestStep 40 = .ok (.lcmp, 1) := by decide +kernel
theorem dX7_bestStep_41 : decode cX7_bestStep 41 = .ok (.ifCond .le 5, 3) := by decide +kernel
theorem dX7_bestStep_44 : decode cX7_bestStep 44 = .ok (.iload_n 3, 1) := by decide +kernel
theorem dX7_bestStep_45 : decode cX7_bestStep 45 = .ok (.istore_n 2, 1) := by decide +kernel
theorem dX7_bestStep_46 : decode cX7_bestStep 46 = .ok (.iinc 3 1, 3) := by decide +kernel
theorem dX7_bestStep_49 : decode cX7_bestStep 49 = .ok (.goto (-45), 3) := by decide +kernel
theorem dX7_bestStep_52 : decode cX7_bestStep 52 = .ok (.iload_n 2, 1) := by decide +kernel
theorem dX7_bestStep_53 : decode cX7_bestStep 53 = .ok (.ireturn, 1) := by decide +kernel
theorem dX7_betterStep_0 : decode cX7_betterStep 0 = .ok (.aload_n 0, 1) := by decide +kernel
theorem dX7_betterStep_1 : decode cX7_betterStep 1 = .ok (.iload_n 1, 1) := by decide +kernel
theorem dX7_betterStep_2 : decode cX7_betterStep 2 = .ok (.invokevirtual 119, 3) := by decide +kernel
theorem dX7_betterStep_5 : decode cX7_betterStep 5 = .ok (.aload_n 0, 1) := by decide +kernel
theorem dX7_betterStep_6 : decode cX7_betterStep 6 = .ok (.iload_n 1, 1) := by decide +kernel
theorem dX7_betterStep_7 : decode cX7_betterStep 7 = .ok (.invokevirtual 122, 3) := by decide +kernel
theorem dX7_betterStep_10 : decode cX7_betterStep 10 = .ok (.istore_n 2, 1) := by decide +kernel
theorem dX7_betterStep_11 : decode cX7_betterStep 11 = .ok (.iload_n 2, 1) := by decide +kernel
theorem dX7_betterStep_12 : decode cX7_betterStep 12 = .ok (.iconst (-1), 1) := by decide +kernel
theorem dX7_betterStep_13 : decode cX7_betterStep 13 = .ok (.if_icmp .eq 22, 3) := by decide +kernel
theorem dX7_betterStep_16 : decode cX7_betterStep 16 = .ok (.aload_n 0, 1) := by decide +kernel
theorem dX7_betterStep_17 : decode cX7_betterStep 17 = .ok (.iload_n 1, 1) := by decide +kernel
theorem dX7_betterStep_18 : decode cX7_betterStep 18 = .ok (.iload_n 2, 1) := by decide +kernel
theorem dX7_betterStep_19 : decode cX7_betterStep 19 = .ok (.invokevirtual 200, 3) := by decide +kernel
theorem dX7_betterStep_22 : decode cX7_betterStep 22 = .ok (.aload_n 0, 1) := by decide +kernel
theorem dX7_betterStep_23 : decode cX7_betterStep 23 = .ok (.iload_n 1, 1) := by decide +kernel
theorem dX7_betterStep_24 : decode cX7_betterStep 24 = .ok (.invokevirtual 203, 3) := by decide +kernel
theorem dX7_betterStep_27 : decode cX7_betterStep 27 = .ok (.lcmp, 1) := by decide +kernel
theorem dX7_betterStep_28 : decode cX7_betterStep 28 = .ok (.ifCond .le 7, 3) := by decide +kernel
theorem dX7_betterStep_31 : decode cX7_betterStep 31 = .ok (.iload_n 2, 1) := by decide +kernel
theorem dX7_betterStep_32 : decode cX7_betterStep 32 = .ok (.goto 4, 3) := by decide +kernel
theorem dX7_betterStep_35 : decode cX7_betterStep 35 = .ok (.iconst (-1), 1) := by decide +kernel
theorem dX7_betterStep_36 : decode cX7_betterStep 36 = .ok (.ireturn, 1) := by decide +kernel
theorem dX7_weightFrom_0 : decode cX7_weightFrom 0 = .ok (.lconst 1, 1) := by decide +kernel
theorem dX7_weightFrom_1 : decode cX7_weightFrom 1 = .ok (.lstore_n 3, 1) := by decide +kernel
theorem dX7_weightFrom_2 : decode cX7_weightFrom 2 = .ok (.iconst 0, 1) := by decide +kernel
theorem dX7_weightFrom_3 : decode cX7_weightFrom 3 = .ok (.istore 5, 2) := by decide +kernel
theorem dX7_weightFrom_5 : decode cX7_weightFrom 5 = .ok (.iload 5, 2) := by decide +kernel
theorem dX7_weightFrom_7 : decode cX7_weightFrom 7 = .ok (.aload_n 0, 1) := by decide +kernel
theorem dX7_weightFrom_8 : decode cX7_weightFrom 8 = .ok (.getfield 9, 3) := by decide +kernel
theorem dX7_weightFrom_11 : decode cX7_weightFrom 11 = .ok (.getfield 85, 3) := by decide +kernel
theorem dX7_weightFrom_14 : decode cX7_weightFrom 14 = .ok (.if_icmp .ge 35, 3) := by decide +kernel
theorem dX7_weightFrom_17 : decode cX7_weightFrom 17 = .ok (.lload_n 3, 1) := by decide +kernel
theorem dX7_weightFrom_18 : decode cX7_weightFrom 18 = .ok (.iload_n 1, 1) := by decide +kernel
theorem dX7_weightFrom_19 : decode cX7_weightFrom 19 = .ok (.iload 5, 2) := by decide +kernel
theorem dX7_weightFrom_21 : decode cX7_weightFrom 21 = .ok (.ishr, 1) := by decide +kernel
theorem dX7_weightFrom_22 : decode cX7_weightFrom 22 = .ok (.iconst 1, 1) := by decide +kernel
theorem dX7_weightFrom_23 : decode cX7_weightFrom 23 = .ok (.iand, 1) := by decide +kernel
theorem dX7_weightFrom_24 : decode cX7_weightFrom 24 = .ok (.ifCond .eq 14, 3) := by decide +kernel
theorem dX7_weightFrom_27 : decode cX7_weightFrom 27 = .ok (.aload_n 0, 1) := by decide +kernel
theorem dX7_weightFrom_28 : decode cX7_weightFrom 28 = .ok (.iload 5, 2) := by decide +kernel
theorem dX7_weightFrom_30 : decode cX7_weightFrom 30 = .ok (.iload_n 2, 1) := by decide +kernel
theorem dX7_weightFrom_31 : decode cX7_weightFrom 31 = .ok (.invokevirtual 206, 3) := by decide +kernel
theorem dX7_weightFrom_34 : decode cX7_weightFrom 34 = .ok (.i2l, 1) := by decide +kernel
theorem dX7_weightFrom_35 : decode cX7_weightFrom 35 = .ok (.goto 6, 3) := by decide +kernel
theorem dX7_weightFrom_38 : decode cX7_weightFrom 38 = .ok (.ldc2_w 198, 3) := by decide +kernel
theorem dX7_weightFrom_41 : decode cX7_weightFrom 41 = .ok (.lmul, 1) := by decide +kernel
theorem dX7_weightFrom_42 : decode cX7_weightFrom 42 = .ok (.lstore_n 3, 1) := by decide +kernel
theorem dX7_weightFrom_43 : decode cX7_weightFrom 43 = .ok (.iinc 5 1, 3) := by decide +kernel
theorem dX7_weightFrom_46 : decode cX7_weightFrom 46 = .ok (.goto (-41), 3) := by decide +kernel
theorem dX7_weightFrom_49 : decode cX7_weightFrom 49 = .ok (.lload_n 3, 1) := by decide +kernel
theorem dX7_weightFrom_50 : decode cX7_weightFrom 50 = .ok (.lreturn, 1) := by decide +kernel
theorem dX7_partsFrom_0 : decode cX7_partsFrom 0 = .ok (.iconst 0, 1) := by decide +kernel
theorem dX7_partsFrom_1 : decode cX7_partsFrom 1 = .ok (.istore_n 3, 1) := by decide +kernel
theorem dX7_partsFrom_2 : decode cX7_partsFrom 2 = .ok (.iload_n 2, 1) := by decide +kernel
theorem dX7_partsFrom_3 : decode cX7_partsFrom 3 = .ok (.istore 4, 2) := by decide +kernel
theorem dX7_partsFrom_5 : decode cX7_partsFrom 5 = .ok (.iload 4, 2) := by decide +kernel
theorem dX7_partsFrom_7 : decode cX7_partsFrom 7 = .ok (.aload_n 0, 1) := by decide +kernel
theorem dX7_partsFrom_8 : decode cX7_partsFrom 8 = .ok (.getfield 9, 3) := by decide +kernel
theorem dX7_partsFrom_11 : decode cX7_partsFrom 11 = .ok (.getfield 106, 3) := by decide +kernel
theorem dX7_partsFrom_14 : decode cX7_partsFrom 14 = .ok (.if_icmp .ge 24, 3) := by decide +kernel
theorem dX7_partsFrom_17 : decode cX7_partsFrom 17 = .ok (.iload_n 3, 1) := by decide +kernel
theorem dX7_partsFrom_18 : decode cX7_partsFrom 18 = .ok (.aload_n 0, 1) := by decide +kernel
theorem dX7_partsFrom_19 : decode cX7_partsFrom 19 = .ok (.getfield 27, 3) := by decide +kernel
theorem dX7_partsFrom_22 : decode cX7_partsFrom 22 = .ok (.iload_n 1, 1) := by decide +kernel
theorem dX7_partsFrom_23 : decode cX7_partsFrom 23 = .ok (.bipush 8, 2) := by decide +kernel
theorem dX7_partsFrom_25 : decode cX7_partsFrom 25 = .ok (.imul, 1) := by decide +kernel
theorem dX7_partsFrom_26 : decode cX7_partsFrom 26 = .ok (.iload 4, 2) := by decide +kernel
theorem dX7_partsFrom_28 : decode cX7_partsFrom 28 = .ok (.iadd, 1) := by decide +kernel
theorem dX7_partsFrom_29 : decode cX7_partsFrom 29 = .ok (.iaload, 1) := by decide +kernel
theorem dX7_partsFrom_30 : decode cX7_partsFrom 30 = .ok (.iadd, 1) := by decide +kernel
theorem dX7_partsFrom_31 : decode cX7_partsFrom 31 = .ok (.istore_n 3, 1) := by decide +kernel
theorem dX7_partsFrom_32 : decode cX7_partsFrom 32 = .ok (.iinc 4 1, 3) := by decide +kernel
theorem dX7_partsFrom_35 : decode cX7_partsFrom 35 = .ok (.goto (-30), 3) := by decide +kernel
theorem dX7_partsFrom_38 : decode cX7_partsFrom 38 = .ok (.iload_n 3, 1) := by decide +kernel
theorem dX7_partsFrom_39 : decode cX7_partsFrom 39 = .ok (.ireturn, 1) := by decide +kernel
theorem dX7_weightInAll_0 : decode cX7_weightInAll 0 = .ok (.aload_n 0, 1) := by decide +kernel
theorem dX7_weightInAll_1 : decode cX7_weightInAll 1 = .ok (.iconst 0, 1) := by decide +kernel
theorem dX7_weightInAll_2 : decode cX7_weightInAll 2 = .ok (.iconst 0, 1) := by decide +kernel
theorem dX7_weightInAll_3 : decode cX7_weightInAll 3 = .ok (.invokevirtual 209, 3) := by decide +kernel
theorem dX7_weightInAll_6 : decode cX7_weightInAll 6 = .ok (.lreturn, 1) := by decide +kernel
theorem dX7_bill_0 : decode cX7_bill 0 = .ok (.aload_n 0, 1) := by decide +kernel
theorem dX7_bill_1 : decode cX7_bill 1 = .ok (.lconst 0, 1) := by decide +kernel
theorem dX7_bill_2 : decode cX7_bill 2 = .ok (.putfield 52, 3) := by decide +kernel
theorem dX7_bill_5 : decode cX7_bill 5 = .ok (.aload_n 0, 1) := by decide +kernel
theorem dX7_bill_6 : decode cX7_bill 6 = .ok (.lconst 0, 1) := by decide +kernel
theorem dX7_bill_7 : decode cX7_bill 7 = .ok (.putfield 56, 3) := by decide +kernel
theorem dX7_bill_10 : decode cX7_bill 10 = .ok (.iconst 1, 1) := by decide +kernel
theorem dX7_bill_11 : decode cX7_bill 11 = .ok (.istore_n 2, 1) := by decide +kernel
theorem dX7_bill_12 : decode cX7_bill 12 = .ok (.iload_n 2, 1) := by decide +kernel
theorem dX7_bill_13 : decode cX7_bill 13 = .ok (.aload_n 0, 1) := by decide +kernel
theorem dX7_bill_14 : decode cX7_bill 14 = .ok (.getfield 9, 3) := by decide +kernel
theorem dX7_bill_17 : decode cX7_bill 17 = .ok (.invokevirtual 133, 3) := by decide +kernel
theorem dX7_bill_20 : decode cX7_bill 20 = .ok (.if_icmp .gt 140, 3) := by decide +kernel
theorem dX7_bill_23 : decode cX7_bill 23 = .ok (.aload_n 0, 1) := by decide +kernel
theorem dX7_bill_24 : decode cX7_bill 24 = .ok (.getfield 9, 3) := by decide +kernel
theorem dX7_bill_27 : decode cX7_bill 27 = .ok (.iload_n 1, 1) := by decide +kernel
theorem dX7_bill_28 : decode cX7_bill 28 = .ok (.iload_n 2, 1) := by decide +kernel
theorem dX7_bill_29 : decode cX7_bill 29 = .ok (.aload_n 0, 1) := by decide +kernel
theorem dX7_bill_30 : decode cX7_bill 30 = .ok (.getfield 59, 3) := by decide +kernel
theorem dX7_bill_33 : decode cX7_bill 33 = .ok (.invokevirtual 137, 3) := by decide +kernel
theorem dX7_bill_36 : decode cX7_bill 36 = .ok (.aload_n 0, 1) := by decide +kernel
theorem dX7_bill_37 : decode cX7_bill 37 = .ok (.getfield 9, 3) := by decide +kernel
theorem dX7_bill_40 : decode cX7_bill 40 = .ok (.getfield 141, 3) := by decide +kernel
theorem dX7_bill_43 : decode cX7_bill 43 = .ok (.iload_n 1, 1) := by decide +kernel
theorem dX7_bill_44 : decode cX7_bill 44 = .ok (.iaload, 1) := by decide +kernel
theorem dX7_bill_45 : decode cX7_bill 45 = .ok (.imul, 1) := by decide +kernel
theorem dX7_bill_46 : decode cX7_bill 46 = .ok (.i2l, 1) := by decide +kernel
theorem dX7_bill_47 : decode cX7_bill 47 = .ok (.lstore_n 3, 1) := by decide +kernel
theorem dX7_bill_48 : decode cX7_bill 48 = .ok (.iconst 0, 1) := by decide +kernel
theorem dX7_bill_49 : decode cX7_bill 49 = .ok (.istore 5, 2) := by decide +kernel
theorem dX7_bill_51 : decode cX7_bill 51 = .ok (.iload 5, 2) := by decide +kernel
theorem dX7_bill_53 : decode cX7_bill 53 = .ok (.aload_n 0, 1) := by decide +kernel
theorem dX7_bill_54 : decode cX7_bill 54 = .ok (.getfield 9, 3) := by decide +kernel
theorem dX7_bill_57 : decode cX7_bill 57 = .ok (.getfield 106, 3) := by decide +kernel
theorem dX7_bill_60 : decode cX7_bill 60 = .ok (.if_icmp .ge 94, 3) := by decide +kernel
theorem dX7_bill_63 : decode cX7_bill 63 = .ok (.lload_n 3, 1) := by decide +kernel
theorem dX7_bill_64 : decode cX7_bill 64 = .ok (.lconst 0, 1) := by decide +kernel
theorem dX7_bill_65 : decode cX7_bill 65 = .ok (.lcmp, 1) := by decide +kernel
theorem dX7_bill_66 : decode cX7_bill 66 = .ok (.ifCond .le 88, 3) := by decide +kernel
theorem dX7_bill_69 : decode cX7_bill 69 = .ok (.aload_n 0, 1) := by decide +kernel
theorem dX7_bill_70 : decode cX7_bill 70 = .ok (.getfield 9, 3) := by decide +kernel
theorem dX7_bill_73 : decode cX7_bill 73 = .ok (.iload 5, 2) := by decide +kernel
theorem dX7_bill_75 : decode cX7_bill 75 = .ok (.invokevirtual 151, 3) := by decide +kernel
theorem dX7_bill_78 : decode cX7_bill 78 = .ok (.aload_n 0, 1) := by decide +kernel
theorem dX7_bill_79 : decode cX7_bill 79 = .ok (.getfield 9, 3) := by decide +kernel
theorem dX7_bill_82 : decode cX7_bill 82 = .ok (.getfield 144, 3) := by decide +kernel
theorem dX7_bill_85 : decode cX7_bill 85 = .ok (.iload_n 1, 1) := by decide +kernel
theorem dX7_bill_86 : decode cX7_bill 86 = .ok (.iaload, 1) := by decide +kernel
theorem dX7_bill_87 : decode cX7_bill 87 = .ok (.if_icmp .gt 61, 3) := by decide +kernel
theorem dX7_bill_90 : decode cX7_bill 90 = .ok (.aload_n 0, 1) := by decide +kernel
theorem dX7_bill_91 : decode cX7_bill 91 = .ok (.iload_n 2, 1) := by decide +kernel
theorem dX7_bill_92 : decode cX7_bill 92 = .ok (.iload 5, 2) := by decide +kernel
theorem dX7_bill_94 : decode cX7_bill 94 = .ok (.invokevirtual 209, 3) := by decide +kernel
theorem dX7_bill_97 : decode cX7_bill 97 = .ok (.aload_n 0, 1) := by decide +kernel
theorem dX7_bill_98 : decode cX7_bill 98 = .ok (.iload_n 2, 1) := by decide +kernel
theorem dX7_bill_99 : decode cX7_bill 99 = .ok (.iload 5, 2) := by decide +kernel
theorem dX7_bill_101 : decode cX7_bill 101 = .ok (.iconst 1, 1) := by decide +kernel
theorem dX7_bill_102 : decode cX7_bill 102 = .ok (.iadd, 1) := by decide +kernel
theorem dX7_bill_103 : decode cX7_bill 103 = .ok (.invokevirtual 209, 3) := by decide +kernel
theorem dX7_bill_106 : decode cX7_bill 106 = .ok (.lsub, 1) := by decide +kernel
theorem dX7_bill_107 : decode cX7_bill 107 = .ok (.lload_n 3, 1) := by decide +kernel
theorem dX7_bill_108 : decode cX7_bill 108 = .ok (.lmul, 1) := by decide +kernel
theorem dX7_bill_109 : decode cX7_bill 109 = .ok (.ldc2_w 212, 3) := by decide +kernel
theorem dX7_bill_112 : decode cX7_bill 112 = .ok (.lmul, 1) := by decide +kernel
theorem dX7_bill_113 : decode cX7_bill 113 = .ok (.lstore 6, 2) := by decide +kernel
theorem dX7_bill_115 : decode cX7_bill 115 = .ok (.aload_n 0, 1) := by decide +kernel
theorem dX7_bill_116 : decode cX7_bill 116 = .ok (.dup, 1) := by decide +kernel
theorem dX7_bill_117 : decode cX7_bill 117 = .ok (.getfield 56, 3) := by decide +kernel
theorem dX7_bill_120 : decode cX7_bill 120 = .ok (.lload 6, 2) := by decide +kernel
theorem dX7_bill_122 : decode cX7_bill 122 = .ok (.ladd, 1) := by decide +kernel
theorem dX7_bill_123 : decode cX7_bill 123 = .ok (.putfield 56, 3) := by decide +kernel
theorem dX7_bill_126 : decode cX7_bill 126 = .ok (.aload_n 0, 1) := by decide +kernel
theorem dX7_bill_127 : decode cX7_bill 127 = .ok (.dup, 1) := by decide +kernel
theorem dX7_bill_128 : decode cX7_bill 128 = .ok (.getfield 52, 3) := by decide +kernel
theorem dX7_bill_131 : decode cX7_bill 131 = .ok (.lload 6, 2) := by decide +kernel
theorem dX7_bill_133 : decode cX7_bill 133 = .ok (.aload_n 0, 1) := by decide +kernel
theorem dX7_bill_134 : decode cX7_bill 134 = .ok (.getfield 9, 3) := by decide +kernel
theorem dX7_bill_137 : decode cX7_bill 137 = .ok (.iload 5, 2) := by decide +kernel
theorem dX7_bill_139 : decode cX7_bill 139 = .ok (.invokevirtual 151, 3) := by decide +kernel
theorem dX7_bill_142 : decode cX7_bill 142 = .ok (.i2l, 1) := by decide +kernel
theorem dX7_bill_143 : decode cX7_bill 143 = .ok (.lmul, 1) := by decide +kernel
theorem dX7_bill_144 : decode cX7_bill 144 = .ok (.ladd, 1) := by decide +kernel
theorem dX7_bill_145 : decode cX7_bill 145 = .ok (.putfield 52, 3) := by decide +kernel
theorem dX7_bill_148 : decode cX7_bill 148 = .ok (.iinc 5 1, 3) := by decide +kernel
theorem dX7_bill_151 : decode cX7_bill 151 = .ok (.goto (-100), 3) := by decide +kernel
theorem dX7_bill_154 : decode cX7_bill 154 = .ok (.iinc 2 1, 3) := by decide +kernel
theorem dX7_bill_157 : decode cX7_bill 157 = .ok (.goto (-145), 3) := by decide +kernel
theorem dX7_bill_160 : decode cX7_bill 160 = .ok (.return_, 1) := by decide +kernel
theorem dX7_goneHome_0 : decode cX7_goneHome 0 = .ok (.aload_n 0, 1) := by decide +kernel
theorem dX7_goneHome_1 : decode cX7_goneHome 1 = .ok (.getfield 9, 3) := by decide +kernel
theorem dX7_goneHome_4 : decode cX7_goneHome 4 = .ok (.iload_n 1, 1) := by decide +kernel
theorem dX7_goneHome_5 : decode cX7_goneHome 5 = .ok (.invokevirtual 214, 3) := by decide +kernel
theorem dX7_goneHome_8 : decode cX7_goneHome 8 = .ok (.aload_n 0, 1) := by decide +kernel
theorem dX7_goneHome_9 : decode cX7_goneHome 9 = .ok (.getfield 9, 3) := by decide +kernel
theorem dX7_goneHome_12 : decode cX7_goneHome 12 = .ok (.getfield 141, 3) := by decide +kernel
theorem dX7_goneHome_15 : decode cX7_goneHome 15 = .ok (.iload_n 1, 1) := by decide +kernel
theorem dX7_goneHome_16 : decode cX7_goneHome 16 = .ok (.iaload, 1) := by decide +kernel
theorem dX7_goneHome_17 : decode cX7_goneHome 17 = .ok (.imul, 1) := by decide +kernel
theorem dX7_goneHome_18 : decode cX7_goneHome 18 = .ok (.i2l, 1) := by decide +kernel
theorem dX7_goneHome_19 : decode cX7_goneHome 19 = .ok (.lstore_n 2, 1) := by decide +kernel
theorem dX7_goneHome_20 : decode cX7_goneHome 20 = .ok (.lload_n 2, 1) := by decide +kernel
theorem dX7_goneHome_21 : decode cX7_goneHome 21 = .ok (.ldc2_w 212, 3) := by decide +kernel
theorem dX7_goneHome_24 : decode cX7_goneHome 24 = .ok (.lmul, 1) := by decide +kernel
theorem dX7_goneHome_25 : decode cX7_goneHome 25 = .ok (.aload_n 0, 1) := by decide +kernel
theorem dX7_goneHome_26 : decode cX7_goneHome 26 = .ok (.invokevirtual 217, 3) := by decide +kernel
theorem dX7_goneHome_29 : decode cX7_goneHome 29 = .ok (.lmul, 1) := by decide +kernel
theorem dX7_goneHome_30 : decode cX7_goneHome 30 = .ok (.aload_n 0, 1) := by decide +kernel
theorem dX7_goneHome_31 : decode cX7_goneHome 31 = .ok (.getfield 56, 3) := by decide +kernel
theorem dX7_goneHome_34 : decode cX7_goneHome 34 = .ok (.lsub, 1) := by decide +kernel
theorem dX7_goneHome_35 : decode cX7_goneHome 35 = .ok (.lreturn, 1) := by decide +kernel
theorem dX7_meanOf_0 : decode cX7_meanOf 0 = .ok (.aload_n 0, 1) := by decide +kernel
theorem dX7_meanOf_1 : decode cX7_meanOf 1 = .ok (.iload_n 1, 1) := by decide +kernel
theorem dX7_meanOf_2 : decode cX7_meanOf 2 = .ok (.invokevirtual 221, 3) := by decide +kernel
theorem dX7_meanOf_5 : decode cX7_meanOf 5 = .ok (.aload_n 0, 1) := by decide +kernel
theorem dX7_meanOf_6 : decode cX7_meanOf 6 = .ok (.getfield 56, 3) := by decide +kernel
theorem dX7_meanOf_9 : decode cX7_meanOf 9 = .ok (.lconst 0, 1) := by decide +kernel
theorem dX7_meanOf_10 : decode cX7_meanOf 10 = .ok (.lcmp, 1) := by decide +kernel
theorem dX7_meanOf_11 : decode cX7_meanOf 11 = .ok (.ifCond .le 20, 3) := by decide +kernel
theorem dX7_meanOf_14 : decode cX7_meanOf 14 = .ok (.aload_n 0, 1) := by decide +kernel
theorem dX7_meanOf_15 : decode cX7_meanOf 15 = .ok (.getfield 52, 3) := by decide +kernel
theorem dX7_meanOf_18 : decode cX7_meanOf 18 = .ok (.ldc2_w 224, 3) := by decide +kernel
theorem dX7_meanOf_21 : decode cX7_meanOf 21 = .ok (.lmul, 1) := by decide +kernel
theorem dX7_meanOf_22 : decode cX7_meanOf 22 = .ok (.aload_n 0, 1) := by decide +kernel
theorem dX7_meanOf_23 : decode cX7_meanOf 23 = .ok (.getfield 56, 3) := by decide +kernel
theorem dX7_meanOf_26 : decode cX7_meanOf 26 = .ok (.ldiv, 1) := by decide +kernel
theorem dX7_meanOf_27 : decode cX7_meanOf 27 = .ok (.l2i, 1) := by decide +kernel
theorem dX7_meanOf_28 : decode cX7_meanOf 28 = .ok (.goto 4, 3) := by decide +kernel
theorem dX7_meanOf_31 : decode cX7_meanOf 31 = .ok (.iconst (-1), 1) := by decide +kernel
theorem dX7_meanOf_32 : decode cX7_meanOf 32 = .ok (.ireturn, 1) := by decide +kernel
theorem dX7_spread_0 : decode cX7_spread 0 = .ok (.lconst 0, 1) := by decide +kernel
theorem dX7_spread_1 : decode cX7_spread 1 = .ok (.lstore_n 1, 1) := by decide +kernel
theorem dX7_spread_2 : decode cX7_spread 2 = .ok (.iconst 1, 1) := by decide +kernel
theorem dX7_spread_3 : decode cX7_spread 3 = .ok (.istore_n 3, 1) := by decide +kernel
theorem dX7_spread_4 : decode cX7_spread 4 = .ok (.iload_n 3, 1) := by decide +kernel
theorem dX7_spread_5 : decode cX7_spread 5 = .ok (.aload_n 0, 1) := by decide +kernel
theorem dX7_spread_6 : decode cX7_spread 6 = .ok (.getfield 9, 3) := by decide +kernel
theorem dX7_spread_9 : decode cX7_spread 9 = .ok (.getfield 106, 3) := by decide +kernel
theorem dX7_spread_12 : decode cX7_spread 12 = .ok (.if_icmp .ge 35, 3) := by decide +kernel
theorem dX7_spread_15 : decode cX7_spread 15 = .ok (.lload_n 1, 1) := by decide +kernel
theorem dX7_spread_16 : decode cX7_spread 16 = .ok (.aload_n 0, 1) := by decide +kernel
theorem dX7_spread_17 : decode cX7_spread 17 = .ok (.invokevirtual 217, 3) := by decide +kernel
theorem dX7_spread_20 : decode cX7_spread 20 = .ok (.aload_n 0, 1) := by decide +kernel
theorem dX7_spread_21 : decode cX7_spread 21 = .ok (.aload_n 0, 1) := by decide +kernel
theorem dX7_spread_22 : decode cX7_spread 22 = .ok (.getfield 9, 3) := by decide +kernel
theorem dX7_spread_25 : decode cX7_spread 25 = .ok (.invokevirtual 133, 3) := by decide +kernel
theorem dX7_spread_28 : decode cX7_spread 28 = .ok (.iload_n 3, 1) := by decide +kernel
theorem dX7_spread_29 : decode cX7_spread 29 = .ok (.invokevirtual 209, 3) := by decide +kernel
theorem dX7_spread_32 : decode cX7_spread 32 = .ok (.lsub, 1) := by decide +kernel
theorem dX7_spread_33 : decode cX7_spread 33 = .ok (.aload_n 0, 1) := by decide +kernel
theorem dX7_spread_34 : decode cX7_spread 34 = .ok (.iload_n 3, 1) := by decide +kernel
theorem dX7_spread_35 : decode cX7_spread 35 = .ok (.invokevirtual 226, 3) := by decide +kernel
theorem dX7_spread_38 : decode cX7_spread 38 = .ok (.lsub, 1) := by decide +kernel
theorem dX7_spread_39 : decode cX7_spread 39 = .ok (.ladd, 1) := by decide +kernel
theorem dX7_spread_40 : decode cX7_spread 40 = .ok (.lstore_n 1, 1) := by decide +kernel
theorem dX7_spread_41 : decode cX7_spread 41 = .ok (.iinc 3 1, 3) := by decide +kernel
theorem dX7_spread_44 : decode cX7_spread 44 = .ok (.goto (-40), 3) := by decide +kernel
theorem dX7_spread_47 : decode cX7_spread 47 = .ok (.lload_n 1, 1) := by decide +kernel
theorem dX7_spread_48 : decode cX7_spread 48 = .ok (.aload_n 0, 1) := by decide +kernel
theorem dX7_spread_49 : decode cX7_spread 49 = .ok (.getfield 9, 3) := by decide +kernel
theorem dX7_spread_52 : decode cX7_spread 52 = .ok (.getfield 229, 3) := by decide +kernel
theorem dX7_spread_55 : decode cX7_spread 55 = .ok (.i2l, 1) := by decide +kernel
theorem dX7_spread_56 : decode cX7_spread 56 = .ok (.lmul, 1) := by decide +kernel
theorem dX7_spread_57 : decode cX7_spread 57 = .ok (.lreturn, 1) := by decide +kernel
theorem dX7_weightBelow_0 : decode cX7_weightBelow 0 = .ok (.lconst 1, 1) := by decide +kernel
theorem dX7_weightBelow_1 : decode cX7_weightBelow 1 = .ok (.lstore_n 2, 1) := by decide +kernel
theorem dX7_weightBelow_2 : decode cX7_weightBelow 2 = .ok (.iconst 0, 1) := by decide +kernel
theorem dX7_weightBelow_3 : decode cX7_weightBelow 3 = .ok (.istore 4, 2) := by decide +kernel
theorem dX7_weightBelow_5 : decode cX7_weightBelow 5 = .ok (.iload 4, 2) := by decide +kernel
theorem dX7_weightBelow_7 : decode cX7_weightBelow 7 = .ok (.aload_n 0, 1) := by decide +kernel
theorem dX7_weightBelow_8 : decode cX7_weightBelow 8 = .ok (.getfield 9, 3) := by decide +kernel
theorem dX7_weightBelow_11 : decode cX7_weightBelow 11 = .ok (.getfield 85, 3) := by decide +kernel
theorem dX7_weightBelow_14 : decode cX7_weightBelow 14 = .ok (.if_icmp .ge 23, 3) := by decide +kernel
theorem dX7_weightBelow_17 : decode cX7_weightBelow 17 = .ok (.lload_n 2, 1) := by decide +kernel
theorem dX7_weightBelow_18 : decode cX7_weightBelow 18 = .ok (.bipush 100, 2) := by decide +kernel
theorem dX7_weightBelow_20 : decode cX7_weightBelow 20 = .ok (.aload_n 0, 1) := by decide +kernel
theorem dX7_weightBelow_21 : decode cX7_weightBelow 21 = .ok (.iload 4, 2) := by decide +kernel
theorem dX7_weightBelow_23 : decode cX7_weightBelow 23 = .ok (.iload_n 1, 1) := by decide +kernel
theorem dX7_weightBelow_24 : decode cX7_weightBelow 24 = .ok (.invokevirtual 206, 3) := by decide +kernel
theorem dX7_weightBelow_27 : decode cX7_weightBelow 27 = .ok (.isub, 1) := by decide +kernel
theorem dX7_weightBelow_28 : decode cX7_weightBelow 28 = .ok (.i2l, 1) := by decide +kernel
theorem dX7_weightBelow_29 : decode cX7_weightBelow 29 = .ok (.lmul, 1) := by decide +kernel
theorem dX7_weightBelow_30 : decode cX7_weightBelow 30 = .ok (.lstore_n 2, 1) := by decide +kernel
theorem dX7_weightBelow_31 : decode cX7_weightBelow 31 = .ok (.iinc 4 1, 3) := by decide +kernel
theorem dX7_weightBelow_34 : decode cX7_weightBelow 34 = .ok (.goto (-29), 3) := by decide +kernel
theorem dX7_weightBelow_37 : decode cX7_weightBelow 37 = .ok (.lload_n 2, 1) := by decide +kernel
theorem dX7_weightBelow_38 : decode cX7_weightBelow 38 = .ok (.lreturn, 1) := by decide +kernel
theorem dX7_likelyRows_0 : decode cX7_likelyRows 0 = .ok (.iconst 1, 1) := by decide +kernel
theorem dX7_likelyRows_1 : decode cX7_likelyRows 1 = .ok (.istore_n 1, 1) := by decide +kernel
theorem dX7_likelyRows_2 : decode cX7_likelyRows 2 = .ok (.iconst 0, 1) := by decide +kernel
theorem dX7_likelyRows_3 : decode cX7_likelyRows 3 = .ok (.istore_n 2, 1) := by decide +kernel
theorem dX7_likelyRows_4 : decode cX7_likelyRows 4 = .ok (.iload_n 2, 1) := by decide +kernel
theorem dX7_likelyRows_5 : decode cX7_likelyRows 5 = .ok (.aload_n 0, 1) := by decide +kernel
theorem dX7_likelyRows_6 : decode cX7_likelyRows 6 = .ok (.getfield 9, 3) := by decide +kernel
theorem dX7_likelyRows_9 : decode cX7_likelyRows 9 = .ok (.getfield 85, 3) := by decide +kernel
theorem dX7_likelyRows_12 : decode cX7_likelyRows 12 = .ok (.if_icmp .ge 59, 3) := by decide +kernel
theorem dX7_likelyRows_15 : decode cX7_likelyRows 15 = .ok (.iconst 0, 1) := by decide +kernel
theorem dX7_likelyRows_16 : decode cX7_likelyRows 16 = .ok (.istore_n 3, 1) := by decide +kernel
theorem dX7_likelyRows_17 : decode cX7_likelyRows 17 = .ok (.iconst 0, 1) := by decide +kernel
theorem dX7_likelyRows_18 : decode cX7_likelyRows 18 = .ok (.istore 4, 2) := by decide +kernel
theorem dX7_likelyRows_20 : decode cX7_likelyRows 20 = .ok (.iload 4, 2) := by decide +kernel
theorem dX7_likelyRows_22 : decode cX7_likelyRows 22 = .ok (.aload_n 0, 1) := by decide +kernel
theorem dX7_likelyRows_23 : decode cX7_likelyRows 23 = .ok (.getfield 9, 3) := by decide +kernel
theorem dX7_likelyRows_26 : decode cX7_likelyRows 26 = .ok (.getfield 106, 3) := by decide +kernel
theorem dX7_likelyRows_29 : decode cX7_likelyRows 29 = .ok (.if_icmp .ge 32, 3) := by decide +kernel
theorem dX7_likelyRows_32 : decode cX7_likelyRows 32 = .ok (.iload_n 3, 1) := by decide +kernel
theorem dX7_likelyRows_33 : decode cX7_likelyRows 33 = .ok (.aload_n 0, 1) := by decide +kernel
theorem dX7_likelyRows_34 : decode cX7_likelyRows 34 = .ok (.getfield 27, 3) := by decide +kernel
theorem dX7_likelyRows_37 : decode cX7_likelyRows 37 = .ok (.iload_n 2, 1) := by decide +kernel
theorem dX7_likelyRows_38 : decode cX7_likelyRows 38 = .ok (.bipush 8, 2) := by decide +kernel
theorem dX7_likelyRows_40 : decode cX7_likelyRows 40 = .ok (.imul, 1) := by decide +kernel
theorem dX7_likelyRows_41 : decode cX7_likelyRows 41 = .ok (.iload 4, 2) := by decide +kernel
theorem dX7_likelyRows_43 : decode cX7_likelyRows 43 = .ok (.iadd, 1) := by decide +kernel
theorem dX7_likelyRows_44 : decode cX7_likelyRows 44 = .ok (.iaload, 1) := by decide +kernel
theorem dX7_likelyRows_45 : decode cX7_likelyRows 45 = .ok (.ifCond .le 7, 3) := by decide +kernel
theorem dX7_likelyRows_48 : decode cX7_likelyRows 48 = .ok (.iconst 1, 1) := by decide +kernel
theorem dX7_likelyRows_49 : decode cX7_likelyRows 49 = .ok (.goto 4, 3) := by decide +kernel
theorem dX7_likelyRows_52 : decode cX7_likelyRows 52 = .ok (.iconst 0, 1) := by decide +kernel
theorem dX7_likelyRows_53 : decode cX7_likelyRows 53 = .ok (.iadd, 1) := by decide +kernel
theorem dX7_likelyRows_54 : decode cX7_likelyRows 54 = .ok (.istore_n 3, 1) := by decide +kernel
theorem dX7_likelyRows_55 : decode cX7_likelyRows 55 = .ok (.iinc 4 1, 3) := by decide +kernel
theorem dX7_likelyRows_58 : decode cX7_likelyRows 58 = .ok (.goto (-38), 3) := by decide +kernel
theorem dX7_likelyRows_61 : decode cX7_likelyRows 61 = .ok (.iload_n 1, 1) := by decide +kernel
theorem dX7_likelyRows_62 : decode cX7_likelyRows 62 = .ok (.iload_n 3, 1) := by decide +kernel
theorem dX7_likelyRows_63 : decode cX7_likelyRows 63 = .ok (.imul, 1) := by decide +kernel
theorem dX7_likelyRows_64 : decode cX7_likelyRows 64 = .ok (.istore_n 1, 1) := by decide +kernel
theorem dX7_likelyRows_65 : decode cX7_likelyRows 65 = .ok (.iinc 2 1, 3) := by decide +kernel
theorem dX7_likelyRows_68 : decode cX7_likelyRows 68 = .ok (.goto (-64), 3) := by decide +kernel
theorem dX7_likelyRows_71 : decode cX7_likelyRows 71 = .ok (.iload_n 1, 1) := by decide +kernel
theorem dX7_likelyRows_72 : decode cX7_likelyRows 72 = .ok (.ireturn, 1) := by decide +kernel
theorem dX7_valueOf_0 : decode cX7_valueOf 0 = .ok (.lconst 0, 1) := by decide +kernel
theorem dX7_valueOf_1 : decode cX7_valueOf 1 = .ok (.lstore_n 3, 1) := by decide +kernel
theorem dX7_valueOf_2 : decode cX7_valueOf 2 = .ok (.iconst 0, 1) := by decide +kernel
theorem dX7_valueOf_3 : decode cX7_valueOf 3 = .ok (.istore 5, 2) := by decide +kernel
theorem dX7_valueOf_5 : decode cX7_valueOf 5 = .ok (.iload 5, 2) := by decide +kernel
theorem dX7_valueOf_7 : decode cX7_valueOf 7 = .ok (.aload_n 0, 1) := by decide +kernel
theorem dX7_valueOf_8 : decode cX7_valueOf 8 = .ok (.getfield 9, 3) := by decide +kernel
theorem dX7_valueOf_11 : decode cX7_valueOf 11 = .ok (.getfield 106, 3) := by decide +kernel
theorem dX7_valueOf_14 : decode cX7_valueOf 14 = .ok (.if_icmp .ge 59, 3) := by decide +kernel
theorem dX7_valueOf_17 : decode cX7_valueOf 17 = .ok (.aload_n 0, 1) := by decide +kernel
theorem dX7_valueOf_18 : decode cX7_valueOf 18 = .ok (.getfield 9, 3) := by decide +kernel
theorem dX7_valueOf_21 : decode cX7_valueOf 21 = .ok (.getfield 144, 3) := by decide +kernel
theorem dX7_valueOf_24 : decode cX7_valueOf 24 = .ok (.iload_n 1, 1) := by decide +kernel
theorem dX7_valueOf_25 : decode cX7_valueOf 25 = .ok (.iaload, 1) := by decide +kernel
theorem dX7_valueOf_26 : decode cX7_valueOf 26 = .ok (.aload_n 0, 1) := by decide +kernel
theorem dX7_valueOf_27 : decode cX7_valueOf 27 = .ok (.getfield 9, 3) := by decide +kernel
theorem dX7_valueOf_30 : decode cX7_valueOf 30 = .ok (.iload 5, 2) := by decide +kernel
theorem dX7_valueOf_32 : decode cX7_valueOf 32 = .ok (.invokevirtual 151, 3) := by decide +kernel
theorem dX7_valueOf_35 : decode cX7_valueOf 35 = .ok (.isub, 1) := by decide +kernel
theorem dX7_valueOf_36 : decode cX7_valueOf 36 = .ok (.istore 6, 2) := by decide +kernel
theorem dX7_valueOf_38 : decode cX7_valueOf 38 = .ok (.iload 6, 2) := by decide +kernel
theorem dX7_valueOf_40 : decode cX7_valueOf 40 = .ok (.ifCond .le 27, 3) := by decide +kernel
theorem dX7_valueOf_43 : decode cX7_valueOf 43 = .ok (.lload_n 3, 1) := by decide +kernel
theorem dX7_valueOf_44 : decode cX7_valueOf 44 = .ok (.iload 6, 2) := by decide +kernel
theorem dX7_valueOf_46 : decode cX7_valueOf 46 = .ok (.i2l, 1) := by decide +kernel
theorem dX7_valueOf_47 : decode cX7_valueOf 47 = .ok (.aload_n 0, 1) := by decide +kernel
theorem dX7_valueOf_48 : decode cX7_valueOf 48 = .ok (.iload_n 2, 1) := by decide +kernel
theorem dX7_valueOf_49 : decode cX7_valueOf 49 = .ok (.iload 5, 2) := by decide +kernel
theorem dX7_valueOf_51 : decode cX7_valueOf 51 = .ok (.invokevirtual 209, 3) := by decide +kernel
theorem dX7_valueOf_54 : decode cX7_valueOf 54 = .ok (.aload_n 0, 1) := by decide +kernel
theorem dX7_valueOf_55 : decode cX7_valueOf 55 = .ok (.iload_n 2, 1) := by decide +kernel
theorem dX7_valueOf_56 : decode cX7_valueOf 56 = .ok (.iload 5, 2) := by decide +kernel
theorem dX7_valueOf_58 : decode cX7_valueOf 58 = .ok (.iconst 1, 1) := by decide +kernel
theorem dX7_valueOf_59 : decode cX7_valueOf 59 = .ok (.iadd, 1) := by decide +kernel
theorem dX7_valueOf_60 : decode cX7_valueOf 60 = .ok (.invokevirtual 209, 3) := by decide +kernel
theorem dX7_valueOf_63 : decode cX7_valueOf 63 = .ok (.lsub, 1) := by decide +kernel
theorem dX7_valueOf_64 : decode cX7_valueOf 64 = .ok (.lmul, 1) := by decide +kernel
theorem dX7_valueOf_65 : decode cX7_valueOf 65 = .ok (.ladd, 1) := by decide +kernel
theorem dX7_valueOf_66 : decode cX7_valueOf 66 = .ok (.lstore_n 3, 1) := by decide +kernel
theorem dX7_valueOf_67 : decode cX7_valueOf 67 = .ok (.iinc 5 1, 3) := by decide +kernel
theorem dX7_valueOf_70 : decode cX7_valueOf 70 = .ok (.goto (-65), 3) := by decide +kernel
theorem dX7_valueOf_73 : decode cX7_valueOf 73 = .ok (.lload_n 3, 1) := by decide +kernel
theorem dX7_valueOf_74 : decode cX7_valueOf 74 = .ok (.lreturn, 1) := by decide +kernel
theorem dX7_savedBy_0 : decode cX7_savedBy 0 = .ok (.aload_n 0, 1) := by decide +kernel
theorem dX7_savedBy_1 : decode cX7_savedBy 1 = .ok (.getfield 9, 3) := by decide +kernel
theorem dX7_savedBy_4 : decode cX7_savedBy 4 = .ok (.getfield 232, 3) := by decide +kernel
theorem dX7_savedBy_7 : decode cX7_savedBy 7 = .ok (.iload_n 1, 1) := by decide +kernel
theorem dX7_savedBy_8 : decode cX7_savedBy 8 = .ok (.iaload, 1) := by decide +kernel
theorem dX7_savedBy_9 : decode cX7_savedBy 9 = .ok (.istore_n 3, 1) := by decide +kernel
theorem dX7_savedBy_10 : decode cX7_savedBy 10 = .ok (.aload_n 0, 1) := by decide +kernel
theorem dX7_savedBy_11 : decode cX7_savedBy 11 = .ok (.iload_n 1, 1) := by decide +kernel
theorem dX7_savedBy_12 : decode cX7_savedBy 12 = .ok (.iload_n 3, 1) := by decide +kernel
theorem dX7_savedBy_13 : decode cX7_savedBy 13 = .ok (.iconst 1, 1) := by decide +kernel
theorem dX7_savedBy_14 : decode cX7_savedBy 14 = .ok (.iload_n 2, 1) := by decide +kernel
theorem dX7_savedBy_15 : decode cX7_savedBy 15 = .ok (.ishl, 1) := by decide +kernel
theorem dX7_savedBy_16 : decode cX7_savedBy 16 = .ok (.ior, 1) := by decide +kernel
theorem dX7_savedBy_17 : decode cX7_savedBy 17 = .ok (.invokevirtual 235, 3) := by decide +kernel
theorem dX7_savedBy_20 : decode cX7_savedBy 20 = .ok (.aload_n 0, 1) := by decide +kernel
theorem dX7_savedBy_21 : decode cX7_savedBy 21 = .ok (.iload_n 1, 1) := by decide +kernel
theorem dX7_savedBy_22 : decode cX7_savedBy 22 = .ok (.iload_n 3, 1) := by decide +kernel
theorem dX7_savedBy_23 : decode cX7_savedBy 23 = .ok (.invokevirtual 235, 3) := by decide +kernel
theorem dX7_savedBy_26 : decode cX7_savedBy 26 = .ok (.lsub, 1) := by decide +kernel
theorem dX7_savedBy_27 : decode cX7_savedBy 27 = .ok (.lreturn, 1) := by decide +kernel
theorem dX7_wishedDoor_0 : decode cX7_wishedDoor 0 = .ok (.iconst (-1), 1) := by decide +kernel
theorem dX7_wishedDoor_1 : decode cX7_wishedDoor 1 = .ok (.istore_n 2, 1) := by decide +kernel
theorem dX7_wishedDoor_2 : decode cX7_wishedDoor 2 = .ok (.aload_n 0, 1) := by decide +kernel
theorem dX7_wishedDoor_3 : decode cX7_wishedDoor 3 = .ok (.getfield 9, 3) := by decide +kernel
theorem dX7_wishedDoor_6 : decode cX7_wishedDoor 6 = .ok (.getfield 238, 3) := by decide +kernel
theorem dX7_wishedDoor_9 : decode cX7_wishedDoor 9 = .ok (.i2l, 1) := by decide +kernel
theorem dX7_wishedDoor_10 : decode cX7_wishedDoor 10 = .ok (.aload_n 0, 1) := by decide +kernel
theorem dX7_wishedDoor_11 : decode cX7_wishedDoor 11 = .ok (.invokevirtual 217, 3) := by decide +kernel
theorem dX7_wishedDoor_14 : decode cX7_wishedDoor 14 = .ok (.lmul, 1) := by decide +kernel
theorem dX7_wishedDoor_15 : decode cX7_wishedDoor 15 = .ok (.lstore_n 3, 1) := by decide +kernel
theorem dX7_wishedDoor_16 : decode cX7_wishedDoor 16 = .ok (.iconst 0, 1) := by decide +kernel
theorem dX7_wishedDoor_17 : decode cX7_wishedDoor 17 = .ok (.istore 5, 2) := by decide +kernel
theorem dX7_wishedDoor_19 : decode cX7_wishedDoor 19 = .ok (.iload 5, 2) := by decide +kernel
theorem dX7_wishedDoor_21 : decode cX7_wishedDoor 21 = .ok (.aload_n 0, 1) := by decide +kernel
theorem dX7_wishedDoor_22 : decode cX7_wishedDoor 22 = .ok (.getfield 9, 3) := by decide +kernel
theorem dX7_wishedDoor_25 : decode cX7_wishedDoor 25 = .ok (.getfield 85, 3) := by decide +kernel
theorem dX7_wishedDoor_28 : decode cX7_wishedDoor 28 = .ok (.if_icmp .ge 44, 3) := by decide +kernel
theorem dX7_wishedDoor_31 : decode cX7_wishedDoor 31 = .ok (.aload_n 0, 1) := by decide +kernel
theorem dX7_wishedDoor_32 : decode cX7_wishedDoor 32 = .ok (.getfield 9, 3) := by decide +kernel
theorem dX7_wishedDoor_35 : decode cX7_wishedDoor 35 = .ok (.iload_n 1, 1) := by decide +kernel
theorem dX7_wishedDoor_36 : decode cX7_wishedDoor 36 = .ok (.iload 5, 2) := by decide +kernel
theorem dX7_wishedDoor_38 : decode cX7_wishedDoor 38 = .ok (.invokevirtual 241, 3) := by decide +kernel
theorem dX7_wishedDoor_41 : decode cX7_wishedDoor 41 = .ok (.ifCond .ne 25, 3) := by decide +kernel
theorem dX7_wishedDoor_44 : decode cX7_wishedDoor 44 = .ok (.aload_n 0, 1) := by decide +kernel
theorem dX7_wishedDoor_45 : decode cX7_wishedDoor 45 = .ok (.iload_n 1, 1) := by decide +kernel
theorem dX7_wishedDoor_46 : decode cX7_wishedDoor 46 = .ok (.iload 5, 2) := by decide +kernel
theorem dX7_wishedDoor_48 : decode cX7_wishedDoor 48 = .ok (.invokevirtual 245, 3) := by decide +kernel
theorem dX7_wishedDoor_51 : decode cX7_wishedDoor 51 = .ok (.lstore 6, 2) := by decide +kernel
theorem dX7_wishedDoor_53 : decode cX7_wishedDoor 53 = .ok (.lload 6, 2) := by decide +kernel
theorem dX7_wishedDoor_55 : decode cX7_wishedDoor 55 = .ok (.lload_n 3, 1) := by decide +kernel
theorem dX7_wishedDoor_56 : decode cX7_wishedDoor 56 = .ok (.lcmp, 1) := by decide +kernel
theorem dX7_wishedDoor_57 : decode cX7_wishedDoor 57 = .ok (.ifCond .le 9, 3) := by decide +kernel
theorem dX7_wishedDoor_60 : decode cX7_wishedDoor 60 = .ok (.lload 6, 2) := by decide +kernel
theorem dX7_wishedDoor_62 : decode cX7_wishedDoor 62 = .ok (.lstore_n 3, 1) := by decide +kernel
theorem dX7_wishedDoor_63 : decode cX7_wishedDoor 63 = .ok (.iload 5, 2) := by decide +kernel
theorem dX7_wishedDoor_65 : decode cX7_wishedDoor 65 = .ok (.istore_n 2, 1) := by decide +kernel
theorem dX7_wishedDoor_66 : decode cX7_wishedDoor 66 = .ok (.iinc 5 1, 3) := by decide +kernel
theorem dX7_wishedDoor_69 : decode cX7_wishedDoor 69 = .ok (.goto (-50), 3) := by decide +kernel
theorem dX7_wishedDoor_72 : decode cX7_wishedDoor 72 = .ok (.iload_n 2, 1) := by decide +kernel
theorem dX7_wishedDoor_73 : decode cX7_wishedDoor 73 = .ok (.ireturn, 1) := by decide +kernel
theorem dX7_lookAround_0 : decode cX7_lookAround 0 = .ok (.iconst 1, 1) := by decide +kernel
theorem dX7_lookAround_1 : decode cX7_lookAround 1 = .ok (.istore_n 2, 1) := by decide +kernel
theorem dX7_lookAround_2 : decode cX7_lookAround 2 = .ok (.iload_n 2, 1) := by decide +kernel
theorem dX7_lookAround_3 : decode cX7_lookAround 3 = .ok (.iload_n 1, 1) := by decide +kernel
theorem dX7_lookAround_4 : decode cX7_lookAround 4 = .ok (.if_icmp .gt 104, 3) := by decide +kernel
theorem dX7_lookAround_7 : decode cX7_lookAround 7 = .ok (.iconst 0, 1) := by decide +kernel
theorem dX7_lookAround_8 : decode cX7_lookAround 8 = .ok (.istore_n 3, 1) := by decide +kernel
theorem dX7_lookAround_9 : decode cX7_lookAround 9 = .ok (.iconst 0, 1) := by decide +kernel
theorem dX7_lookAround_10 : decode cX7_lookAround 10 = .ok (.istore 4, 2) := by decide +kernel
theorem dX7_lookAround_12 : decode cX7_lookAround 12 = .ok (.iload 4, 2) := by decide +kernel
theorem dX7_lookAround_14 : decode cX7_lookAround 14 = .ok (.aload_n 0, 1) := by decide +kernel
theorem dX7_lookAround_15 : decode cX7_lookAround 15 = .ok (.getfield 9, 3) := by decide +kernel
theorem dX7_lookAround_18 : decode cX7_lookAround 18 = .ok (.getfield 130, 3) := by decide +kernel
theorem dX7_lookAround_21 : decode cX7_lookAround 21 = .ok (.if_icmp .ge 75, 3) := by decide +kernel
theorem dX7_lookAround_24 : decode cX7_lookAround 24 = .ok (.aload_n 0, 1) := by decide +kernel
theorem dX7_lookAround_25 : decode cX7_lookAround 25 = .ok (.getfield 9, 3) := by decide +kernel
theorem dX7_lookAround_28 : decode cX7_lookAround 28 = .ok (.iload 4, 2) := by decide +kernel
theorem dX7_lookAround_30 : decode cX7_lookAround 30 = .ok (.invokevirtual 248, 3) := by decide +kernel
theorem dX7_lookAround_33 : decode cX7_lookAround 33 = .ok (.ifCond .eq 12, 3) := by decide +kernel
theorem dX7_lookAround_36 : decode cX7_lookAround 36 = .ok (.aload_n 0, 1) := by decide +kernel
theorem dX7_lookAround_37 : decode cX7_lookAround 37 = .ok (.iload 4, 2) := by decide +kernel
theorem dX7_lookAround_39 : decode cX7_lookAround 39 = .ok (.invokevirtual 251, 3) := by decide +kernel
theorem dX7_lookAround_42 : decode cX7_lookAround 42 = .ok (.goto 4, 3) := by decide +kernel
theorem dX7_lookAround_45 : decode cX7_lookAround 45 = .ok (.iconst (-1), 1) := by decide +kernel
theorem dX7_lookAround_46 : decode cX7_lookAround 46 = .ok (.istore 5, 2) := by decide +kernel
theorem dX7_lookAround_48 : decode cX7_lookAround 48 = .ok (.iload 5, 2) := by decide +kernel
theorem dX7_lookAround_50 : decode cX7_lookAround 50 = .ok (.iconst (-1), 1) := by decide +kernel
theorem dX7_lookAround_51 : decode cX7_lookAround 51 = .ok (.if_icmp .eq 39, 3) := by decide +kernel
theorem dX7_lookAround_54 : decode cX7_lookAround 54 = .ok (.aload_n 0, 1) := by decide +kernel
theorem dX7_lookAround_55 : decode cX7_lookAround 55 = .ok (.getfield 9, 3) := by decide +kernel
theorem dX7_lookAround_58 : decode cX7_lookAround 58 = .ok (.getfield 232, 3) := by decide +kernel
theorem dX7_lookAround_61 : decode cX7_lookAround 61 = .ok (.iload 4, 2) := by decide +kernel
theorem dX7_lookAround_63 : decode cX7_lookAround 63 = .ok (.dup2, 1) := by decide +kernel
theorem dX7_lookAround_64 : decode cX7_lookAround 64 = .ok (.iaload, 1) := by decide +kernel
theorem dX7_lookAround_65 : decode cX7_lookAround 65 = .ok (.iconst 1, 1) := by decide +kernel
theorem dX7_lookAround_66 : decode cX7_lookAround 66 = .ok (.iload 5, 2) := by decide +kernel
theorem dX7_lookAround_68 : decode cX7_lookAround 68 = .ok (.ishl, 1) := by decide +kernel
theorem dX7_lookAround_69 : decode cX7_lookAround 69 = .ok (.ior, 1) := by decide +kernel
theorem dX7_lookAround_70 : decode cX7_lookAround 70 = .ok (.iastore, 1) := by decide +kernel
theorem dX7_lookAround_71 : decode cX7_lookAround 71 = .ok (.iconst 1, 1) := by decide +kernel
theorem dX7_lookAround_72 : decode cX7_lookAround 72 = .ok (.istore_n 3, 1) := by decide +kernel
theorem dX7_lookAround_73 : decode cX7_lookAround 73 = .ok (.aload_n 0, 1) := by decide +kernel
theorem dX7_lookAround_74 : decode cX7_lookAround 74 = .ok (.getfield 67, 3) := by decide +kernel
theorem dX7_lookAround_77 : decode cX7_lookAround 77 = .ok (.iconst (-1), 1) := by decide +kernel
theorem dX7_lookAround_78 : decode cX7_lookAround 78 = .ok (.if_icmp .eq 12, 3) := by decide +kernel
theorem dX7_lookAround_81 : decode cX7_lookAround 81 = .ok (.aload_n 0, 1) := by decide +kernel
theorem dX7_lookAround_82 : decode cX7_lookAround 82 = .ok (.invokevirtual 112, 3) := by decide +kernel
theorem dX7_lookAround_85 : decode cX7_lookAround 85 = .ok (.aload_n 0, 1) := by decide +kernel
theorem dX7_lookAround_86 : decode cX7_lookAround 86 = .ok (.invokevirtual 97, 3) := by decide +kernel
theorem dX7_lookAround_89 : decode cX7_lookAround 89 = .ok (.pop, 1) := by decide +kernel
theorem dX7_lookAround_90 : decode cX7_lookAround 90 = .ok (.iinc 4 1, 3) := by decide +kernel
theorem dX7_lookAround_93 : decode cX7_lookAround 93 = .ok (.goto (-81), 3) := by decide +kernel
theorem dX7_lookAround_96 : decode cX7_lookAround 96 = .ok (.iload_n 3, 1) := by decide +kernel
theorem dX7_lookAround_97 : decode cX7_lookAround 97 = .ok (.ifCond .ne 5, 3) := by decide +kernel
theorem dX7_lookAround_100 : decode cX7_lookAround 100 = .ok (.iload_n 2, 1) := by decide +kernel
theorem dX7_lookAround_101 : decode cX7_lookAround 101 = .ok (.ireturn, 1) := by decide +kernel
theorem dX7_lookAround_102 : decode cX7_lookAround 102 = .ok (.iinc 2 1, 3) := by decide +kernel
theorem dX7_lookAround_105 : decode cX7_lookAround 105 = .ok (.goto (-103), 3) := by decide +kernel
theorem dX7_lookAround_108 : decode cX7_lookAround 108 = .ok (.iload_n 1, 1) := by decide +kernel
theorem dX7_lookAround_109 : decode cX7_lookAround 109 = .ok (.ireturn, 1) := by decide +kernel
theorem dX7_mornings_0 : decode cX7_mornings 0 = .ok (.iload_n 1, 1) := by decide +kernel
theorem dX7_mornings_1 : decode cX7_mornings 1 = .ok (.i2l, 1) := by decide +kernel
theorem dX7_mornings_2 : decode cX7_mornings 2 = .ok (.lstore 4, 2) := by decide +kernel
theorem dX7_mornings_4 : decode cX7_mornings 4 = .ok (.lconst 0, 1) := by decide +kernel
theorem dX7_mornings_5 : decode cX7_mornings 5 = .ok (.lstore 6, 2) := by decide +kernel
theorem dX7_mornings_7 : decode cX7_mornings 7 = .ok (.iconst 0, 1) := by decide +kernel
theorem dX7_mornings_8 : decode cX7_mornings 8 = .ok (.istore 8, 2) := by decide +kernel
theorem dX7_mornings_10 : decode cX7_mornings 10 = .ok (.iload 8, 2) := by decide +kernel
theorem dX7_mornings_12 : decode cX7_mornings 12 = .ok (.iload_n 2, 1) := by decide +kernel
theorem dX7_mornings_13 : decode cX7_mornings 13 = .ok (.if_icmp .ge 79, 3) := by decide +kernel
theorem dX7_mornings_16 : decode cX7_mornings 16 = .ok (.iconst 0, 1) := by decide +kernel
theorem dX7_mornings_17 : decode cX7_mornings 17 = .ok (.istore 9, 2) := by decide +kernel
theorem dX7_mornings_19 : decode cX7_mornings 19 = .ok (.iload 9, 2) := by decide +kernel
theorem dX7_mornings_21 : decode cX7_mornings 21 = .ok (.aload_n 0, 1) := by decide +kernel
theorem dX7_mornings_22 : decode cX7_mornings 22 = .ok (.getfield 9, 3) := by decide +kernel
theorem dX7_mornings_25 : decode cX7_mornings 25 = .ok (.getfield 85, 3) := by decide +kernel
theorem dX7_mornings_28 : decode cX7_mornings 28 = .ok (.if_icmp .ge 44, 3) := by decide +kernel
theorem dX7_mornings_31 : decode cX7_mornings 31 = .ok (.lload 4, 2) := by decide +kernel
theorem dX7_mornings_33 : decode cX7_mornings 33 = .ok (.ldc2_w 254, 3) := by decide +kernel
theorem dX7_mornings_36 : decode cX7_mornings 36 = .ok (.lmul, 1) := by decide +kernel
theorem dX7_mornings_37 : decode cX7_mornings 37 = .ok (.ldc2_w 256, 3) := by decide +kernel
theorem dX7_mornings_40 : decode cX7_mornings 40 = .ok (.ladd, 1) := by decide +kernel
theorem dX7_mornings_41 : decode cX7_mornings 41 = .ok (.lstore 4, 2) := by decide +kernel
theorem dX7_mornings_43 : decode cX7_mornings 43 = .ok (.aload_n 0, 1) := by decide +kernel
theorem dX7_mornings_44 : decode cX7_mornings 44 = .ok (.getfield 30, 3) := by decide +kernel
theorem dX7_mornings_47 : decode cX7_mornings 47 = .ok (.iload 9, 2) := by decide +kernel
theorem dX7_mornings_49 : decode cX7_mornings 49 = .ok (.aload_n 0, 1) := by decide +kernel
theorem dX7_mornings_50 : decode cX7_mornings 50 = .ok (.iload 9, 2) := by decide +kernel
theorem dX7_mornings_52 : decode cX7_mornings 52 = .ok (.lload 4, 2) := by decide +kernel
theorem dX7_mornings_54 : decode cX7_mornings 54 = .ok (.bipush 33, 2) := by decide +kernel
theorem dX7_mornings_56 : decode cX7_mornings 56 = .ok (.lushr, 1) := by decide +kernel
theorem dX7_mornings_57 : decode cX7_mornings 57 = .ok (.ldc2_w 198, 3) := by decide +kernel
theorem dX7_mornings_60 : decode cX7_mornings 60 = .ok (.lrem, 1) := by decide +kernel
theorem dX7_mornings_61 : decode cX7_mornings 61 = .ok (.l2i, 1) := by decide +kernel
theorem dX7_mornings_62 : decode cX7_mornings 62 = .ok (.invokevirtual 258, 3) := by decide +kernel
theorem dX7_mornings_65 : decode cX7_mornings 65 = .ok (.iastore, 1) := by decide +kernel
theorem dX7_mornings_66 : decode cX7_mornings 66 = .ok (.iinc 9 1, 3) := by decide +kernel
theorem dX7_mornings_69 : decode cX7_mornings 69 = .ok (.goto (-50), 3) := by decide +kernel
theorem dX7_mornings_72 : decode cX7_mornings 72 = .ok (.aload_n 0, 1) := by decide +kernel
theorem dX7_mornings_73 : decode cX7_mornings 73 = .ok (.invokevirtual 167, 3) := by decide +kernel
theorem dX7_mornings_76 : decode cX7_mornings 76 = .ok (.lload 6, 2) := by decide +kernel
theorem dX7_mornings_78 : decode cX7_mornings 78 = .ok (.aload_n 0, 1) := by decide +kernel
theorem dX7_mornings_79 : decode cX7_mornings 79 = .ok (.iload_n 3, 1) := by decide +kernel
theorem dX7_mornings_80 : decode cX7_mornings 80 = .ok (.invokevirtual 261, 3) := by decide +kernel
theorem dX7_mornings_83 : decode cX7_mornings 83 = .ok (.ladd, 1) := by decide +kernel
theorem dX7_mornings_84 : decode cX7_mornings 84 = .ok (.lstore 6, 2) := by decide +kernel
theorem dX7_mornings_86 : decode cX7_mornings 86 = .ok (.iinc 8 1, 3) := by decide +kernel
theorem dX7_mornings_89 : decode cX7_mornings 89 = .ok (.goto (-79), 3) := by decide +kernel
theorem dX7_mornings_92 : decode cX7_mornings 92 = .ok (.lload 6, 2) := by decide +kernel
theorem dX7_mornings_94 : decode cX7_mornings 94 = .ok (.lreturn, 1) := by decide +kernel
theorem dX7_drawnStep_0 : decode cX7_drawnStep 0 = .ok (.iconst 0, 1) := by decide +kernel
theorem dX7_drawnStep_1 : decode cX7_drawnStep 1 = .ok (.istore_n 3, 1) := by decide +kernel
theorem dX7_drawnStep_2 : decode cX7_drawnStep 2 = .ok (.iconst 0, 1) := by decide +kernel
theorem dX7_drawnStep_3 : decode cX7_drawnStep 3 = .ok (.istore 4, 2) := by decide +kernel
theorem dX7_drawnStep_5 : decode cX7_drawnStep 5 = .ok (.iload 4, 2) := by decide +kernel
theorem dX7_drawnStep_7 : decode cX7_drawnStep 7 = .ok (.aload_n 0, 1) := by decide +kernel
theorem dX7_drawnStep_8 : decode cX7_drawnStep 8 = .ok (.getfield 9, 3) := by decide +kernel
theorem dX7_drawnStep_11 : decode cX7_drawnStep 11 = .ok (.getfield 106, 3) := by decide +kernel
theorem dX7_drawnStep_14 : decode cX7_drawnStep 14 = .ok (.if_icmp .ge 32, 3) := by decide +kernel
theorem dX7_drawnStep_17 : decode cX7_drawnStep 17 = .ok (.iload_n 3, 1) := by decide +kernel
theorem dX7_drawnStep_18 : decode cX7_drawnStep 18 = .ok (.aload_n 0, 1) := by decide +kernel
theorem dX7_drawnStep_19 : decode cX7_drawnStep 19 = .ok (.getfield 27, 3) := by decide +kernel
theorem dX7_drawnStep_22 : decode cX7_drawnStep 22 = .ok (.iload_n 1, 1) := by decide +kernel
theorem dX7_drawnStep_23 : decode cX7_drawnStep 23 = .ok (.bipush 8, 2) := by decide +kernel
theorem dX7_drawnStep_25 : decode cX7_drawnStep 25 = .ok (.imul, 1) := by decide +kernel
theorem dX7_drawnStep_26 : decode cX7_drawnStep 26 = .ok (.iload 4, 2) := by decide +kernel
theorem dX7_drawnStep_28 : decode cX7_drawnStep 28 = .ok (.iadd, 1) := by decide +kernel
theorem dX7_drawnStep_29 : decode cX7_drawnStep 29 = .ok (.iaload, 1) := by decide +kernel
theorem dX7_drawnStep_30 : decode cX7_drawnStep 30 = .ok (.iadd, 1) := by decide +kernel
theorem dX7_drawnStep_31 : decode cX7_drawnStep 31 = .ok (.istore_n 3, 1) := by decide +kernel
theorem dX7_drawnStep_32 : decode cX7_drawnStep 32 = .ok (.iload_n 3, 1) := by decide +kernel
theorem dX7_drawnStep_33 : decode cX7_drawnStep 33 = .ok (.iload_n 2, 1) := by decide +kernel
theorem dX7_drawnStep_34 : decode cX7_drawnStep 34 = .ok (.if_icmp .le 6, 3) := by decide +kernel
theorem dX7_drawnStep_37 : decode cX7_drawnStep 37 = .ok (.iload 4, 2) := by decide +kernel
theorem dX7_drawnStep_39 : decode cX7_drawnStep 39 = .ok (.ireturn, 1) := by decide +kernel
theorem dX7_drawnStep_40 : decode cX7_drawnStep 40 = .ok (.iinc 4 1, 3) := by decide +kernel
theorem dX7_drawnStep_43 : decode cX7_drawnStep 43 = .ok (.goto (-38), 3) := by decide +kernel
theorem dX7_drawnStep_46 : decode cX7_drawnStep 46 = .ok (.iconst 0, 1) := by decide +kernel
theorem dX7_drawnStep_47 : decode cX7_drawnStep 47 = .ok (.ireturn, 1) := by decide +kernel
theorem dX7_morningOf_0 : decode cX7_morningOf 0 = .ok (.aload_n 0, 1) := by decide +kernel
theorem dX7_morningOf_1 : decode cX7_morningOf 1 = .ok (.getfield 9, 3) := by decide +kernel
theorem dX7_morningOf_4 : decode cX7_morningOf 4 = .ok (.iload_n 1, 1) := by decide +kernel
theorem dX7_morningOf_5 : decode cX7_morningOf 5 = .ok (.bipush 10, 2) := by decide +kernel
theorem dX7_morningOf_7 : decode cX7_morningOf 7 = .ok (.isub, 1) := by decide +kernel
theorem dX7_morningOf_8 : decode cX7_morningOf 8 = .ok (.invokevirtual 264, 3) := by decide +kernel
theorem dX7_morningOf_11 : decode cX7_morningOf 11 = .ok (.ifCond .eq 24, 3) := by decide +kernel
theorem dX7_morningOf_14 : decode cX7_morningOf 14 = .ok (.aload_n 0, 1) := by decide +kernel
theorem dX7_morningOf_15 : decode cX7_morningOf 15 = .ok (.getfield 36, 3) := by decide +kernel
theorem dX7_morningOf_18 : decode cX7_morningOf 18 = .ok (.aload_n 0, 1) := by decide +kernel
theorem dX7_morningOf_19 : decode cX7_morningOf 19 = .ok (.getfield 9, 3) := by decide +kernel
theorem dX7_morningOf_22 : decode cX7_morningOf 22 = .ok (.invokevirtual 133, 3) := by decide +kernel
theorem dX7_morningOf_25 : decode cX7_morningOf 25 = .ok (.iaload, 1) := by decide +kernel
theorem dX7_morningOf_26 : decode cX7_morningOf 26 = .ok (.iload_n 1, 1) := by decide +kernel
theorem dX7_morningOf_27 : decode cX7_morningOf 27 = .ok (.bipush 10, 2) := by decide +kernel
theorem dX7_morningOf_29 : decode cX7_morningOf 29 = .ok (.isub, 1) := by decide +kernel
theorem dX7_morningOf_30 : decode cX7_morningOf 30 = .ok (.ishr, 1) := by decide +kernel
theorem dX7_morningOf_31 : decode cX7_morningOf 31 = .ok (.iconst 1, 1) := by decide +kernel
theorem dX7_morningOf_32 : decode cX7_morningOf 32 = .ok (.iand, 1) := by decide +kernel
theorem dX7_morningOf_33 : decode cX7_morningOf 33 = .ok (.i2l, 1) := by decide +kernel
theorem dX7_morningOf_34 : decode cX7_morningOf 34 = .ok (.lreturn, 1) := by decide +kernel
theorem dX7_morningOf_35 : decode cX7_morningOf 35 = .ok (.aload_n 0, 1) := by decide +kernel
theorem dX7_morningOf_36 : decode cX7_morningOf 36 = .ok (.getfield 9, 3) := by decide +kernel
theorem dX7_morningOf_39 : decode cX7_morningOf 39 = .ok (.iload_n 1, 1) := by decide +kernel
theorem dX7_morningOf_40 : decode cX7_morningOf 40 = .ok (.bipush 20, 2) := by decide +kernel
theorem dX7_morningOf_42 : decode cX7_morningOf 42 = .ok (.isub, 1) := by decide +kernel
theorem dX7_morningOf_43 : decode cX7_morningOf 43 = .ok (.invokevirtual 264, 3) := by decide +kernel
theorem dX7_morningOf_46 : decode cX7_morningOf 46 = .ok (.ifCond .eq 21, 3) := by decide +kernel
theorem dX7_morningOf_49 : decode cX7_morningOf 49 = .ok (.aload_n 0, 1) := by decide +kernel
theorem dX7_morningOf_50 : decode cX7_morningOf 50 = .ok (.getfield 9, 3) := by decide +kernel
theorem dX7_morningOf_53 : decode cX7_morningOf 53 = .ok (.aload_n 0, 1) := by decide +kernel
theorem dX7_morningOf_54 : decode cX7_morningOf 54 = .ok (.getfield 30, 3) := by decide +kernel
theorem dX7_morningOf_57 : decode cX7_morningOf 57 = .ok (.iload_n 1, 1) := by decide +kernel
theorem dX7_morningOf_58 : decode cX7_morningOf 58 = .ok (.bipush 20, 2) := by decide +kernel
theorem dX7_morningOf_60 : decode cX7_morningOf 60 = .ok (.isub, 1) := by decide +kernel
theorem dX7_morningOf_61 : decode cX7_morningOf 61 = .ok (.iaload, 1) := by decide +kernel
theorem dX7_morningOf_62 : decode cX7_morningOf 62 = .ok (.invokevirtual 151, 3) := by decide +kernel
theorem dX7_morningOf_65 : decode cX7_morningOf 65 = .ok (.i2l, 1) := by decide +kernel
theorem dX7_morningOf_66 : decode cX7_morningOf 66 = .ok (.lreturn, 1) := by decide +kernel
theorem dX7_morningOf_67 : decode cX7_morningOf 67 = .ok (.aload_n 0, 1) := by decide +kernel
theorem dX7_morningOf_68 : decode cX7_morningOf 68 = .ok (.getfield 9, 3) := by decide +kernel
theorem dX7_morningOf_71 : decode cX7_morningOf 71 = .ok (.iload_n 1, 1) := by decide +kernel
theorem dX7_morningOf_72 : decode cX7_morningOf 72 = .ok (.bipush 30, 2) := by decide +kernel
theorem dX7_morningOf_74 : decode cX7_morningOf 74 = .ok (.isub, 1) := by decide +kernel
theorem dX7_morningOf_75 : decode cX7_morningOf 75 = .ok (.invokevirtual 267, 3) := by decide +kernel
theorem dX7_morningOf_78 : decode cX7_morningOf 78 = .ok (.ifCond .eq 14, 3) := by decide +kernel
theorem dX7_morningOf_81 : decode cX7_morningOf 81 = .ok (.aload_n 0, 1) := by decide +kernel
theorem dX7_morningOf_82 : decode cX7_morningOf 82 = .ok (.iload_n 1, 1) := by decide +kernel
theorem dX7_morningOf_83 : decode cX7_morningOf 83 = .ok (.bipush 30, 2) := by decide +kernel
theorem dX7_morningOf_85 : decode cX7_morningOf 85 = .ok (.isub, 1) := by decide +kernel
theorem dX7_morningOf_86 : decode cX7_morningOf 86 = .ok (.invokevirtual 270, 3) := by decide +kernel
theorem dX7_morningOf_89 : decode cX7_morningOf 89 = .ok (.goto 4, 3) := by decide +kernel
theorem dX7_morningOf_92 : decode cX7_morningOf 92 = .ok (.lconst 0, 1) := by decide +kernel
theorem dX7_morningOf_93 : decode cX7_morningOf 93 = .ok (.lreturn, 1) := by decide +kernel
theorem dX7_paidInRow_0 : decode cX7_paidInRow 0 = .ok (.lconst 0, 1) := by decide +kernel
theorem dX7_paidInRow_1 : decode cX7_paidInRow 1 = .ok (.lstore_n 2, 1) := by decide +kernel
theorem dX7_paidInRow_2 : decode cX7_paidInRow 2 = .ok (.iconst 1, 1) := by decide +kernel
theorem dX7_paidInRow_3 : decode cX7_paidInRow 3 = .ok (.istore 4, 2) := by decide +kernel
theorem dX7_paidInRow_5 : decode cX7_paidInRow 5 = .ok (.iload 4, 2) := by decide +kernel
theorem dX7_paidInRow_7 : decode cX7_paidInRow 7 = .ok (.aload_n 0, 1) := by decide +kernel
theorem dX7_paidInRow_8 : decode cX7_paidInRow 8 = .ok (.getfield 9, 3) := by decide +kernel
theorem dX7_paidInRow_11 : decode cX7_paidInRow 11 = .ok (.invokevirtual 133, 3) := by decide +kernel
theorem dX7_paidInRow_14 : decode cX7_paidInRow 14 = .ok (.if_icmp .gt 73, 3) := by decide +kernel
theorem dX7_paidInRow_17 : decode cX7_paidInRow 17 = .ok (.aload_n 0, 1) := by decide +kernel
theorem dX7_paidInRow_18 : decode cX7_paidInRow 18 = .ok (.getfield 9, 3) := by decide +kernel
theorem dX7_paidInRow_21 : decode cX7_paidInRow 21 = .ok (.iload_n 1, 1) := by decide +kernel
theorem dX7_paidInRow_22 : decode cX7_paidInRow 22 = .ok (.iload 4, 2) := by decide +kernel
theorem dX7_paidInRow_24 : decode cX7_paidInRow 24 = .ok (.aload_n 0, 1) := by decide +kernel
theorem dX7_paidInRow_25 : decode cX7_paidInRow 25 = .ok (.getfield 59, 3) := by decide +kernel
theorem dX7_paidInRow_28 : decode cX7_paidInRow 28 = .ok (.invokevirtual 137, 3) := by decide +kernel
theorem dX7_paidInRow_31 : decode cX7_paidInRow 31 = .ok (.istore 5, 2) := by decide +kernel
theorem dX7_paidInRow_33 : decode cX7_paidInRow 33 = .ok (.iload 5, 2) := by decide +kernel
theorem dX7_paidInRow_35 : decode cX7_paidInRow 35 = .ok (.ifCond .le 46, 3) := by decide +kernel
theorem dX7_paidInRow_38 : decode cX7_paidInRow 38 = .ok (.aload_n 0, 1) := by decide +kernel
theorem dX7_paidInRow_39 : decode cX7_paidInRow 39 = .ok (.getfield 9, 3) := by decide +kernel
theorem dX7_paidInRow_42 : decode cX7_paidInRow 42 = .ok (.aload_n 0, 1) := by decide +kernel
theorem dX7_paidInRow_43 : decode cX7_paidInRow 43 = .ok (.getfield 33, 3) := by decide +kernel
theorem dX7_paidInRow_46 : decode cX7_paidInRow 46 = .ok (.iload 4, 2) := by decide +kernel
theorem dX7_paidInRow_48 : decode cX7_paidInRow 48 = .ok (.iaload, 1) := by decide +kernel
theorem dX7_paidInRow_49 : decode cX7_paidInRow 49 = .ok (.invokevirtual 151, 3) := by decide +kernel
theorem dX7_paidInRow_52 : decode cX7_paidInRow 52 = .ok (.istore 6, 2) := by decide +kernel
theorem dX7_paidInRow_54 : decode cX7_paidInRow 54 = .ok (.lload_n 2, 1) := by decide +kernel
theorem dX7_paidInRow_55 : decode cX7_paidInRow 55 = .ok (.iload 6, 2) := by decide +kernel
theorem dX7_paidInRow_57 : decode cX7_paidInRow 57 = .ok (.aload_n 0, 1) := by decide +kernel
theorem dX7_paidInRow_58 : decode cX7_paidInRow 58 = .ok (.getfield 9, 3) := by decide +kernel
theorem dX7_paidInRow_61 : decode cX7_paidInRow 61 = .ok (.getfield 144, 3) := by decide +kernel
theorem dX7_paidInRow_64 : decode cX7_paidInRow 64 = .ok (.iload_n 1, 1) := by decide +kernel
theorem dX7_paidInRow_65 : decode cX7_paidInRow 65 = .ok (.iaload, 1) := by decide +kernel
theorem dX7_paidInRow_66 : decode cX7_paidInRow 66 = .ok (.if_icmp .gt 12, 3) := by decide +kernel
theorem dX7_paidInRow_69 : decode cX7_paidInRow 69 = .ok (.iload 5, 2) := by decide +kernel
theorem dX7_paidInRow_71 : decode cX7_paidInRow 71 = .ok (.iload 6, 2) := by decide +kernel
theorem dX7_paidInRow_73 : decode cX7_paidInRow 73 = .ok (.imul, 1) := by decide +kernel
theorem dX7_paidInRow_74 : decode cX7_paidInRow 74 = .ok (.i2l, 1) := by decide +kernel
theorem dX7_paidInRow_75 : decode cX7_paidInRow 75 = .ok (.goto 4, 3) := by decide +kernel
theorem dX7_paidInRow_78 : decode cX7_paidInRow 78 = .ok (.lconst 0, 1) := by decide +kernel
theorem dX7_paidInRow_79 : decode cX7_paidInRow 79 = .ok (.ladd, 1) := by decide +kernel
theorem dX7_paidInRow_80 : decode cX7_paidInRow 80 = .ok (.lstore_n 2, 1) := by decide +kernel
theorem dX7_paidInRow_81 : decode cX7_paidInRow 81 = .ok (.iinc 4 1, 3) := by decide +kernel
theorem dX7_paidInRow_84 : decode cX7_paidInRow 84 = .ok (.goto (-79), 3) := by decide +kernel
theorem dX7_paidInRow_87 : decode cX7_paidInRow 87 = .ok (.lload_n 2, 1) := by decide +kernel
theorem dX7_paidInRow_88 : decode cX7_paidInRow 88 = .ok (.aload_n 0, 1) := by decide +kernel
theorem dX7_paidInRow_89 : decode cX7_paidInRow 89 = .ok (.getfield 9, 3) := by decide +kernel
theorem dX7_paidInRow_92 : decode cX7_paidInRow 92 = .ok (.getfield 141, 3) := by decide +kernel
theorem dX7_paidInRow_95 : decode cX7_paidInRow 95 = .ok (.iload_n 1, 1) := by decide +kernel
theorem dX7_paidInRow_96 : decode cX7_paidInRow 96 = .ok (.iaload, 1) := by decide +kernel
theorem dX7_paidInRow_97 : decode cX7_paidInRow 97 = .ok (.i2l, 1) := by decide +kernel
theorem dX7_paidInRow_98 : decode cX7_paidInRow 98 = .ok (.lmul, 1) := by decide +kernel
theorem dX7_paidInRow_99 : decode cX7_paidInRow 99 = .ok (.ldc2_w 212, 3) := by decide +kernel
theorem dX7_paidInRow_102 : decode cX7_paidInRow 102 = .ok (.lmul, 1) := by decide +kernel
theorem dX7_paidInRow_103 : decode cX7_paidInRow 103 = .ok (.lreturn, 1) := by decide +kernel
theorem dX8_init_0 : decode cX8_init 0 = .ok (.aload_n 0, 1) := by decide +kernel
theorem dX8_init_1 : decode cX8_init 1 = .ok (.invokespecial 1, 3) := by decide +kernel
theorem dX8_init_4 : decode cX8_init 4 = .ok (.sipush 800, 3) := by decide +kernel
theorem dX8_init_7 : decode cX8_init 7 = .ok (.newarray .byte, 2) := by decide +kernel
theorem dX8_init_9 : decode cX8_init 9 = .ok (.astore_n 1, 1) := by decide +kernel
theorem dX8_init_10 : decode cX8_init 10 = .ok (.new 9, 3) := by decide +kernel
theorem dX8_init_13 : decode cX8_init 13 = .ok (.dup, 1) := by decide +kernel
theorem dX8_init_14 : decode cX8_init 14 = .ok (.invokespecial 11, 3) := by decide +kernel
theorem dX8_init_17 : decode cX8_init 17 = .ok (.astore_n 2, 1) := by decide +kernel
theorem dX8_init_18 : decode cX8_init 18 = .ok (.new 9, 3) := by decide +kernel
theorem dX8_init_21 : decode cX8_init 21 = .ok (.dup, 1) := by decide +kernel
theorem dX8_init_22 : decode cX8_init 22 = .ok (.invokespecial 11, 3) := by decide +kernel
theorem dX8_init_25 : decode cX8_init 25 = .ok (.astore_n 3, 1) := by decide +kernel
theorem dX8_init_26 : decode cX8_init 26 = .ok (.new 12, 3) := by decide +kernel
theorem dX8_init_29 : decode cX8_init 29 = .ok (.dup, 1) := by decide +kernel
theorem dX8_init_30 : decode cX8_init 30 = .ok (.invokespecial 14, 3) := by decide +kernel
theorem dX8_init_33 : decode cX8_init 33 = .ok (.astore 4, 2) := by decide +kernel
theorem dX8_init_35 : decode cX8_init 35 = .ok (.new 15, 3) := by decide +kernel
theorem dX8_init_38 : decode cX8_init 38 = .ok (.dup, 1) := by decide +kernel
theorem dX8_init_39 : decode cX8_init 39 = .ok (.invokespecial 17, 3) := by decide +kernel
theorem dX8_init_42 : decode cX8_init 42 = .ok (.astore 5, 2) := by decide +kernel
theorem dX8_init_44 : decode cX8_init 44 = .ok (.new 18, 3) := by decide +kernel
theorem dX8_init_47 : decode cX8_init 47 = .ok (.dup, 1) := by decide +kernel
theorem dX8_init_48 : decode cX8_init 48 = .ok (.aload_n 2, 1) := by decide +kernel
theorem dX8_init_49 : decode cX8_init 49 = .ok (.aload 5, 2) := by decide +kernel
theorem dX8_init_51 : decode cX8_init 51 = .ok (.aload 4, 2) := by decide +kernel
theorem dX8_init_53 : decode cX8_init 53 = .ok (.invokespecial 20, 3) := by decide +kernel
theorem dX8_init_56 : decode cX8_init 56 = .ok (.astore 6, 2) := by decide +kernel
theorem dX8_init_58 : decode cX8_init 58 = .ok (.iconst 4, 1) := by decide +kernel
theorem dX8_init_59 : decode cX8_init 59 = .ok (.anewarray 15, 3) := by decide +kernel
theorem dX8_init_62 : decode cX8_init 62 = .ok (.astore 7, 2) := by decide +kernel
theorem dX8_init_64 : decode cX8_init 64 = .ok (.iconst 0, 1) := by decide +kernel
theorem dX8_init_65 : decode cX8_init 65 = .ok (.istore 8, 2) := by decide +kernel
theorem dX8_init_67 : decode cX8_init 67 = .ok (.iload 8, 2) := by decide +kernel
theorem dX8_init_69 : decode cX8_init 69 = .ok (.aload 7, 2) := by decide +kernel
theorem dX8_init_71 : decode cX8_init 71 = .ok (.arraylength, 1) := by decide +kernel
theorem dX8_init_72 : decode cX8_init 72 = .ok (.if_icmp .ge 21, 3) := by decide +kernel
theorem dX8_init_75 : decode cX8_init 75 = .ok (.aload 7, 2) := by decide +kernel
theorem dX8_init_77 : decode cX8_init 77 = .ok (.iload 8, 2) := by decide +kernel
theorem dX8_init_79 : decode cX8_init 79 = .ok (.new 15, 3) := by decide +kernel
theorem dX8_init_82 : decode cX8_init 82 = .ok (.dup, 1) := by decide +kernel
theorem dX8_init_83 : decode cX8_init 83 = .ok (.invokespecial 17, 3) := by decide +kernel
theorem dX8_init_86 : decode cX8_init 86 = .ok (.aastore, 1) := by decide +kernel
theorem dX8_init_87 : decode cX8_init 87 = .ok (.iinc 8 1, 3) := by decide +kernel
theorem dX8_init_90 : decode cX8_init 90 = .ok (.goto (-23), 3) := by decide +kernel
theorem dX8_init_93 : decode cX8_init 93 = .ok (.aload_n 0, 1) := by decide +kernel
theorem dX8_init_94 : decode cX8_init 94 = .ok (.aload_n 1, 1) := by decide +kernel
theorem dX8_init_95 : decode cX8_init 95 = .ok (.putfield 23, 3) := by decide +kernel
theorem dX8_init_98 : decode cX8_init 98 = .ok (.aload_n 0, 1) := by decide +kernel
theorem dX8_init_99 : decode cX8_init 99 = .ok (.aload_n 2, 1) := by decide +kernel
theorem dX8_init_100 : decode cX8_init 100 = .ok (.putfield 27, 3) := by decide +kernel
theorem dX8_init_103 : decode cX8_init 103 = .ok (.aload_n 0, 1) := by decide +kernel
theorem dX8_init_104 : decode cX8_init 104 = .ok (.aload_n 3, 1) := by decide +kernel
theorem dX8_init_105 : decode cX8_init 105 = .ok (.putfield 31, 3) := by decide +kernel
theorem dX8_init_108 : decode cX8_init 108 = .ok (.aload_n 0, 1) := by decide +kernel
theorem dX8_init_109 : decode cX8_init 109 = .ok (.new 34, 3) := by decide +kernel
theorem dX8_init_112 : decode cX8_init 112 = .ok (.dup, 1) := by decide +kernel
theorem dX8_init_113 : decode cX8_init 113 = .ok (.aload_n 1, 1) := by decide +kernel
theorem dX8_init_114 : decode cX8_init 114 = .ok (.aload_n 3, 1) := by decide +kernel
theorem dX8_init_115 : decode cX8_init 115 = .ok (.invokespecial 36, 3) := by decide +kernel
theorem dX8_init_118 : decode cX8_init 118 = .ok (.putfield 39, 3) := by decide +kernel
theorem dX8_init_121 : decode cX8_init 121 = .ok (.aload_n 0, 1) := by decide +kernel
theorem dX8_init_122 : decode cX8_init 122 = .ok (.aload 4, 2) := by decide +kernel
theorem dX8_init_124 : decode cX8_init 124 = .ok (.putfield 43, 3) := by decide +kernel
theorem dX8_init_127 : decode cX8_init 127 = .ok (.aload_n 0, 1) := by decide +kernel
theorem dX8_init_128 : decode cX8_init 128 = .ok (.aload 5, 2) := by decide +kernel
theorem dX8_init_130 : decode cX8_init 130 = .ok (.putfield 47, 3) := by decide +kernel
theorem dX8_init_133 : decode cX8_init 133 = .ok (.aload_n 0, 1) := by decide +kernel
theorem dX8_init_134 : decode cX8_init 134 = .ok (.aload 7, 2) := by decide +kernel
theorem dX8_init_136 : decode cX8_init 136 = .ok (.putfield 51, 3) := by decide +kernel
theorem dX8_init_139 : decode cX8_init 139 = .ok (.aload_n 0, 1) := by decide +kernel
theorem dX8_init_140 : decode cX8_init 140 = .ok (.aload 6, 2) := by decide +kernel
theorem dX8_init_142 : decode cX8_init 142 = .ok (.putfield 55, 3) := by decide +kernel
theorem dX8_init_145 : decode cX8_init 145 = .ok (.aload_n 0, 1) := by decide +kernel
theorem dX8_init_146 : decode cX8_init 146 = .ok (.new 59, 3) := by decide +kernel
theorem dX8_init_149 : decode cX8_init 149 = .ok (.dup, 1) := by decide +kernel
theorem dX8_init_150 : decode cX8_init 150 = .ok (.aload_n 2, 1) := by decide +kernel
theorem dX8_init_151 : decode cX8_init 151 = .ok (.aload 5, 2) := by decide +kernel
theorem dX8_init_153 : decode cX8_init 153 = .ok (.aload 4, 2) := by decide +kernel
theorem dX8_init_155 : decode cX8_init 155 = .ok (.aload 6, 2) := by decide +kernel
theorem dX8_init_157 : decode cX8_init 157 = .ok (.invokespecial 61, 3) := by decide +kernel
theorem dX8_init_160 : decode cX8_init 160 = .ok (.putfield 64, 3) := by decide +kernel
theorem dX8_init_163 : decode cX8_init 163 = .ok (.aload_n 0, 1) := by decide +kernel
theorem dX8_init_164 : decode cX8_init 164 = .ok (.new 68, 3) := by decide +kernel
theorem dX8_init_167 : decode cX8_init 167 = .ok (.dup, 1) := by decide +kernel
theorem dX8_init_168 : decode cX8_init 168 = .ok (.aload_n 2, 1) := by decide +kernel
theorem dX8_init_169 : decode cX8_init 169 = .ok (.aload 5, 2) := by decide +kernel
theorem dX8_init_171 : decode cX8_init 171 = .ok (.aload 6, 2) := by decide +kernel
theorem dX8_init_173 : decode cX8_init 173 = .ok (.invokespecial 70, 3) := by decide +kernel
theorem dX8_init_176 : decode cX8_init 176 = .ok (.putfield 73, 3) := by decide +kernel
theorem dX8_init_179 : decode cX8_init 179 = .ok (.aload_n 0, 1) := by decide +kernel
theorem dX8_init_180 : decode cX8_init 180 = .ok (.new 77, 3) := by decide +kernel
theorem dX8_init_183 : decode cX8_init 183 = .ok (.dup, 1) := by decide +kernel
theorem dX8_init_184 : decode cX8_init 184 = .ok (.aload 6, 2) := by decide +kernel
theorem dX8_init_186 : decode cX8_init 186 = .ok (.invokespecial 79, 3) := by decide +kernel
theorem dX8_init_189 : decode cX8_init 189 = .ok (.putfield 82, 3) := by decide +kernel
theorem dX8_init_192 : decode cX8_init 192 = .ok (.aload_n 0, 1) := by decide +kernel
theorem dX8_init_193 : decode cX8_init 193 = .ok (.iconst 0, 1) := by decide +kernel
theorem dX8_init_194 : decode cX8_init 194 = .ok (.putfield 86, 3) := by decide +kernel
theorem dX8_init_197 : decode cX8_init 197 = .ok (.aload_n 0, 1) := by decide +kernel
theorem dX8_init_198 : decode cX8_init 198 = .ok (.iconst (-1), 1) := by decide +kernel
theorem dX8_init_199 : decode cX8_init 199 = .ok (.putfield 90, 3) := by decide +kernel
theorem dX8_init_202 : decode cX8_init 202 = .ok (.aload_n 0, 1) := by decide +kernel
theorem dX8_init_203 : decode cX8_init 203 = .ok (.iconst 0, 1) := by decide +kernel
theorem dX8_init_204 : decode cX8_init 204 = .ok (.putfield 93, 3) := by decide +kernel
theorem dX8_init_207 : decode cX8_init 207 = .ok (.aload_n 0, 1) := by decide +kernel
theorem dX8_init_208 : decode cX8_init 208 = .ok (.iconst 0, 1) := by decide +kernel
theorem dX8_init_209 : decode cX8_init 209 = .ok (.putfield 96, 3) := by decide +kernel
theorem dX8_init_212 : decode cX8_init 212 = .ok (.return_, 1) := by decide +kernel
theorem dX8_feed_0 : decode cX8_feed 0 = .ok (.aload_n 0, 1) := by decide +kernel
theorem dX8_feed_1 : decode cX8_feed 1 = .ok (.getfield 86, 3) := by decide +kernel
theorem dX8_feed_4 : decode cX8_feed 4 = .ok (.bipush 20, 2) := by decide +kernel
theorem dX8_feed_6 : decode cX8_feed 6 = .ok (.iadd, 1) := by decide +kernel
theorem dX8_feed_7 : decode cX8_feed 7 = .ok (.aload_n 0, 1) := by decide +kernel
theorem dX8_feed_8 : decode cX8_feed 8 = .ok (.getfield 23, 3) := by decide +kernel
theorem dX8_feed_11 : decode cX8_feed 11 = .ok (.arraylength, 1) := by decide +kernel
theorem dX8_feed_12 : decode cX8_feed 12 = .ok (.if_icmp .le 5, 3) := by decide +kernel
theorem dX8_feed_15 : decode cX8_feed 15 = .ok (.iconst (-1), 1) := by decide +kernel
theorem dX8_feed_16 : decode cX8_feed 16 = .ok (.ireturn, 1) := by decide +kernel
theorem dX8_feed_17 : decode cX8_feed 17 = .ok (.aload_n 0, 1) := by decide +kernel
theorem dX8_feed_18 : decode cX8_feed 18 = .ok (.iload_n 1, 1) := by decide +kernel
theorem dX8_feed_19 : decode cX8_feed 19 = .ok (.invokevirtual 99, 3) := by decide +kernel
theorem dX8_feed_22 : decode cX8_feed 22 = .ok (.aload_n 0, 1) := by decide +kernel
theorem dX8_feed_23 : decode cX8_feed 23 = .ok (.iload_n 2, 1) := by decide +kernel
theorem dX8_feed_24 : decode cX8_feed 24 = .ok (.invokevirtual 99, 3) := by decide +kernel
theorem dX8_feed_27 : decode cX8_feed 27 = .ok (.aload_n 0, 1) := by decide +kernel
theorem dX8_feed_28 : decode cX8_feed 28 = .ok (.iload_n 3, 1) := by decide +kernel
theorem dX8_feed_29 : decode cX8_feed 29 = .ok (.invokevirtual 99, 3) := by decide +kernel
theorem dX8_feed_32 : decode cX8_feed 32 = .ok (.aload_n 0, 1) := by decide +kernel
theorem dX8_feed_33 : decode cX8_feed 33 = .ok (.iload 4, 2) := by decide +kernel
theorem dX8_feed_35 : decode cX8_feed 35 = .ok (.invokevirtual 99, 3) := by decide +kernel
theorem dX8_feed_38 : decode cX8_feed 38 = .ok (.aload_n 0, 1) := by decide +kernel
theorem dX8_feed_39 : decode cX8_feed 39 = .ok (.iload 5, 2) := by decide +kernel
theorem dX8_feed_41 : decode cX8_feed 41 = .ok (.invokevirtual 99, 3) := by decide +kernel
theorem dX8_feed_44 : decode cX8_feed 44 = .ok (.aload_n 0, 1) := by decide +kernel
theorem dX8_feed_45 : decode cX8_feed 45 = .ok (.getfield 86, 3) := by decide +kernel
theorem dX8_feed_48 : decode cX8_feed 48 = .ok (.ireturn, 1) := by decide +kernel
theorem dX8_putNumber_0 : decode cX8_putNumber 0 = .ok (.bipush 24, 2) := by decide +kernel
theorem dX8_putNumber_2 : decode cX8_putNumber 2 = .ok (.istore_n 2, 1) := by decide +kernel
theorem dX8_putNumber_3 : decode cX8_putNumber 3 = .ok (.iload_n 2, 1) := by decide +kernel
theorem dX8_putNumber_4 : decode cX8_putNumber 4 = .ok (.ifCond .lt 44, 3) := by decide +kernel
theorem dX8_putNumber_7 : decode cX8_putNumber 7 = .ok (.aload_n 0, 1) := by decide +kernel
theorem dX8_putNumber_8 : decode cX8_putNumber 8 = .ok (.getfield 86, 3) := by decide +kernel
theorem dX8_putNumber_11 : decode cX8_putNumber 11 = .ok (.aload_n 0, 1) := by decide +kernel
theorem dX8_putNumber_12 : decode cX8_putNumber 12 = .ok (.getfield 23, 3) := by decide +kernel
theorem dX8_putNumber_15 : decode cX8_putNumber 15 = .ok (.arraylength, 1) := by decide +kernel
theorem dX8_putNumber_16 : decode cX8_putNumber 16 = .ok (.if_icmp .ge 26, 3) := by decide +kernel
theorem dX8_putNumber_19 : decode cX8_putNumber 19 = .ok (.aload_n 0, 1) := by decide +kernel
theorem dX8_putNumber_20 : decode cX8_putNumber 20 = .ok (.getfield 23, 3) := by decide +kernel
theorem dX8_putNumber_23 : decode cX8_putNumber 23 = .ok (.aload_n 0, 1) := by decide +kernel
theorem dX8_putNumber_24 : decode cX8_putNumber 24 = .ok (.getfield 86, 3) := by decide +kernel
theorem dX8_putNumber_27 : decode cX8_putNumber 27 = .ok (.iload_n 1, 1) := by decide +kernel
theorem dX8_putNumber_28 : decode cX8_putNumber 28 = .ok (.iload_n 2, 1) := by decide +kernel
theorem dX8_putNumber_29 : decode cX8_putNumber 29 = .ok (.iushr, 1) := by decide +kernel
theorem dX8_putNumber_30 : decode cX8_putNumber 30 = .ok (.i2b, 1) := by decide +kernel
theorem dX8_putNumber_31 : decode cX8_putNumber 31 = .ok (.bastore, 1) := by decide +kernel
theorem dX8_putNumber_32 : decode cX8_putNumber 32 = .ok (.aload_n 0, 1) := by decide +kernel
theorem dX8_putNumber_33 : decode cX8_putNumber 33 = .ok (.dup, 1) := by decide +kernel
theorem dX8_putNumber_34 : decode cX8_putNumber 34 = .ok (.getfield 86, 3) := by decide +kernel
theorem dX8_putNumber_37 : decode cX8_putNumber 37 = .ok (.iconst 1, 1) := by decide +kernel
theorem dX8_putNumber_38 : decode cX8_putNumber 38 = .ok (.iadd, 1) := by decide +kernel
theorem dX8_putNumber_39 : decode cX8_putNumber 39 = .ok (.putfield 86, 3) := by decide +kernel
theorem dX8_putNumber_42 : decode cX8_putNumber 42 = .ok (.iinc 2 (-8), 3) := by decide +kernel
theorem dX8_putNumber_45 : decode cX8_putNumber 45 = .ok (.goto (-42), 3) := by decide +kernel
theorem dX8_putNumber_48 : decode cX8_putNumber 48 = .ok (.return_, 1) := by decide +kernel
theorem dX8_street_0 : decode cX8_street 0 = .ok (.iload_n 1, 1) := by decide +kernel
theorem dX8_street_1 : decode cX8_street 1 = .ok (.ifCond .lt 11, 3) := by decide +kernel
theorem dX8_street_4 : decode cX8_street 4 = .ok (.iload_n 1, 1) := by decide +kernel
theorem dX8_street_5 : decode cX8_street 5 = .ok (.aload_n 0, 1) := by decide +kernel
theorem dX8_street_6 : decode cX8_street 6 = .ok (.getfield 86, 3) := by decide +kernel
theorem dX8_street_9 : decode cX8_street 9 = .ok (.if_icmp .le 6, 3) := by decide +kernel
theorem dX8_street_12 : decode cX8_street 12 = .ok (.bipush (-2), 2) := by decide +kernel
theorem dX8_street_14 : decode cX8_street 14 = .ok (.ireturn, 1) := by decide +kernel
theorem dX8_street_15 : decode cX8_street 15 = .ok (.aload_n 0, 1) := by decide +kernel
theorem dX8_street_16 : decode cX8_street 16 = .ok (.iconst 0, 1) := by decide +kernel
theorem dX8_street_17 : decode cX8_street 17 = .ok (.putfield 86, 3) := by decide +kernel
theorem dX8_street_20 : decode cX8_street 20 = .ok (.aload_n 0, 1) := by decide +kernel
theorem dX8_street_21 : decode cX8_street 21 = .ok (.aload_n 0, 1) := by decide +kernel
theorem dX8_street_22 : decode cX8_street 22 = .ok (.getfield 39, 3) := by decide +kernel
theorem dX8_street_25 : decode cX8_street 25 = .ok (.iload_n 1, 1) := by decide +kernel
theorem dX8_street_26 : decode cX8_street 26 = .ok (.invokevirtual 103, 3) := by decide +kernel
theorem dX8_street_29 : decode cX8_street 29 = .ok (.putfield 90, 3) := by decide +kernel
theorem dX8_street_32 : decode cX8_street 32 = .ok (.aload_n 0, 1) := by decide +kernel
theorem dX8_street_33 : decode cX8_street 33 = .ok (.getfield 90, 3) := by decide +kernel
theorem dX8_street_36 : decode cX8_street 36 = .ok (.iconst (-1), 1) := by decide +kernel
theorem dX8_street_37 : decode cX8_street 37 = .ok (.if_icmp .eq 5, 3) := by decide +kernel
theorem dX8_street_40 : decode cX8_street 40 = .ok (.iconst (-1), 1) := by decide +kernel
theorem dX8_street_41 : decode cX8_street 41 = .ok (.ireturn, 1) := by decide +kernel
theorem dX8_street_42 : decode cX8_street 42 = .ok (.aload_n 0, 1) := by decide +kernel
theorem dX8_street_43 : decode cX8_street 43 = .ok (.getfield 27, 3) := by decide +kernel
theorem dX8_street_46 : decode cX8_street 46 = .ok (.aload_n 0, 1) := by decide +kernel
theorem dX8_street_47 : decode cX8_street 47 = .ok (.getfield 31, 3) := by decide +kernel
theorem dX8_street_50 : decode cX8_street 50 = .ok (.invokevirtual 107, 3) := by decide +kernel
theorem dX8_street_53 : decode cX8_street 53 = .ok (.aload_n 0, 1) := by decide +kernel
theorem dX8_street_54 : decode cX8_street 54 = .ok (.getfield 47, 3) := by decide +kernel
theorem dX8_street_57 : decode cX8_street 57 = .ok (.aload_n 0, 1) := by decide +kernel
theorem dX8_street_58 : decode cX8_street 58 = .ok (.getfield 27, 3) := by decide +kernel
theorem dX8_street_61 : decode cX8_street 61 = .ok (.invokevirtual 111, 3) := by decide +kernel
theorem dX8_street_64 : decode cX8_street 64 = .ok (.aload_n 0, 1) := by decide +kernel
theorem dX8_street_65 : decode cX8_street 65 = .ok (.getfield 43, 3) := by decide +kernel
theorem dX8_street_68 : decode cX8_street 68 = .ok (.invokevirtual 114, 3) := by decide +kernel
theorem dX8_street_71 : decode cX8_street 71 = .ok (.aload_n 0, 1) := by decide +kernel
theorem dX8_street_72 : decode cX8_street 72 = .ok (.getfield 64, 3) := by decide +kernel
theorem dX8_street_75 : decode cX8_street 75 = .ok (.invokevirtual 117, 3) := by decide +kernel
theorem dX8_street_78 : decode cX8_street 78 = .ok (.aload_n 0, 1) := by decide +kernel
theorem dX8_street_79 : decode cX8_street 79 = .ok (.iconst 0, 1) := by decide +kernel
theorem dX8_street_80 : decode cX8_street 80 = .ok (.putfield 96, 3) := by decide +kernel
theorem dX8_street_83 : decode cX8_street 83 = .ok (.aload_n 0, 1) := by decide +kernel
theorem dX8_street_84 : decode cX8_street 84 = .ok (.dup, 1) := by decide +kernel
theorem dX8_street_85 : decode cX8_street 85 = .ok (.getfield 93, 3) := by decide +kernel
theorem dX8_street_88 : decode cX8_street 88 = .ok (.iconst 1, 1) := by decide +kernel
theorem dX8_street_89 : decode cX8_street 89 = .ok (.iadd, 1) := by decide +kernel
theorem dX8_street_90 : decode cX8_street 90 = .ok (.putfield 93, 3) := by decide +kernel
theorem dX8_street_93 : decode cX8_street 93 = .ok (.aload_n 0, 1) := by decide +kernel
theorem dX8_street_94 : decode cX8_street 94 = .ok (.getfield 27, 3) := by decide +kernel
theorem dX8_street_97 : decode cX8_street 97 = .ok (.getfield 118, 3) := by decide +kernel
theorem dX8_street_100 : decode cX8_street 100 = .ok (.ireturn, 1) := by decide +kernel
theorem dX8_fault_0 : decode cX8_fault 0 = .ok (.aload_n 0, 1) := by decide +kernel
theorem dX8_fault_1 : decode cX8_fault 1 = .ok (.getfield 90, 3) := by decide +kernel
theorem dX8_fault_4 : decode cX8_fault 4 = .ok (.ireturn, 1) := by decide +kernel
theorem dX8_told_0 : decode cX8_told 0 = .ok (.iload_n 1, 1) := by decide +kernel
theorem dX8_told_1 : decode cX8_told 1 = .ok (.sipush 200, 3) := by decide +kernel
theorem dX8_told_4 : decode cX8_told 4 = .ok (.if_icmp .lt 25, 3) := by decide +kernel
theorem dX8_told_7 : decode cX8_told 7 = .ok (.aload_n 0, 1) := by decide +kernel
theorem dX8_told_8 : decode cX8_told 8 = .ok (.getfield 27, 3) := by decide +kernel
theorem dX8_told_11 : decode cX8_told 11 = .ok (.iload_n 1, 1) := by decide +kernel
theorem dX8_told_12 : decode cX8_told 12 = .ok (.sipush 200, 3) := by decide +kernel
theorem dX8_told_15 : decode cX8_told 15 = .ok (.isub, 1) := by decide +kernel
theorem dX8_told_16 : decode cX8_told 16 = .ok (.iconst 4, 1) := by decide +kernel
theorem dX8_told_17 : decode cX8_told 17 = .ok (.idiv, 1) := by decide +kernel
theorem dX8_told_18 : decode cX8_told 18 = .ok (.iload_n 1, 1) := by decide +kernel
theorem dX8_told_19 : decode cX8_told 19 = .ok (.sipush 200, 3) := by decide +kernel
theorem dX8_told_22 : decode cX8_told 22 = .ok (.isub, 1) := by decide +kernel
theorem dX8_told_23 : decode cX8_told 23 = .ok (.iconst 4, 1) := by decide +kernel
theorem dX8_told_24 : decode cX8_told 24 = .ok (.irem, 1) := by decide +kernel
theorem dX8_told_25 : decode cX8_told 25 = .ok (.invokevirtual 121, 3) := by decide +kernel
theorem dX8_told_28 : decode cX8_told 28 = .ok (.ireturn, 1) := by decide +kernel
theorem dX8_told_29 : decode cX8_told 29 = .ok (.iload_n 1, 1) := by decide +kernel
theorem dX8_told_30 : decode cX8_told 30 = .ok (.bipush 100, 2) := by decide +kernel
theorem dX8_told_32 : decode cX8_told 32 = .ok (.if_icmp .lt 34, 3) := by decide +kernel
theorem dX8_told_35 : decode cX8_told 35 = .ok (.aload_n 0, 1) := by decide +kernel
theorem dX8_told_36 : decode cX8_told 36 = .ok (.getfield 27, 3) := by decide +kernel
theorem dX8_told_39 : decode cX8_told 39 = .ok (.iload_n 1, 1) := by decide +kernel
theorem dX8_told_40 : decode cX8_told 40 = .ok (.bipush 100, 2) := by decide +kernel
theorem dX8_told_42 : decode cX8_told 42 = .ok (.isub, 1) := by decide +kernel
theorem dX8_told_43 : decode cX8_told 43 = .ok (.invokevirtual 125, 3) := by decide +kernel
theorem dX8_told_46 : decode cX8_told 46 = .ok (.ifCond .eq 18, 3) := by decide +kernel
theorem dX8_told_49 : decode cX8_told 49 = .ok (.aload_n 0, 1) := by decide +kernel
theorem dX8_told_50 : decode cX8_told 50 = .ok (.getfield 47, 3) := by decide +kernel
theorem dX8_told_53 : decode cX8_told 53 = .ok (.getfield 129, 3) := by decide +kernel
theorem dX8_told_56 : decode cX8_told 56 = .ok (.iload_n 1, 1) := by decide +kernel
theorem dX8_told_57 : decode cX8_told 57 = .ok (.bipush 100, 2) := by decide +kernel
theorem dX8_told_59 : decode cX8_told 59 = .ok (.isub, 1) := by decide +kernel
theorem dX8_told_60 : decode cX8_told 60 = .ok (.iaload, 1) := by decide +kernel
theorem dX8_told_61 : decode cX8_told 61 = .ok (.goto 4, 3) := by decide +kernel
theorem dX8_told_64 : decode cX8_told 64 = .ok (.iconst (-1), 1) := by decide +kernel
theorem dX8_told_65 : decode cX8_told 65 = .ok (.ireturn, 1) := by decide +kernel
theorem dX8_told_66 : decode cX8_told 66 = .ok (.iload_n 1, 1) := by decide +kernel
theorem dX8_told_67 : decode cX8_told 67 = .ok (.tableswitch 109 0 7 #[45, 53, 61, 69, 77, 85, 93, 101], 45) := by decide +kernel
theorem dX8_told_112 : decode cX8_told 112 = .ok (.aload_n 0, 1) := by decide +kernel
theorem dX8_told_113 : decode cX8_told 113 = .ok (.getfield 27, 3) := by decide +kernel
theorem dX8_told_116 : decode cX8_told 116 = .ok (.getfield 118, 3) := by decide +kernel
theorem dX8_told_119 : decode cX8_told 119 = .ok (.ireturn, 1) := by decide +kernel
theorem dX8_told_120 : decode cX8_told 120 = .ok (.aload_n 0, 1) := by decide +kernel
theorem dX8_told_121 : decode cX8_told 121 = .ok (.getfield 27, 3) := by decide +kernel
theorem dX8_told_124 : decode cX8_told 124 = .ok (.getfield 133, 3) := by decide +kernel
theorem dX8_told_127 : decode cX8_told 127 = .ok (.ireturn, 1) := by decide +kernel
theorem dX8_told_128 : decode cX8_told 128 = .ok (.aload_n 0, 1) := by decide +kernel
theorem dX8_told_129 : decode cX8_told 129 = .ok (.getfield 27, 3) := by decide +kernel
theorem dX8_told_132 : decode cX8_told 132 = .ok (.getfield 136, 3) := by decide +kernel
theorem dX8_told_135 : decode cX8_told 135 = .ok (.ireturn, 1) := by decide +kernel
theorem dX8_told_136 : decode cX8_told 136 = .ok (.aload_n 0, 1) := by decide +kernel
theorem dX8_told_137 : decode cX8_told 137 = .ok (.getfield 27, 3) := by decide +kernel
theorem dX8_told_140 : decode cX8_told 140 = .ok (.getfield 139, 3) := by decide +kernel
theorem dX8_told_143 : decode cX8_told 143 = .ok (.ireturn, 1) := by decide +kernel
theorem dX8_told_144 : decode cX8_told 144 = .ok (.aload_n 0, 1) := by decide +kernel
theorem dX8_told_145 : decode cX8_told 145 = .ok (.getfield 27, 3) := by decide +kernel
theorem dX8_told_148 : decode cX8_told 148 = .ok (.getfield 142, 3) := by decide +kernel
theorem dX8_told_151 : decode cX8_told 151 = .ok (.ireturn, 1) := by decide +kernel
theorem dX8_told_152 : decode cX8_told 152 = .ok (.aload_n 0, 1) := by decide +kernel
theorem dX8_told_153 : decode cX8_told 153 = .ok (.getfield 27, 3) := by decide +kernel
theorem dX8_told_156 : decode cX8_told 156 = .ok (.getfield 145, 3) := by decide +kernel
theorem dX8_told_159 : decode cX8_told 159 = .ok (.ireturn, 1) := by decide +kernel
theorem dX8_told_160 : decode cX8_told 160 = .ok (.aload_n 0, 1) := by decide +kernel
theorem dX8_told_161 : decode cX8_told 161 = .ok (.getfield 27, 3) := by decide +kernel
theorem dX8_told_164 : decode cX8_told 164 = .ok (.getfield 148, 3) := by decide +kernel
theorem dX8_told_167 : decode cX8_told 167 = .ok (.ireturn, 1) := by decide +kernel
theorem dX8_told_168 : decode cX8_told 168 = .ok (.aload_n 0, 1) := by decide +kernel
theorem dX8_told_169 : decode cX8_told 169 = .ok (.getfield 27, 3) := by decide +kernel
theorem dX8_told_172 : decode cX8_told 172 = .ok (.getfield 151, 3) := by decide +kernel
theorem dX8_told_175 : decode cX8_told 175 = .ok (.ireturn, 1) := by decide +kernel
theorem dX8_told_176 : decode cX8_told 176 = .ok (.iconst (-1), 1) := by decide +kernel
theorem dX8_told_177 : decode cX8_told 177 = .ok (.ireturn, 1) := by decide +kernel
theorem dX8_cost_0 : decode cX8_cost 0 = .ok (.aload_n 0, 1) := by decide +kernel
theorem dX8_cost_1 : decode cX8_cost 1 = .ok (.getfield 27, 3) := by decide +kernel
theorem dX8_cost_4 : decode cX8_cost 4 = .ok (.iload_n 1, 1) := by decide +kernel
theorem dX8_cost_5 : decode cX8_cost 5 = .ok (.invokevirtual 125, 3) := by decide +kernel
theorem dX8_cost_8 : decode cX8_cost 8 = .ok (.ifCond .eq 13, 3) := by decide +kernel
theorem dX8_cost_11 : decode cX8_cost 11 = .ok (.iload_n 2, 1) := by decide +kernel
theorem dX8_cost_12 : decode cX8_cost 12 = .ok (.ifCond .lt 9, 3) := by decide +kernel
theorem dX8_cost_15 : decode cX8_cost 15 = .ok (.iload_n 2, 1) := by decide +kernel
theorem dX8_cost_16 : decode cX8_cost 16 = .ok (.bipush 99, 2) := by decide +kernel
theorem dX8_cost_18 : decode cX8_cost 18 = .ok (.if_icmp .le 5, 3) := by decide +kernel
theorem dX8_cost_21 : decode cX8_cost 21 = .ok (.iconst 0, 1) := by decide +kernel
theorem dX8_cost_22 : decode cX8_cost 22 = .ok (.ireturn, 1) := by decide +kernel
theorem dX8_cost_23 : decode cX8_cost 23 = .ok (.aload_n 0, 1) := by decide +kernel
theorem dX8_cost_24 : decode cX8_cost 24 = .ok (.getfield 47, 3) := by decide +kernel
theorem dX8_cost_27 : decode cX8_cost 27 = .ok (.getfield 129, 3) := by decide +kernel
theorem dX8_cost_30 : decode cX8_cost 30 = .ok (.iload_n 1, 1) := by decide +kernel
theorem dX8_cost_31 : decode cX8_cost 31 = .ok (.iload_n 2, 1) := by decide +kernel
theorem dX8_cost_32 : decode cX8_cost 32 = .ok (.iastore, 1) := by decide +kernel
theorem dX8_cost_33 : decode cX8_cost 33 = .ok (.aload_n 0, 1) := by decide +kernel
theorem dX8_cost_34 : decode cX8_cost 34 = .ok (.getfield 64, 3) := by decide +kernel
theorem dX8_cost_37 : decode cX8_cost 37 = .ok (.invokevirtual 117, 3) := by decide +kernel
theorem dX8_cost_40 : decode cX8_cost 40 = .ok (.iconst 1, 1) := by decide +kernel
theorem dX8_cost_41 : decode cX8_cost 41 = .ok (.ireturn, 1) := by decide +kernel
theorem dX8_promise_0 : decode cX8_promise 0 = .ok (.aload_n 0, 1) := by decide +kernel
theorem dX8_promise_1 : decode cX8_promise 1 = .ok (.getfield 27, 3) := by decide +kernel
theorem dX8_promise_4 : decode cX8_promise 4 = .ok (.iload_n 1, 1) := by decide +kernel
theorem dX8_promise_5 : decode cX8_promise 5 = .ok (.invokevirtual 125, 3) := by decide +kernel
theorem dX8_promise_8 : decode cX8_promise 8 = .ok (.ifCond .ne 5, 3) := by decide +kernel
theorem dX8_promise_11 : decode cX8_promise 11 = .ok (.iconst 0, 1) := by decide +kernel
theorem dX8_promise_12 : decode cX8_promise 12 = .ok (.ireturn, 1) := by decide +kernel
theorem dX8_promise_13 : decode cX8_promise 13 = .ok (.iload_n 2, 1) := by decide +kernel
theorem dX8_promise_14 : decode cX8_promise 14 = .ok (.ifCond .eq 21, 3) := by decide +kernel
theorem dX8_promise_17 : decode cX8_promise 17 = .ok (.aload_n 0, 1) := by decide +kernel
theorem dX8_promise_18 : decode cX8_promise 18 = .ok (.getfield 47, 3) := by decide +kernel
theorem dX8_promise_21 : decode cX8_promise 21 = .ok (.dup, 1) := by decide +kernel
theorem dX8_promise_22 : decode cX8_promise 22 = .ok (.getfield 154, 3) := by decide +kernel
theorem dX8_promise_25 : decode cX8_promise 25 = .ok (.iconst 1, 1) := by decide +kernel
theorem dX8_promise_26 : decode cX8_promise 26 = .ok (.iload_n 1, 1) := by decide +kernel
theorem dX8_promise_27 : decode cX8_promise 27 = .ok (.ishl, 1) := by decide +kernel
theorem dX8_promise_28 : decode cX8_promise 28 = .ok (.ior, 1) := by decide +kernel
theorem dX8_promise_29 : decode cX8_promise 29 = .ok (.putfield 154, 3) := by decide +kernel
theorem dX8_promise_32 : decode cX8_promise 32 = .ok (.goto 20, 3) := by decide +kernel
theorem dX8_promise_35 : decode cX8_promise 35 = .ok (.aload_n 0, 1) := by decide +kernel
theorem dX8_promise_36 : decode cX8_promise 36 = .ok (.getfield 47, 3) := by decide +kernel
theorem dX8_promise_39 : decode cX8_promise 39 = .ok (.dup, 1) := by decide +kernel
theorem dX8_promise_40 : decode cX8_promise 40 = .ok (.getfield 154, 3) := by decide +kernel
theorem dX8_promise_43 : decode cX8_promise 43 = .ok (.iconst 1, 1) := by decide +kernel
theorem dX8_promise_44 : decode cX8_promise 44 = .ok (.iload_n 1, 1) := by decide +kernel
theorem dX8_promise_45 : decode cX8_promise 45 = .ok (.ishl, 1) := by decide +kernel
theorem dX8_promise_46 : decode cX8_promise 46 = .ok (.iconst (-1), 1) := by decide +kernel
theorem dX8_promise_47 : decode cX8_promise 47 = .ok (.ixor, 1) := by decide +kernel
theorem dX8_promise_48 : decode cX8_promise 48 = .ok (.iand, 1) := by decide +kernel
theorem dX8_promise_49 : decode cX8_promise 49 = .ok (.putfield 154, 3) := by decide +kernel
theorem dX8_promise_52 : decode cX8_promise 52 = .ok (.aload_n 0, 1) := by decide +kernel
theorem dX8_promise_53 : decode cX8_promise 53 = .ok (.getfield 64, 3) := by decide +kernel
theorem dX8_promise_56 : decode cX8_promise 56 = .ok (.invokevirtual 117, 3) := by decide +kernel
theorem dX8_promise_59 : decode cX8_promise 59 = .ok (.iconst 1, 1) := by decide +kernel
theorem dX8_promise_60 : decode cX8_promise 60 = .ok (.ireturn, 1) := by decide +kernel
theorem dX8_sure_0 : decode cX8_sure 0 = .ok (.aload_n 0, 1) := by decide +kernel
theorem dX8_sure_1 : decode cX8_sure 1 = .ok (.getfield 27, 3) := by decide +kernel
theorem dX8_sure_4 : decode cX8_sure 4 = .ok (.iload_n 1, 1) := by decide +kernel
theorem dX8_sure_5 : decode cX8_sure 5 = .ok (.invokevirtual 125, 3) := by decide +kernel
theorem dX8_sure_8 : decode cX8_sure 8 = .ok (.ifCond .eq 14, 3) := by decide +kernel
theorem dX8_sure_11 : decode cX8_sure 11 = .ok (.aload_n 0, 1) := by decide +kernel
theorem dX8_sure_12 : decode cX8_sure 12 = .ok (.getfield 27, 3) := by decide +kernel
theorem dX8_sure_15 : decode cX8_sure 15 = .ok (.iload_n 2, 1) := by decide +kernel
theorem dX8_sure_16 : decode cX8_sure 16 = .ok (.invokevirtual 157, 3) := by decide +kernel
theorem dX8_sure_19 : decode cX8_sure 19 = .ok (.ifCond .ne 5, 3) := by decide +kernel
theorem dX8_sure_22 : decode cX8_sure 22 = .ok (.iconst 0, 1) := by decide +kernel
theorem dX8_sure_23 : decode cX8_sure 23 = .ok (.ireturn, 1) := by decide +kernel
theorem dX8_sure_24 : decode cX8_sure 24 = .ok (.aload_n 0, 1) := by decide +kernel
theorem dX8_sure_25 : decode cX8_sure 25 = .ok (.getfield 47, 3) := by decide +kernel
theorem dX8_sure_28 : decode cX8_sure 28 = .ok (.iload_n 1, 1) := by decide +kernel
theorem dX8_sure_29 : decode cX8_sure 29 = .ok (.iconst 1, 1) := by decide +kernel
theorem dX8_sure_30 : decode cX8_sure 30 = .ok (.invokevirtual 160, 3) := by decide +kernel
theorem dX8_sure_33 : decode cX8_sure 33 = .ok (.aload_n 0, 1) := by decide +kernel
theorem dX8_sure_34 : decode cX8_sure 34 = .ok (.getfield 47, 3) := by decide +kernel
theorem dX8_sure_37 : decode cX8_sure 37 = .ok (.getfield 164, 3) := by decide +kernel
theorem dX8_sure_40 : decode cX8_sure 40 = .ok (.iload_n 1, 1) := by decide +kernel
theorem dX8_sure_41 : decode cX8_sure 41 = .ok (.bipush 8, 2) := by decide +kernel
theorem dX8_sure_43 : decode cX8_sure 43 = .ok (.imul, 1) := by decide +kernel
theorem dX8_sure_44 : decode cX8_sure 44 = .ok (.iload_n 2, 1) := by decide +kernel
theorem dX8_sure_45 : decode cX8_sure 45 = .ok (.iadd, 1) := by decide +kernel
theorem dX8_sure_46 : decode cX8_sure 46 = .ok (.bipush 100, 2) := by decide +kernel
theorem dX8_sure_48 : decode cX8_sure 48 = .ok (.iastore, 1) := by decide +kernel
theorem dX8_sure_49 : decode cX8_sure 49 = .ok (.iconst 1, 1) := by decide +kernel
theorem dX8_sure_50 : decode cX8_sure 50 = .ok (.ireturn, 1) := by decide +kernel
theorem dX8_lot_0 : decode cX8_lot 0 = .ok (.aload_n 0, 1) := by decide +kernel
theorem dX8_lot_1 : decode cX8_lot 1 = .ok (.getfield 27, 3) := by decide +kernel
theorem dX8_lot_4 : decode cX8_lot 4 = .ok (.iload_n 1, 1) := by decide +kernel
theorem dX8_lot_5 : decode cX8_lot 5 = .ok (.invokevirtual 125, 3) := by decide +kernel
theorem dX8_lot_8 : decode cX8_lot 8 = .ok (.ifCond .eq 20, 3) := by decide +kernel
theorem dX8_lot_11 : decode cX8_lot 11 = .ok (.iload_n 2, 1) := by decide +kernel
theorem dX8_lot_12 : decode cX8_lot 12 = .ok (.invokestatic 167, 3) := by decide +kernel
theorem dX8_lot_15 : decode cX8_lot 15 = .ok (.ifCond .eq 13, 3) := by decide +kernel
theorem dX8_lot_18 : decode cX8_lot 18 = .ok (.iload_n 3, 1) := by decide +kernel
theorem dX8_lot_19 : decode cX8_lot 19 = .ok (.ifCond .lt 9, 3) := by decide +kernel
theorem dX8_lot_22 : decode cX8_lot 22 = .ok (.iload_n 3, 1) := by decide +kernel
theorem dX8_lot_23 : decode cX8_lot 23 = .ok (.bipush 100, 2) := by decide +kernel
theorem dX8_lot_25 : decode cX8_lot 25 = .ok (.if_icmp .le 5, 3) := by decide +kernel
theorem dX8_lot_28 : decode cX8_lot 28 = .ok (.iconst 0, 1) := by decide +kernel
theorem dX8_lot_29 : decode cX8_lot 29 = .ok (.ireturn, 1) := by decide +kernel
theorem dX8_lot_30 : decode cX8_lot 30 = .ok (.aload_n 0, 1) := by decide +kernel
theorem dX8_lot_31 : decode cX8_lot 31 = .ok (.getfield 47, 3) := by decide +kernel
theorem dX8_lot_34 : decode cX8_lot 34 = .ok (.getfield 170, 3) := by decide +kernel
theorem dX8_lot_37 : decode cX8_lot 37 = .ok (.iload_n 1, 1) := by decide +kernel
theorem dX8_lot_38 : decode cX8_lot 38 = .ok (.iaload, 1) := by decide +kernel
theorem dX8_lot_39 : decode cX8_lot 39 = .ok (.iconst 2, 1) := by decide +kernel
theorem dX8_lot_40 : decode cX8_lot 40 = .ok (.if_icmp .eq 12, 3) := by decide +kernel
theorem dX8_lot_43 : decode cX8_lot 43 = .ok (.aload_n 0, 1) := by decide +kernel
theorem dX8_lot_44 : decode cX8_lot 44 = .ok (.getfield 47, 3) := by decide +kernel
theorem dX8_lot_47 : decode cX8_lot 47 = .ok (.iload_n 1, 1) := by decide +kernel
theorem dX8_lot_48 : decode cX8_lot 48 = .ok (.iconst 2, 1) := by decide +kernel
theorem dX8_lot_49 : decode cX8_lot 49 = .ok (.invokevirtual 160, 3) := by decide +kernel
theorem dX8_lot_52 : decode cX8_lot 52 = .ok (.aload_n 0, 1) := by decide +kernel
theorem dX8_lot_53 : decode cX8_lot 53 = .ok (.getfield 47, 3) := by decide +kernel
theorem dX8_lot_56 : decode cX8_lot 56 = .ok (.getfield 164, 3) := by decide +kernel
theorem dX8_lot_59 : decode cX8_lot 59 = .ok (.iload_n 1, 1) := by decide +kernel
theorem dX8_lot_60 : decode cX8_lot 60 = .ok (.bipush 8, 2) := by decide +kernel
theorem dX8_lot_62 : decode cX8_lot 62 = .ok (.imul, 1) := by decide +kernel
theorem dX8_lot_63 : decode cX8_lot 63 = .ok (.iload_n 2, 1) := by decide +kernel
theorem dX8_lot_64 : decode cX8_lot 64 = .ok (.iadd, 1) := by decide +kernel
theorem dX8_lot_65 : decode cX8_lot 65 = .ok (.iload_n 3, 1) := by decide +kernel
theorem dX8_lot_66 : decode cX8_lot 66 = .ok (.iastore, 1) := by decide +kernel
theorem dX8_lot_67 : decode cX8_lot 67 = .ok (.iconst 1, 1) := by decide +kernel
theorem dX8_lot_68 : decode cX8_lot 68 = .ok (.ireturn, 1) := by decide +kernel
theorem dX8_answer_0 : decode cX8_answer 0 = .ok (.aload_n 0, 1) := by decide +kernel
theorem dX8_answer_1 : decode cX8_answer 1 = .ok (.getfield 27, 3) := by decide +kernel
theorem dX8_answer_4 : decode cX8_answer 4 = .ok (.iload_n 1, 1) := by decide +kernel
theorem dX8_answer_5 : decode cX8_answer 5 = .ok (.invokevirtual 125, 3) := by decide +kernel
theorem dX8_answer_8 : decode cX8_answer 8 = .ok (.ifCond .ne 5, 3) := by decide +kernel
theorem dX8_answer_11 : decode cX8_answer 11 = .ok (.iconst 0, 1) := by decide +kernel
theorem dX8_answer_12 : decode cX8_answer 12 = .ok (.ireturn, 1) := by decide +kernel
theorem dX8_answer_13 : decode cX8_answer 13 = .ok (.aload_n 0, 1) := by decide +kernel
theorem dX8_answer_14 : decode cX8_answer 14 = .ok (.getfield 47, 3) := by decide +kernel
theorem dX8_answer_17 : decode cX8_answer 17 = .ok (.iload_n 1, 1) := by decide +kernel
theorem dX8_answer_18 : decode cX8_answer 18 = .ok (.iconst 3, 1) := by decide +kernel
theorem dX8_answer_19 : decode cX8_answer 19 = .ok (.invokevirtual 160, 3) := by decide +kernel
theorem dX8_answer_22 : decode cX8_answer 22 = .ok (.iconst 1, 1) := by decide +kernel
theorem dX8_answer_23 : decode cX8_answer 23 = .ok (.ireturn, 1) := by decide +kernel
theorem dX8_ask_0 : decode cX8_ask 0 = .ok (.aload_n 0, 1) := by decide +kernel
theorem dX8_ask_1 : decode cX8_ask 1 = .ok (.getfield 27, 3) := by decide +kernel
theorem dX8_ask_4 : decode cX8_ask 4 = .ok (.iload_n 1, 1) := by decide +kernel
theorem dX8_ask_5 : decode cX8_ask 5 = .ok (.invokevirtual 125, 3) := by decide +kernel
theorem dX8_ask_8 : decode cX8_ask 8 = .ok (.ifCond .eq 15, 3) := by decide +kernel
theorem dX8_ask_11 : decode cX8_ask 11 = .ok (.aload_n 0, 1) := by decide +kernel
theorem dX8_ask_12 : decode cX8_ask 12 = .ok (.getfield 47, 3) := by decide +kernel
theorem dX8_ask_15 : decode cX8_ask 15 = .ok (.getfield 170, 3) := by decide +kernel
theorem dX8_ask_18 : decode cX8_ask 18 = .ok (.iload_n 1, 1) := by decide +kernel
theorem dX8_ask_19 : decode cX8_ask 19 = .ok (.iaload, 1) := by decide +kernel
theorem dX8_ask_20 : decode cX8_ask 20 = .ok (.goto 4, 3) := by decide +kernel
theorem dX8_ask_23 : decode cX8_ask 23 = .ok (.iconst (-1), 1) := by decide +kernel
theorem dX8_ask_24 : decode cX8_ask 24 = .ok (.ireturn, 1) := by decide +kernel
theorem dX8_part_0 : decode cX8_part 0 = .ok (.aload_n 0, 1) := by decide +kernel
theorem dX8_part_1 : decode cX8_part 1 = .ok (.getfield 27, 3) := by decide +kernel
theorem dX8_part_4 : decode cX8_part 4 = .ok (.iload_n 1, 1) := by decide +kernel
theorem dX8_part_5 : decode cX8_part 5 = .ok (.invokevirtual 125, 3) := by decide +kernel
theorem dX8_part_8 : decode cX8_part 8 = .ok (.ifCond .eq 20, 3) := by decide +kernel
theorem dX8_part_11 : decode cX8_part 11 = .ok (.iload_n 2, 1) := by decide +kernel
theorem dX8_part_12 : decode cX8_part 12 = .ok (.invokestatic 167, 3) := by decide +kernel
theorem dX8_part_15 : decode cX8_part 15 = .ok (.ifCond .eq 13, 3) := by decide +kernel
theorem dX8_part_18 : decode cX8_part 18 = .ok (.aload_n 0, 1) := by decide +kernel
theorem dX8_part_19 : decode cX8_part 19 = .ok (.getfield 55, 3) := by decide +kernel
theorem dX8_part_22 : decode cX8_part 22 = .ok (.invokevirtual 173, 3) := by decide +kernel
theorem dX8_part_25 : decode cX8_part 25 = .ok (.ifCond .ne 5, 3) := by decide +kernel
theorem dX8_part_28 : decode cX8_part 28 = .ok (.iconst (-1), 1) := by decide +kernel
theorem dX8_part_29 : decode cX8_part 29 = .ok (.ireturn, 1) := by decide +kernel
theorem dX8_part_30 : decode cX8_part 30 = .ok (.aload_n 0, 1) := by decide +kernel
theorem dX8_part_31 : decode cX8_part 31 = .ok (.getfield 55, 3) := by decide +kernel
theorem dX8_part_34 : decode cX8_part 34 = .ok (.getfield 177, 3) := by decide +kernel
theorem dX8_part_37 : decode cX8_part 37 = .ok (.iload_n 1, 1) := by decide +kernel
theorem dX8_part_38 : decode cX8_part 38 = .ok (.bipush 8, 2) := by decide +kernel
theorem dX8_part_40 : decode cX8_part 40 = .ok (.imul, 1) := by decide +kernel
theorem dX8_part_41 : decode cX8_part 41 = .ok (.iload_n 2, 1) := by decide +kernel
theorem dX8_part_42 : decode cX8_part 42 = .ok (.iadd, 1) := by decide +kernel
theorem dX8_part_43 : decode cX8_part 43 = .ok (.iaload, 1) := by decide +kernel
theorem dX8_part_44 : decode cX8_part 44 = .ok (.ireturn, 1) := by decide +kernel
theorem dX8_isAnyStep_0 : decode cX8_isAnyStep 0 = .ok (.iload_n 0, 1) := by decide +kernel
theorem dX8_isAnyStep_1 : decode cX8_isAnyStep 1 = .ok (.ifCond .lt 13, 3) := by decide +kernel
theorem dX8_isAnyStep_4 : decode cX8_isAnyStep 4 = .ok (.iload_n 0, 1) := by decide +kernel
theorem dX8_isAnyStep_5 : decode cX8_isAnyStep 5 = .ok (.bipush 8, 2) := by decide +kernel
theorem dX8_isAnyStep_7 : decode cX8_isAnyStep 7 = .ok (.if_icmp .ge 7, 3) := by decide +kernel
theorem dX8_isAnyStep_10 : decode cX8_isAnyStep 10 = .ok (.iconst 1, 1) := by decide +kernel
theorem dX8_isAnyStep_11 : decode cX8_isAnyStep 11 = .ok (.goto 4, 3) := by decide +kernel
theorem dX8_isAnyStep_14 : decode cX8_isAnyStep 14 = .ok (.iconst 0, 1) := by decide +kernel
theorem dX8_isAnyStep_15 : decode cX8_isAnyStep 15 = .ok (.ireturn, 1) := by decide +kernel
theorem dX8_sold_0 : decode cX8_sold 0 = .ok (.aload_n 0, 1) := by decide +kernel
theorem dX8_sold_1 : decode cX8_sold 1 = .ok (.getfield 27, 3) := by decide +kernel
theorem dX8_sold_4 : decode cX8_sold 4 = .ok (.iload_n 1, 1) := by decide +kernel
theorem dX8_sold_5 : decode cX8_sold 5 = .ok (.invokevirtual 125, 3) := by decide +kernel
theorem dX8_sold_8 : decode cX8_sold 8 = .ok (.ifCond .eq 13, 3) := by decide +kernel
theorem dX8_sold_11 : decode cX8_sold 11 = .ok (.aload_n 0, 1) := by decide +kernel
theorem dX8_sold_12 : decode cX8_sold 12 = .ok (.getfield 55, 3) := by decide +kernel
theorem dX8_sold_15 : decode cX8_sold 15 = .ok (.invokevirtual 173, 3) := by decide +kernel
theorem dX8_sold_18 : decode cX8_sold 18 = .ok (.ifCond .ne 7, 3) := by decide +kernel
theorem dX8_sold_21 : decode cX8_sold 21 = .ok (.ldc2_w 178, 3) := by decide +kernel
theorem dX8_sold_24 : decode cX8_sold 24 = .ok (.lreturn, 1) := by decide +kernel
theorem dX8_sold_25 : decode cX8_sold 25 = .ok (.aload_n 0, 1) := by decide +kernel
theorem dX8_sold_26 : decode cX8_sold 26 = .ok (.getfield 55, 3) := by decide +kernel
theorem dX8_sold_29 : decode cX8_sold 29 = .ok (.iload_n 1, 1) := by decide +kernel
theorem dX8_sold_30 : decode cX8_sold 30 = .ok (.invokevirtual 180, 3) := by decide +kernel
theorem dX8_sold_33 : decode cX8_sold 33 = .ok (.aload_n 0, 1) := by decide +kernel
theorem dX8_sold_34 : decode cX8_sold 34 = .ok (.getfield 55, 3) := by decide +kernel
theorem dX8_sold_37 : decode cX8_sold 37 = .ok (.iload_n 1, 1) := by decide +kernel
theorem dX8_sold_38 : decode cX8_sold 38 = .ok (.invokevirtual 183, 3) := by decide +kernel
theorem dX8_sold_41 : decode cX8_sold 41 = .ok (.lreturn, 1) := by decide +kernel
theorem dX8_earns_0 : decode cX8_earns 0 = .ok (.aload_n 0, 1) := by decide +kernel
theorem dX8_earns_1 : decode cX8_earns 1 = .ok (.getfield 27, 3) := by decide +kernel
theorem dX8_earns_4 : decode cX8_earns 4 = .ok (.iload_n 1, 1) := by decide +kernel
theorem dX8_earns_5 : decode cX8_earns 5 = .ok (.invokevirtual 125, 3) := by decide +kernel
theorem dX8_earns_8 : decode cX8_earns 8 = .ok (.ifCond .eq 13, 3) := by decide +kernel
theorem dX8_earns_11 : decode cX8_earns 11 = .ok (.aload_n 0, 1) := by decide +kernel
theorem dX8_earns_12 : decode cX8_earns 12 = .ok (.getfield 55, 3) := by decide +kernel
theorem dX8_earns_15 : decode cX8_earns 15 = .ok (.invokevirtual 173, 3) := by decide +kernel
theorem dX8_earns_18 : decode cX8_earns 18 = .ok (.ifCond .ne 7, 3) := by decide +kernel
theorem dX8_earns_21 : decode cX8_earns 21 = .ok (.ldc2_w 187, 3) := by decide +kernel
theorem dX8_earns_24 : decode cX8_earns 24 = .ok (.lreturn, 1) := by decide +kernel
theorem dX8_earns_25 : decode cX8_earns 25 = .ok (.aload_n 0, 1) := by decide +kernel
theorem dX8_earns_26 : decode cX8_earns 26 = .ok (.getfield 55, 3) := by decide +kernel
theorem dX8_earns_29 : decode cX8_earns 29 = .ok (.iload_n 1, 1) := by decide +kernel
theorem dX8_earns_30 : decode cX8_earns 30 = .ok (.invokevirtual 180, 3) := by decide +kernel
theorem dX8_earns_33 : decode cX8_earns 33 = .ok (.aload_n 0, 1) := by decide +kernel
theorem dX8_earns_34 : decode cX8_earns 34 = .ok (.getfield 55, 3) := by decide +kernel
theorem dX8_earns_37 : decode cX8_earns 37 = .ok (.iload_n 1, 1) := by decide +kernel
theorem dX8_earns_38 : decode cX8_earns 38 = .ok (.invokevirtual 189, 3) := by decide +kernel
theorem dX8_earns_41 : decode cX8_earns 41 = .ok (.lreturn, 1) := by decide +kernel
theorem dX8_at_0 : decode cX8_at 0 = .ok (.aload_n 0, 1) := by decide +kernel
theorem dX8_at_1 : decode cX8_at 1 = .ok (.getfield 27, 3) := by decide +kernel
theorem dX8_at_4 : decode cX8_at 4 = .ok (.iload_n 1, 1) := by decide +kernel
theorem dX8_at_5 : decode cX8_at 5 = .ok (.invokevirtual 125, 3) := by decide +kernel
theorem dX8_at_8 : decode cX8_at 8 = .ok (.ifCond .eq 24, 3) := by decide +kernel
theorem dX8_at_11 : decode cX8_at 11 = .ok (.aload_n 0, 1) := by decide +kernel
theorem dX8_at_12 : decode cX8_at 12 = .ok (.getfield 27, 3) := by decide +kernel
theorem dX8_at_15 : decode cX8_at 15 = .ok (.iload_n 2, 1) := by decide +kernel
theorem dX8_at_16 : decode cX8_at 16 = .ok (.invokevirtual 157, 3) := by decide +kernel
theorem dX8_at_19 : decode cX8_at 19 = .ok (.ifCond .eq 13, 3) := by decide +kernel
theorem dX8_at_22 : decode cX8_at 22 = .ok (.aload_n 0, 1) := by decide +kernel
theorem dX8_at_23 : decode cX8_at 23 = .ok (.getfield 55, 3) := by decide +kernel
theorem dX8_at_26 : decode cX8_at 26 = .ok (.invokevirtual 173, 3) := by decide +kernel
theorem dX8_at_29 : decode cX8_at 29 = .ok (.ifCond .ne 7, 3) := by decide +kernel
theorem dX8_at_32 : decode cX8_at 32 = .ok (.ldc2_w 187, 3) := by decide +kernel
theorem dX8_at_35 : decode cX8_at 35 = .ok (.lreturn, 1) := by decide +kernel
theorem dX8_at_36 : decode cX8_at 36 = .ok (.aload_n 0, 1) := by decide +kernel
theorem dX8_at_37 : decode cX8_at 37 = .ok (.getfield 55, 3) := by decide +kernel
theorem dX8_at_40 : decode cX8_at 40 = .ok (.iload_n 1, 1) := by decide +kernel
theorem dX8_at_41 : decode cX8_at 41 = .ok (.invokevirtual 180, 3) := by decide +kernel
theorem dX8_at_44 : decode cX8_at 44 = .ok (.aload_n 0, 1) := by decide +kernel
theorem dX8_at_45 : decode cX8_at 45 = .ok (.getfield 55, 3) := by decide +kernel
theorem dX8_at_48 : decode cX8_at 48 = .ok (.iload_n 1, 1) := by decide +kernel
theorem dX8_at_49 : decode cX8_at 49 = .ok (.iload_n 2, 1) := by decide +kernel
theorem dX8_at_50 : decode cX8_at 50 = .ok (.invokevirtual 192, 3) := by decide +kernel
theorem dX8_at_53 : decode cX8_at 53 = .ok (.lreturn, 1) := by decide +kernel
theorem dX8_best_0 : decode cX8_best 0 = .ok (.aload_n 0, 1) := by decide +kernel
theorem dX8_best_1 : decode cX8_best 1 = .ok (.getfield 27, 3) := by decide +kernel
theorem dX8_best_4 : decode cX8_best 4 = .ok (.iload_n 1, 1) := by decide +kernel
theorem dX8_best_5 : decode cX8_best 5 = .ok (.invokevirtual 125, 3) := by decide +kernel
theorem dX8_best_8 : decode cX8_best 8 = .ok (.ifCond .eq 13, 3) := by decide +kernel
theorem dX8_best_11 : decode cX8_best 11 = .ok (.aload_n 0, 1) := by decide +kernel
theorem dX8_best_12 : decode cX8_best 12 = .ok (.getfield 55, 3) := by decide +kernel
theorem dX8_best_15 : decode cX8_best 15 = .ok (.invokevirtual 173, 3) := by decide +kernel
theorem dX8_best_18 : decode cX8_best 18 = .ok (.ifCond .ne 5, 3) := by decide +kernel
theorem dX8_best_21 : decode cX8_best 21 = .ok (.iconst (-1), 1) := by decide +kernel
theorem dX8_best_22 : decode cX8_best 22 = .ok (.ireturn, 1) := by decide +kernel
theorem dX8_best_23 : decode cX8_best 23 = .ok (.aload_n 0, 1) := by decide +kernel
theorem dX8_best_24 : decode cX8_best 24 = .ok (.getfield 55, 3) := by decide +kernel
theorem dX8_best_27 : decode cX8_best 27 = .ok (.iload_n 1, 1) := by decide +kernel
theorem dX8_best_28 : decode cX8_best 28 = .ok (.invokevirtual 180, 3) := by decide +kernel
theorem dX8_best_31 : decode cX8_best 31 = .ok (.aload_n 0, 1) := by decide +kernel
theorem dX8_best_32 : decode cX8_best 32 = .ok (.getfield 55, 3) := by decide +kernel
theorem dX8_best_35 : decode cX8_best 35 = .ok (.iload_n 1, 1) := by decide +kernel
theorem dX8_best_36 : decode cX8_best 36 = .ok (.invokevirtual 196, 3) := by decide +kernel
theorem dX8_best_39 : decode cX8_best 39 = .ok (.ireturn, 1) := by decide +kernel
theorem dX8_judge_0 : decode cX8_judge 0 = .ok (.aload_n 0, 1) := by decide +kernel
theorem dX8_judge_1 : decode cX8_judge 1 = .ok (.getfield 55, 3) := by decide +kernel
theorem dX8_judge_4 : decode cX8_judge 4 = .ok (.invokevirtual 173, 3) := by decide +kernel
theorem dX8_judge_7 : decode cX8_judge 7 = .ok (.ifCond .ne 6, 3) := by decide +kernel
theorem dX8_judge_10 : decode cX8_judge 10 = .ok (.bipush (-2), 2) := by decide +kernel
theorem dX8_judge_12 : decode cX8_judge 12 = .ok (.ireturn, 1) := by decide +kernel
theorem dX8_judge_13 : decode cX8_judge 13 = .ok (.iconst 0, 1) := by decide +kernel
theorem dX8_judge_14 : decode cX8_judge 14 = .ok (.istore_n 1, 1) := by decide +kernel
theorem dX8_judge_15 : decode cX8_judge 15 = .ok (.iload_n 1, 1) := by decide +kernel
theorem dX8_judge_16 : decode cX8_judge 16 = .ok (.aload_n 0, 1) := by decide +kernel
theorem dX8_judge_17 : decode cX8_judge 17 = .ok (.getfield 27, 3) := by decide +kernel
theorem dX8_judge_20 : decode cX8_judge 20 = .ok (.getfield 118, 3) := by decide +kernel
theorem dX8_judge_23 : decode cX8_judge 23 = .ok (.if_icmp .ge 30, 3) := by decide +kernel
theorem dX8_judge_26 : decode cX8_judge 26 = .ok (.aload_n 0, 1) := by decide +kernel
theorem dX8_judge_27 : decode cX8_judge 27 = .ok (.getfield 55, 3) := by decide +kernel
theorem dX8_judge_30 : decode cX8_judge 30 = .ok (.iload_n 1, 1) := by decide +kernel
theorem dX8_judge_31 : decode cX8_judge 31 = .ok (.invokevirtual 199, 3) := by decide +kernel
theorem dX8_judge_34 : decode cX8_judge 34 = .ok (.istore_n 2, 1) := by decide +kernel
theorem dX8_judge_35 : decode cX8_judge 35 = .ok (.iload_n 2, 1) := by decide +kernel
theorem dX8_judge_36 : decode cX8_judge 36 = .ok (.iconst (-1), 1) := by decide +kernel
theorem dX8_judge_37 : decode cX8_judge 37 = .ok (.if_icmp .eq 10, 3) := by decide +kernel
theorem dX8_judge_40 : decode cX8_judge 40 = .ok (.bipush 10, 2) := by decide +kernel
theorem dX8_judge_42 : decode cX8_judge 42 = .ok (.iload_n 1, 1) := by decide +kernel
theorem dX8_judge_43 : decode cX8_judge 43 = .ok (.imul, 1) := by decide +kernel
theorem dX8_judge_44 : decode cX8_judge 44 = .ok (.iload_n 2, 1) := by decide +kernel
theorem dX8_judge_45 : decode cX8_judge 45 = .ok (.iadd, 1) := by decide +kernel
theorem dX8_judge_46 : decode cX8_judge 46 = .ok (.ireturn, 1) := by decide +kernel
theorem dX8_judge_47 : decode cX8_judge 47 = .ok (.iinc 1 1, 3) := by decide +kernel
theorem dX8_judge_50 : decode cX8_judge 50 = .ok (.goto (-35), 3) := by decide +kernel
theorem dX8_judge_53 : decode cX8_judge 53 = .ok (.iconst (-1), 1) := by decide +kernel
theorem dX8_judge_54 : decode cX8_judge 54 = .ok (.ireturn, 1) := by decide +kernel
theorem dX8_rests_0 : decode cX8_rests 0 = .ok (.aload_n 0, 1) := by decide +kernel
theorem dX8_rests_1 : decode cX8_rests 1 = .ok (.getfield 27, 3) := by decide +kernel
theorem dX8_rests_4 : decode cX8_rests 4 = .ok (.getfield 118, 3) := by decide +kernel
theorem dX8_rests_7 : decode cX8_rests 7 = .ok (.ifCond .eq 8, 3) := by decide +kernel
theorem dX8_rests_10 : decode cX8_rests 10 = .ok (.iload_n 1, 1) := by decide +kernel
theorem dX8_rests_11 : decode cX8_rests 11 = .ok (.iconst (-1), 1) := by decide +kernel
theorem dX8_rests_12 : decode cX8_rests 12 = .ok (.if_icmp .ge 5, 3) := by decide +kernel
theorem dX8_rests_15 : decode cX8_rests 15 = .ok (.iconst (-1), 1) := by decide +kernel
theorem dX8_rests_16 : decode cX8_rests 16 = .ok (.ireturn, 1) := by decide +kernel
theorem dX8_rests_17 : decode cX8_rests 17 = .ok (.aload_n 0, 1) := by decide +kernel
theorem dX8_rests_18 : decode cX8_rests 18 = .ok (.getfield 64, 3) := by decide +kernel
theorem dX8_rests_21 : decode cX8_rests 21 = .ok (.invokevirtual 202, 3) := by decide +kernel
theorem dX8_rests_24 : decode cX8_rests 24 = .ok (.iload_n 1, 1) := by decide +kernel
theorem dX8_rests_25 : decode cX8_rests 25 = .ok (.iconst (-1), 1) := by decide +kernel
theorem dX8_rests_26 : decode cX8_rests 26 = .ok (.if_icmp .ne 14, 3) := by decide +kernel
theorem dX8_rests_29 : decode cX8_rests 29 = .ok (.aload_n 0, 1) := by decide +kernel
theorem dX8_rests_30 : decode cX8_rests 30 = .ok (.getfield 64, 3) := by decide +kernel
theorem dX8_rests_33 : decode cX8_rests 33 = .ok (.iconst 0, 1) := by decide +kernel
theorem dX8_rests_34 : decode cX8_rests 34 = .ok (.invokevirtual 205, 3) := by decide +kernel
theorem dX8_rests_37 : decode cX8_rests 37 = .ok (.goto 19, 3) := by decide +kernel
theorem dX8_rests_40 : decode cX8_rests 40 = .ok (.aload_n 0, 1) := by decide +kernel
theorem dX8_rests_41 : decode cX8_rests 41 = .ok (.getfield 64, 3) := by decide +kernel
theorem dX8_rests_44 : decode cX8_rests 44 = .ok (.aload_n 0, 1) := by decide +kernel
theorem dX8_rests_45 : decode cX8_rests 45 = .ok (.getfield 64, 3) := by decide +kernel
theorem dX8_rests_48 : decode cX8_rests 48 = .ok (.iconst 0, 1) := by decide +kernel
theorem dX8_rests_49 : decode cX8_rests 49 = .ok (.iload_n 1, 1) := by decide +kernel
theorem dX8_rests_50 : decode cX8_rests 50 = .ok (.invokevirtual 208, 3) := by decide +kernel
theorem dX8_rests_53 : decode cX8_rests 53 = .ok (.invokevirtual 211, 3) := by decide +kernel
theorem dX8_rests_56 : decode cX8_rests 56 = .ok (.ireturn, 1) := by decide +kernel
theorem dX8_pays_0 : decode cX8_pays 0 = .ok (.aload_n 0, 1) := by decide +kernel
theorem dX8_pays_1 : decode cX8_pays 1 = .ok (.getfield 27, 3) := by decide +kernel
theorem dX8_pays_4 : decode cX8_pays 4 = .ok (.iload_n 1, 1) := by decide +kernel
theorem dX8_pays_5 : decode cX8_pays 5 = .ok (.invokevirtual 214, 3) := by decide +kernel
theorem dX8_pays_8 : decode cX8_pays 8 = .ok (.ifCond .eq 22, 3) := by decide +kernel
theorem dX8_pays_11 : decode cX8_pays 11 = .ok (.iload_n 2, 1) := by decide +kernel
theorem dX8_pays_12 : decode cX8_pays 12 = .ok (.ifCond .lt 18, 3) := by decide +kernel
theorem dX8_pays_15 : decode cX8_pays 15 = .ok (.iload_n 2, 1) := by decide +kernel
theorem dX8_pays_16 : decode cX8_pays 16 = .ok (.iconst 2, 1) := by decide +kernel
theorem dX8_pays_17 : decode cX8_pays 17 = .ok (.if_icmp .gt 13, 3) := by decide +kernel
theorem dX8_pays_20 : decode cX8_pays 20 = .ok (.aload_n 0, 1) := by decide +kernel
theorem dX8_pays_21 : decode cX8_pays 21 = .ok (.getfield 55, 3) := by decide +kernel
theorem dX8_pays_24 : decode cX8_pays 24 = .ok (.invokevirtual 173, 3) := by decide +kernel
theorem dX8_pays_27 : decode cX8_pays 27 = .ok (.ifCond .ne 7, 3) := by decide +kernel
theorem dX8_pays_30 : decode cX8_pays 30 = .ok (.ldc2_w 178, 3) := by decide +kernel
theorem dX8_pays_33 : decode cX8_pays 33 = .ok (.lreturn, 1) := by decide +kernel
theorem dX8_pays_34 : decode cX8_pays 34 = .ok (.aload_n 0, 1) := by decide +kernel
theorem dX8_pays_35 : decode cX8_pays 35 = .ok (.getfield 55, 3) := by decide +kernel
theorem dX8_pays_38 : decode cX8_pays 38 = .ok (.iload_n 1, 1) := by decide +kernel
theorem dX8_pays_39 : decode cX8_pays 39 = .ok (.invokevirtual 217, 3) := by decide +kernel
theorem dX8_pays_42 : decode cX8_pays 42 = .ok (.iload_n 2, 1) := by decide +kernel
theorem dX8_pays_43 : decode cX8_pays 43 = .ok (.lookupswitch 41 #[(0, 25), (1, 33)], 25) := by decide +kernel
theorem dX8_pays_68 : decode cX8_pays 68 = .ok (.aload_n 0, 1) := by decide +kernel
theorem dX8_pays_69 : decode cX8_pays 69 = .ok (.getfield 55, 3) := by decide +kernel
theorem dX8_pays_72 : decode cX8_pays 72 = .ok (.getfield 220, 3) := by decide +kernel
theorem dX8_pays_75 : decode cX8_pays 75 = .ok (.lreturn, 1) := by decide +kernel
theorem dX8_pays_76 : decode cX8_pays 76 = .ok (.aload_n 0, 1) := by decide +kernel
theorem dX8_pays_77 : decode cX8_pays 77 = .ok (.getfield 55, 3) := by decide +kernel
theorem dX8_pays_80 : decode cX8_pays 80 = .ok (.getfield 224, 3) := by decide +kernel
theorem dX8_pays_83 : decode cX8_pays 83 = .ok (.lreturn, 1) := by decide +kernel
theorem dX8_pays_84 : decode cX8_pays 84 = .ok (.aload_n 0, 1) := by decide +kernel
theorem dX8_pays_85 : decode cX8_pays 85 = .ok (.getfield 55, 3) := by decide +kernel
theorem dX8_pays_88 : decode cX8_pays 88 = .ok (.iload_n 1, 1) := by decide +kernel
theorem dX8_pays_89 : decode cX8_pays 89 = .ok (.invokevirtual 227, 3) := by decide +kernel
theorem dX8_pays_92 : decode cX8_pays 92 = .ok (.lreturn, 1) := by decide +kernel
theorem dX8_mean_0 : decode cX8_mean 0 = .ok (.aload_n 0, 1) := by decide +kernel
theorem dX8_mean_1 : decode cX8_mean 1 = .ok (.getfield 27, 3) := by decide +kernel
theorem dX8_mean_4 : decode cX8_mean 4 = .ok (.iload_n 1, 1) := by decide +kernel
theorem dX8_mean_5 : decode cX8_mean 5 = .ok (.invokevirtual 214, 3) := by decide +kernel
theorem dX8_mean_8 : decode cX8_mean 8 = .ok (.ifCond .eq 24, 3) := by decide +kernel
theorem dX8_mean_11 : decode cX8_mean 11 = .ok (.aload_n 0, 1) := by decide +kernel
theorem dX8_mean_12 : decode cX8_mean 12 = .ok (.getfield 55, 3) := by decide +kernel
theorem dX8_mean_15 : decode cX8_mean 15 = .ok (.invokevirtual 173, 3) := by decide +kernel
theorem dX8_mean_18 : decode cX8_mean 18 = .ok (.ifCond .eq 14, 3) := by decide +kernel
theorem dX8_mean_21 : decode cX8_mean 21 = .ok (.aload_n 0, 1) := by decide +kernel
theorem dX8_mean_22 : decode cX8_mean 22 = .ok (.getfield 55, 3) := by decide +kernel
theorem dX8_mean_25 : decode cX8_mean 25 = .ok (.iload_n 1, 1) := by decide +kernel
theorem dX8_mean_26 : decode cX8_mean 26 = .ok (.invokevirtual 230, 3) := by decide +kernel
theorem dX8_mean_29 : decode cX8_mean 29 = .ok (.goto 4, 3) := by decide +kernel
theorem dX8_mean_32 : decode cX8_mean 32 = .ok (.iconst (-1), 1) := by decide +kernel
theorem dX8_mean_33 : decode cX8_mean 33 = .ok (.ireturn, 1) := by decide +kernel
theorem dX8_gap_0 : decode cX8_gap 0 = .ok (.aload_n 0, 1) := by decide +kernel
theorem dX8_gap_1 : decode cX8_gap 1 = .ok (.getfield 55, 3) := by decide +kernel
theorem dX8_gap_4 : decode cX8_gap 4 = .ok (.invokevirtual 173, 3) := by decide +kernel
theorem dX8_gap_7 : decode cX8_gap 7 = .ok (.ifCond .eq 13, 3) := by decide +kernel
theorem dX8_gap_10 : decode cX8_gap 10 = .ok (.aload_n 0, 1) := by decide +kernel
theorem dX8_gap_11 : decode cX8_gap 11 = .ok (.getfield 55, 3) := by decide +kernel
theorem dX8_gap_14 : decode cX8_gap 14 = .ok (.invokevirtual 233, 3) := by decide +kernel
theorem dX8_gap_17 : decode cX8_gap 17 = .ok (.goto 6, 3) := by decide +kernel
theorem dX8_gap_20 : decode cX8_gap 20 = .ok (.ldc2_w 178, 3) := by decide +kernel
theorem dX8_gap_23 : decode cX8_gap 23 = .ok (.lreturn, 1) := by decide +kernel
theorem dX8_saves_0 : decode cX8_saves 0 = .ok (.aload_n 0, 1) := by decide +kernel
theorem dX8_saves_1 : decode cX8_saves 1 = .ok (.getfield 27, 3) := by decide +kernel
theorem dX8_saves_4 : decode cX8_saves 4 = .ok (.iload_n 1, 1) := by decide +kernel
theorem dX8_saves_5 : decode cX8_saves 5 = .ok (.invokevirtual 237, 3) := by decide +kernel
theorem dX8_saves_8 : decode cX8_saves 8 = .ok (.ifCond .eq 26, 3) := by decide +kernel
theorem dX8_saves_11 : decode cX8_saves 11 = .ok (.aload_n 0, 1) := by decide +kernel
theorem dX8_saves_12 : decode cX8_saves 12 = .ok (.getfield 27, 3) := by decide +kernel
theorem dX8_saves_15 : decode cX8_saves 15 = .ok (.iload_n 2, 1) := by decide +kernel
theorem dX8_saves_16 : decode cX8_saves 16 = .ok (.invokevirtual 125, 3) := by decide +kernel
theorem dX8_saves_19 : decode cX8_saves 19 = .ok (.ifCond .eq 15, 3) := by decide +kernel
theorem dX8_saves_22 : decode cX8_saves 22 = .ok (.aload_n 0, 1) := by decide +kernel
theorem dX8_saves_23 : decode cX8_saves 23 = .ok (.getfield 27, 3) := by decide +kernel
theorem dX8_saves_26 : decode cX8_saves 26 = .ok (.iload_n 1, 1) := by decide +kernel
theorem dX8_saves_27 : decode cX8_saves 27 = .ok (.iload_n 2, 1) := by decide +kernel
theorem dX8_saves_28 : decode cX8_saves 28 = .ok (.invokevirtual 240, 3) := by decide +kernel
theorem dX8_saves_31 : decode cX8_saves 31 = .ok (.ifCond .eq 7, 3) := by decide +kernel
theorem dX8_saves_34 : decode cX8_saves 34 = .ok (.ldc2_w 178, 3) := by decide +kernel
theorem dX8_saves_37 : decode cX8_saves 37 = .ok (.lreturn, 1) := by decide +kernel
theorem dX8_saves_38 : decode cX8_saves 38 = .ok (.aload_n 0, 1) := by decide +kernel
theorem dX8_saves_39 : decode cX8_saves 39 = .ok (.getfield 55, 3) := by decide +kernel
theorem dX8_saves_42 : decode cX8_saves 42 = .ok (.invokevirtual 173, 3) := by decide +kernel
theorem dX8_saves_45 : decode cX8_saves 45 = .ok (.ifCond .eq 25, 3) := by decide +kernel
theorem dX8_saves_48 : decode cX8_saves 48 = .ok (.aload_n 0, 1) := by decide +kernel
theorem dX8_saves_49 : decode cX8_saves 49 = .ok (.getfield 55, 3) := by decide +kernel
theorem dX8_saves_52 : decode cX8_saves 52 = .ok (.getfield 244, 3) := by decide +kernel
theorem dX8_saves_55 : decode cX8_saves 55 = .ok (.ifCond .ne 15, 3) := by decide +kernel
theorem dX8_saves_58 : decode cX8_saves 58 = .ok (.aload_n 0, 1) := by decide +kernel
theorem dX8_saves_59 : decode cX8_saves 59 = .ok (.getfield 55, 3) := by decide +kernel
theorem dX8_saves_62 : decode cX8_saves 62 = .ok (.iload_n 1, 1) := by decide +kernel
theorem dX8_saves_63 : decode cX8_saves 63 = .ok (.iload_n 2, 1) := by decide +kernel
theorem dX8_saves_64 : decode cX8_saves 64 = .ok (.invokevirtual 248, 3) := by decide +kernel
theorem dX8_saves_67 : decode cX8_saves 67 = .ok (.goto 6, 3) := by decide +kernel
theorem dX8_saves_70 : decode cX8_saves 70 = .ok (.ldc2_w 178, 3) := by decide +kernel
theorem dX8_saves_73 : decode cX8_saves 73 = .ok (.lreturn, 1) := by decide +kernel
theorem dX8_would_0 : decode cX8_would 0 = .ok (.aload_n 0, 1) := by decide +kernel
theorem dX8_would_1 : decode cX8_would 1 = .ok (.getfield 27, 3) := by decide +kernel
theorem dX8_would_4 : decode cX8_would 4 = .ok (.iload_n 1, 1) := by decide +kernel
theorem dX8_would_5 : decode cX8_would 5 = .ok (.invokevirtual 237, 3) := by decide +kernel
theorem dX8_would_8 : decode cX8_would 8 = .ok (.ifCond .eq 34, 3) := by decide +kernel
theorem dX8_would_11 : decode cX8_would 11 = .ok (.aload_n 0, 1) := by decide +kernel
theorem dX8_would_12 : decode cX8_would 12 = .ok (.getfield 55, 3) := by decide +kernel
theorem dX8_would_15 : decode cX8_would 15 = .ok (.invokevirtual 173, 3) := by decide +kernel
theorem dX8_would_18 : decode cX8_would 18 = .ok (.ifCond .eq 24, 3) := by decide +kernel
theorem dX8_would_21 : decode cX8_would 21 = .ok (.aload_n 0, 1) := by decide +kernel
theorem dX8_would_22 : decode cX8_would 22 = .ok (.getfield 55, 3) := by decide +kernel
theorem dX8_would_25 : decode cX8_would 25 = .ok (.getfield 244, 3) := by decide +kernel
theorem dX8_would_28 : decode cX8_would 28 = .ok (.ifCond .ne 14, 3) := by decide +kernel
theorem dX8_would_31 : decode cX8_would 31 = .ok (.aload_n 0, 1) := by decide +kernel
theorem dX8_would_32 : decode cX8_would 32 = .ok (.getfield 55, 3) := by decide +kernel
theorem dX8_would_35 : decode cX8_would 35 = .ok (.iload_n 1, 1) := by decide +kernel
theorem dX8_would_36 : decode cX8_would 36 = .ok (.invokevirtual 251, 3) := by decide +kernel
theorem dX8_would_39 : decode cX8_would 39 = .ok (.goto 4, 3) := by decide +kernel
theorem dX8_would_42 : decode cX8_would 42 = .ok (.iconst (-1), 1) := by decide +kernel
theorem dX8_would_43 : decode cX8_would 43 = .ok (.ireturn, 1) := by decide +kernel
theorem dX8_look_0 : decode cX8_look 0 = .ok (.iload_n 2, 1) := by decide +kernel
theorem dX8_look_1 : decode cX8_look 1 = .ok (.bipush 10, 2) := by decide +kernel
theorem dX8_look_3 : decode cX8_look 3 = .ok (.isub, 1) := by decide +kernel
theorem dX8_look_4 : decode cX8_look 4 = .ok (.istore_n 3, 1) := by decide +kernel
theorem dX8_look_5 : decode cX8_look 5 = .ok (.iload_n 1, 1) := by decide +kernel
theorem dX8_look_6 : decode cX8_look 6 = .ok (.iconst 1, 1) := by decide +kernel
theorem dX8_look_7 : decode cX8_look 7 = .ok (.if_icmp .lt 24, 3) := by decide +kernel
theorem dX8_look_10 : decode cX8_look 10 = .ok (.iload_n 1, 1) := by decide +kernel
theorem dX8_look_11 : decode cX8_look 11 = .ok (.bipush 9, 2) := by decide +kernel
theorem dX8_look_13 : decode cX8_look 13 = .ok (.if_icmp .gt 18, 3) := by decide +kernel
theorem dX8_look_16 : decode cX8_look 16 = .ok (.iload_n 2, 1) := by decide +kernel
theorem dX8_look_17 : decode cX8_look 17 = .ok (.ifCond .eq 16, 3) := by decide +kernel
theorem dX8_look_20 : decode cX8_look 20 = .ok (.aload_n 0, 1) := by decide +kernel
theorem dX8_look_21 : decode cX8_look 21 = .ok (.getfield 27, 3) := by decide +kernel
theorem dX8_look_24 : decode cX8_look 24 = .ok (.iload_n 3, 1) := by decide +kernel
theorem dX8_look_25 : decode cX8_look 25 = .ok (.invokevirtual 237, 3) := by decide +kernel
theorem dX8_look_28 : decode cX8_look 28 = .ok (.ifCond .ne 5, 3) := by decide +kernel
theorem dX8_look_31 : decode cX8_look 31 = .ok (.iconst (-1), 1) := by decide +kernel
theorem dX8_look_32 : decode cX8_look 32 = .ok (.ireturn, 1) := by decide +kernel
theorem dX8_look_33 : decode cX8_look 33 = .ok (.aload_n 0, 1) := by decide +kernel
theorem dX8_look_34 : decode cX8_look 34 = .ok (.getfield 55, 3) := by decide +kernel
theorem dX8_look_37 : decode cX8_look 37 = .ok (.invokevirtual 173, 3) := by decide +kernel
theorem dX8_look_40 : decode cX8_look 40 = .ok (.ifCond .eq 13, 3) := by decide +kernel
theorem dX8_look_43 : decode cX8_look 43 = .ok (.aload_n 0, 1) := by decide +kernel
theorem dX8_look_44 : decode cX8_look 44 = .ok (.getfield 55, 3) := by decide +kernel
theorem dX8_look_47 : decode cX8_look 47 = .ok (.getfield 244, 3) := by decide +kernel
theorem dX8_look_50 : decode cX8_look 50 = .ok (.ifCond .eq 5, 3) := by decide +kernel
theorem dX8_look_53 : decode cX8_look 53 = .ok (.iconst (-1), 1) := by decide +kernel
theorem dX8_look_54 : decode cX8_look 54 = .ok (.ireturn, 1) := by decide +kernel
theorem dX8_look_55 : decode cX8_look 55 = .ok (.aload_n 0, 1) := by decide +kernel
theorem dX8_look_56 : decode cX8_look 56 = .ok (.getfield 55, 3) := by decide +kernel
theorem dX8_look_59 : decode cX8_look 59 = .ok (.iload_n 1, 1) := by decide +kernel
theorem dX8_look_60 : decode cX8_look 60 = .ok (.invokevirtual 254, 3) := by decide +kernel
theorem dX8_look_63 : decode cX8_look 63 = .ok (.istore 4, 2) := by decide +kernel
theorem dX8_look_65 : decode cX8_look 65 = .ok (.iload_n 2, 1) := by decide +kernel
theorem dX8_look_66 : decode cX8_look 66 = .ok (.ifCond .ne 8, 3) := by decide +kernel
theorem dX8_look_69 : decode cX8_look 69 = .ok (.iload 4, 2) := by decide +kernel
theorem dX8_look_71 : decode cX8_look 71 = .ok (.goto 12, 3) := by decide +kernel
theorem dX8_look_74 : decode cX8_look 74 = .ok (.aload_n 0, 1) := by decide +kernel
theorem dX8_look_75 : decode cX8_look 75 = .ok (.getfield 27, 3) := by decide +kernel
theorem dX8_look_78 : decode cX8_look 78 = .ok (.getfield 257, 3) := by decide +kernel
theorem dX8_look_81 : decode cX8_look 81 = .ok (.iload_n 3, 1) := by decide +kernel
theorem dX8_look_82 : decode cX8_look 82 = .ok (.iaload, 1) := by decide +kernel
theorem dX8_look_83 : decode cX8_look 83 = .ok (.istore 5, 2) := by decide +kernel
theorem dX8_look_85 : decode cX8_look 85 = .ok (.aload_n 0, 1) := by decide +kernel
theorem dX8_look_86 : decode cX8_look 86 = .ok (.getfield 27, 3) := by decide +kernel
theorem dX8_look_89 : decode cX8_look 89 = .ok (.invokevirtual 260, 3) := by decide +kernel
theorem dX8_look_92 : decode cX8_look 92 = .ok (.iload 5, 2) := by decide +kernel
theorem dX8_look_94 : decode cX8_look 94 = .ok (.ireturn, 1) := by decide +kernel
theorem dX8_lots_0 : decode cX8_lots 0 = .ok (.aload_n 0, 1) := by decide +kernel
theorem dX8_lots_1 : decode cX8_lots 1 = .ok (.getfield 27, 3) := by decide +kernel
theorem dX8_lots_4 : decode cX8_lots 4 = .ok (.iload_n 1, 1) := by decide +kernel
theorem dX8_lots_5 : decode cX8_lots 5 = .ok (.invokevirtual 125, 3) := by decide +kernel
theorem dX8_lots_8 : decode cX8_lots 8 = .ok (.ifCond .eq 30, 3) := by decide +kernel
theorem dX8_lots_11 : decode cX8_lots 11 = .ok (.aload_n 0, 1) := by decide +kernel
theorem dX8_lots_12 : decode cX8_lots 12 = .ok (.getfield 27, 3) := by decide +kernel
theorem dX8_lots_15 : decode cX8_lots 15 = .ok (.iload_n 2, 1) := by decide +kernel
theorem dX8_lots_16 : decode cX8_lots 16 = .ok (.invokevirtual 125, 3) := by decide +kernel
theorem dX8_lots_19 : decode cX8_lots 19 = .ok (.ifCond .eq 19, 3) := by decide +kernel
theorem dX8_lots_22 : decode cX8_lots 22 = .ok (.iload_n 1, 1) := by decide +kernel
theorem dX8_lots_23 : decode cX8_lots 23 = .ok (.iload_n 2, 1) := by decide +kernel
theorem dX8_lots_24 : decode cX8_lots 24 = .ok (.if_icmp .eq 14, 3) := by decide +kernel
theorem dX8_lots_27 : decode cX8_lots 27 = .ok (.iload 5, 2) := by decide +kernel
theorem dX8_lots_29 : decode cX8_lots 29 = .ok (.ifCond .lt 9, 3) := by decide +kernel
theorem dX8_lots_32 : decode cX8_lots 32 = .ok (.iload 5, 2) := by decide +kernel
theorem dX8_lots_34 : decode cX8_lots 34 = .ok (.iconst 3, 1) := by decide +kernel
theorem dX8_lots_35 : decode cX8_lots 35 = .ok (.if_icmp .le 7, 3) := by decide +kernel
theorem dX8_lots_38 : decode cX8_lots 38 = .ok (.ldc2_w 178, 3) := by decide +kernel
theorem dX8_lots_41 : decode cX8_lots 41 = .ok (.lreturn, 1) := by decide +kernel
theorem dX8_lots_42 : decode cX8_lots 42 = .ok (.aload_n 0, 1) := by decide +kernel
theorem dX8_lots_43 : decode cX8_lots 43 = .ok (.getfield 27, 3) := by decide +kernel
theorem dX8_lots_46 : decode cX8_lots 46 = .ok (.iload_n 3, 1) := by decide +kernel
theorem dX8_lots_47 : decode cX8_lots 47 = .ok (.invokevirtual 157, 3) := by decide +kernel
theorem dX8_lots_50 : decode cX8_lots 50 = .ok (.ifCond .eq 31, 3) := by decide +kernel
theorem dX8_lots_53 : decode cX8_lots 53 = .ok (.aload_n 0, 1) := by decide +kernel
theorem dX8_lots_54 : decode cX8_lots 54 = .ok (.getfield 27, 3) := by decide +kernel
theorem dX8_lots_57 : decode cX8_lots 57 = .ok (.iload 4, 2) := by decide +kernel
theorem dX8_lots_59 : decode cX8_lots 59 = .ok (.invokevirtual 157, 3) := by decide +kernel
theorem dX8_lots_62 : decode cX8_lots 62 = .ok (.ifCond .eq 19, 3) := by decide +kernel
theorem dX8_lots_65 : decode cX8_lots 65 = .ok (.iload_n 3, 1) := by decide +kernel
theorem dX8_lots_66 : decode cX8_lots 66 = .ok (.iload 4, 2) := by decide +kernel
theorem dX8_lots_68 : decode cX8_lots 68 = .ok (.if_icmp .ge 13, 3) := by decide +kernel
theorem dX8_lots_71 : decode cX8_lots 71 = .ok (.aload_n 0, 1) := by decide +kernel
theorem dX8_lots_72 : decode cX8_lots 72 = .ok (.getfield 55, 3) := by decide +kernel
theorem dX8_lots_75 : decode cX8_lots 75 = .ok (.invokevirtual 173, 3) := by decide +kernel
theorem dX8_lots_78 : decode cX8_lots 78 = .ok (.ifCond .ne 7, 3) := by decide +kernel
theorem dX8_lots_81 : decode cX8_lots 81 = .ok (.ldc2_w 178, 3) := by decide +kernel
theorem dX8_lots_84 : decode cX8_lots 84 = .ok (.lreturn, 1) := by decide +kernel
theorem dX8_lots_85 : decode cX8_lots 85 = .ok (.aload_n 0, 1) := by decide +kernel
theorem dX8_lots_86 : decode cX8_lots 86 = .ok (.getfield 55, 3) := by decide +kernel
theorem dX8_lots_89 : decode cX8_lots 89 = .ok (.iload_n 3, 1) := by decide +kernel
theorem dX8_lots_90 : decode cX8_lots 90 = .ok (.invokevirtual 263, 3) := by decide +kernel
theorem dX8_lots_93 : decode cX8_lots 93 = .ok (.ifCond .eq 15, 3) := by decide +kernel
theorem dX8_lots_96 : decode cX8_lots 96 = .ok (.aload_n 0, 1) := by decide +kernel
theorem dX8_lots_97 : decode cX8_lots 97 = .ok (.getfield 55, 3) := by decide +kernel
theorem dX8_lots_100 : decode cX8_lots 100 = .ok (.iload 4, 2) := by decide +kernel
theorem dX8_lots_102 : decode cX8_lots 102 = .ok (.invokevirtual 263, 3) := by decide +kernel
theorem dX8_lots_105 : decode cX8_lots 105 = .ok (.ifCond .ne 7, 3) := by decide +kernel
theorem dX8_lots_108 : decode cX8_lots 108 = .ok (.ldc2_w 178, 3) := by decide +kernel
theorem dX8_lots_111 : decode cX8_lots 111 = .ok (.lreturn, 1) := by decide +kernel
theorem dX8_lots_112 : decode cX8_lots 112 = .ok (.aload_n 0, 1) := by decide +kernel
theorem dX8_lots_113 : decode cX8_lots 113 = .ok (.getfield 82, 3) := by decide +kernel
theorem dX8_lots_116 : decode cX8_lots 116 = .ok (.iload_n 1, 1) := by decide +kernel
theorem dX8_lots_117 : decode cX8_lots 117 = .ok (.iload_n 2, 1) := by decide +kernel
theorem dX8_lots_118 : decode cX8_lots 118 = .ok (.iload_n 3, 1) := by decide +kernel
theorem dX8_lots_119 : decode cX8_lots 119 = .ok (.iload 4, 2) := by decide +kernel
theorem dX8_lots_121 : decode cX8_lots 121 = .ok (.invokevirtual 266, 3) := by decide +kernel
theorem dX8_lots_124 : decode cX8_lots 124 = .ok (.aload_n 0, 1) := by decide +kernel
theorem dX8_lots_125 : decode cX8_lots 125 = .ok (.getfield 82, 3) := by decide +kernel
theorem dX8_lots_128 : decode cX8_lots 128 = .ok (.invokevirtual 270, 3) := by decide +kernel
theorem dX8_lots_131 : decode cX8_lots 131 = .ok (.ifCond .eq 9, 3) := by decide +kernel
theorem dX8_lots_134 : decode cX8_lots 134 = .ok (.ldc2_w 178, 3) := by decide +kernel
theorem dX8_lots_137 : decode cX8_lots 137 = .ok (.goto 12, 3) := by decide +kernel
theorem dX8_lots_140 : decode cX8_lots 140 = .ok (.aload_n 0, 1) := by decide +kernel
theorem dX8_lots_141 : decode cX8_lots 141 = .ok (.getfield 82, 3) := by decide +kernel
theorem dX8_lots_144 : decode cX8_lots 144 = .ok (.iload 5, 2) := by decide +kernel
theorem dX8_lots_146 : decode cX8_lots 146 = .ok (.invokevirtual 273, 3) := by decide +kernel
theorem dX8_lots_149 : decode cX8_lots 149 = .ok (.lreturn, 1) := by decide +kernel
theorem dX8_chase_0 : decode cX8_chase 0 = .ok (.aload_n 0, 1) := by decide +kernel
theorem dX8_chase_1 : decode cX8_chase 1 = .ok (.getfield 27, 3) := by decide +kernel
theorem dX8_chase_4 : decode cX8_chase 4 = .ok (.iload_n 2, 1) := by decide +kernel
theorem dX8_chase_5 : decode cX8_chase 5 = .ok (.bipush 10, 2) := by decide +kernel
theorem dX8_chase_7 : decode cX8_chase 7 = .ok (.isub, 1) := by decide +kernel
theorem dX8_chase_8 : decode cX8_chase 8 = .ok (.invokevirtual 125, 3) := by decide +kernel
theorem dX8_chase_11 : decode cX8_chase 11 = .ok (.istore_n 3, 1) := by decide +kernel
theorem dX8_chase_12 : decode cX8_chase 12 = .ok (.iload_n 1, 1) := by decide +kernel
theorem dX8_chase_13 : decode cX8_chase 13 = .ok (.iconst 1, 1) := by decide +kernel
theorem dX8_chase_14 : decode cX8_chase 14 = .ok (.if_icmp .lt 22, 3) := by decide +kernel
theorem dX8_chase_17 : decode cX8_chase 17 = .ok (.iload_n 1, 1) := by decide +kernel
theorem dX8_chase_18 : decode cX8_chase 18 = .ok (.bipush 60, 2) := by decide +kernel
theorem dX8_chase_20 : decode cX8_chase 20 = .ok (.if_icmp .gt 16, 3) := by decide +kernel
theorem dX8_chase_23 : decode cX8_chase 23 = .ok (.iload_n 3, 1) := by decide +kernel
theorem dX8_chase_24 : decode cX8_chase 24 = .ok (.ifCond .ne 14, 3) := by decide +kernel
theorem dX8_chase_27 : decode cX8_chase 27 = .ok (.iload_n 2, 1) := by decide +kernel
theorem dX8_chase_28 : decode cX8_chase 28 = .ok (.ifCond .lt 8, 3) := by decide +kernel
theorem dX8_chase_31 : decode cX8_chase 31 = .ok (.iload_n 2, 1) := by decide +kernel
theorem dX8_chase_32 : decode cX8_chase 32 = .ok (.iconst 2, 1) := by decide +kernel
theorem dX8_chase_33 : decode cX8_chase 33 = .ok (.if_icmp .le 5, 3) := by decide +kernel
theorem dX8_chase_36 : decode cX8_chase 36 = .ok (.iconst (-1), 1) := by decide +kernel
theorem dX8_chase_37 : decode cX8_chase 37 = .ok (.ireturn, 1) := by decide +kernel
theorem dX8_chase_38 : decode cX8_chase 38 = .ok (.aload_n 0, 1) := by decide +kernel
theorem dX8_chase_39 : decode cX8_chase 39 = .ok (.getfield 55, 3) := by decide +kernel
theorem dX8_chase_42 : decode cX8_chase 42 = .ok (.invokevirtual 173, 3) := by decide +kernel
theorem dX8_chase_45 : decode cX8_chase 45 = .ok (.ifCond .eq 14, 3) := by decide +kernel
theorem dX8_chase_48 : decode cX8_chase 48 = .ok (.aload_n 0, 1) := by decide +kernel
theorem dX8_chase_49 : decode cX8_chase 49 = .ok (.getfield 55, 3) := by decide +kernel
theorem dX8_chase_52 : decode cX8_chase 52 = .ok (.getfield 276, 3) := by decide +kernel
theorem dX8_chase_55 : decode cX8_chase 55 = .ok (.iconst (-1), 1) := by decide +kernel
theorem dX8_chase_56 : decode cX8_chase 56 = .ok (.if_icmp .eq 5, 3) := by decide +kernel
theorem dX8_chase_59 : decode cX8_chase 59 = .ok (.iconst (-1), 1) := by decide +kernel
theorem dX8_chase_60 : decode cX8_chase 60 = .ok (.ireturn, 1) := by decide +kernel
theorem dX8_chase_61 : decode cX8_chase 61 = .ok (.aload_n 0, 1) := by decide +kernel
theorem dX8_chase_62 : decode cX8_chase 62 = .ok (.getfield 73, 3) := by decide +kernel
theorem dX8_chase_65 : decode cX8_chase 65 = .ok (.iload_n 1, 1) := by decide +kernel
theorem dX8_chase_66 : decode cX8_chase 66 = .ok (.invokevirtual 279, 3) := by decide +kernel
theorem dX8_chase_69 : decode cX8_chase 69 = .ok (.iload_n 3, 1) := by decide +kernel
theorem dX8_chase_70 : decode cX8_chase 70 = .ok (.ifCond .eq 16, 3) := by decide +kernel
theorem dX8_chase_73 : decode cX8_chase 73 = .ok (.aload_n 0, 1) := by decide +kernel
theorem dX8_chase_74 : decode cX8_chase 74 = .ok (.getfield 73, 3) := by decide +kernel
theorem dX8_chase_77 : decode cX8_chase 77 = .ok (.getfield 282, 3) := by decide +kernel
theorem dX8_chase_80 : decode cX8_chase 80 = .ok (.iload_n 2, 1) := by decide +kernel
theorem dX8_chase_81 : decode cX8_chase 81 = .ok (.bipush 10, 2) := by decide +kernel
theorem dX8_chase_83 : decode cX8_chase 83 = .ok (.isub, 1) := by decide +kernel
theorem dX8_chase_84 : decode cX8_chase 84 = .ok (.iaload, 1) := by decide +kernel
theorem dX8_chase_85 : decode cX8_chase 85 = .ok (.ireturn, 1) := by decide +kernel
theorem dX8_chase_86 : decode cX8_chase 86 = .ok (.iload_n 2, 1) := by decide +kernel
theorem dX8_chase_87 : decode cX8_chase 87 = .ok (.lookupswitch 41 #[(0, 25), (1, 33)], 25) := by decide +kernel
theorem dX8_chase_112 : decode cX8_chase 112 = .ok (.aload_n 0, 1) := by decide +kernel
theorem dX8_chase_113 : decode cX8_chase 113 = .ok (.getfield 73, 3) := by decide +kernel
theorem dX8_chase_116 : decode cX8_chase 116 = .ok (.getfield 284, 3) := by decide +kernel
theorem dX8_chase_119 : decode cX8_chase 119 = .ok (.ireturn, 1) := by decide +kernel
theorem dX8_chase_120 : decode cX8_chase 120 = .ok (.aload_n 0, 1) := by decide +kernel
theorem dX8_chase_121 : decode cX8_chase 121 = .ok (.getfield 73, 3) := by decide +kernel
theorem dX8_chase_124 : decode cX8_chase 124 = .ok (.getfield 287, 3) := by decide +kernel
theorem dX8_chase_127 : decode cX8_chase 127 = .ok (.ireturn, 1) := by decide +kernel
theorem dX8_chase_128 : decode cX8_chase 128 = .ok (.aload_n 0, 1) := by decide +kernel
theorem dX8_chase_129 : decode cX8_chase 129 = .ok (.getfield 73, 3) := by decide +kernel
theorem dX8_chase_132 : decode cX8_chase 132 = .ok (.getfield 290, 3) := by decide +kernel
theorem dX8_chase_135 : decode cX8_chase 135 = .ok (.ireturn, 1) := by decide +kernel
theorem dX8_law_0 : decode cX8_law 0 = .ok (.iload_n 1, 1) := by decide +kernel
theorem dX8_law_1 : decode cX8_law 1 = .ok (.ifCond .lt 15, 3) := by decide +kernel
theorem dX8_law_4 : decode cX8_law 4 = .ok (.iload_n 1, 1) := by decide +kernel
theorem dX8_law_5 : decode cX8_law 5 = .ok (.iconst 2, 1) := by decide +kernel
theorem dX8_law_6 : decode cX8_law 6 = .ok (.if_icmp .gt 10, 3) := by decide +kernel
theorem dX8_law_9 : decode cX8_law 9 = .ok (.iload_n 2, 1) := by decide +kernel
theorem dX8_law_10 : decode cX8_law 10 = .ok (.invokestatic 167, 3) := by decide +kernel
theorem dX8_law_13 : decode cX8_law 13 = .ok (.ifCond .ne 5, 3) := by decide +kernel
theorem dX8_law_16 : decode cX8_law 16 = .ok (.iconst (-1), 1) := by decide +kernel
theorem dX8_law_17 : decode cX8_law 17 = .ok (.ireturn, 1) := by decide +kernel
theorem dX8_law_18 : decode cX8_law 18 = .ok (.aload_n 0, 1) := by decide +kernel
theorem dX8_law_19 : decode cX8_law 19 = .ok (.getfield 43, 3) := by decide +kernel
theorem dX8_law_22 : decode cX8_law 22 = .ok (.iload_n 1, 1) := by decide +kernel
theorem dX8_law_23 : decode cX8_law 23 = .ok (.iload_n 2, 1) := by decide +kernel
theorem dX8_law_24 : decode cX8_law 24 = .ok (.invokevirtual 293, 3) := by decide +kernel
theorem dX8_law_27 : decode cX8_law 27 = .ok (.ireturn, 1) := by decide +kernel
theorem dX8_force_0 : decode cX8_force 0 = .ok (.iload_n 1, 1) := by decide +kernel
theorem dX8_force_1 : decode cX8_force 1 = .ok (.iconst (-1), 1) := by decide +kernel
theorem dX8_force_2 : decode cX8_force 2 = .ok (.if_icmp .eq 16, 3) := by decide +kernel
theorem dX8_force_5 : decode cX8_force 5 = .ok (.aload_n 0, 1) := by decide +kernel
theorem dX8_force_6 : decode cX8_force 6 = .ok (.getfield 43, 3) := by decide +kernel
theorem dX8_force_9 : decode cX8_force 9 = .ok (.iload_n 1, 1) := by decide +kernel
theorem dX8_force_10 : decode cX8_force 10 = .ok (.invokevirtual 296, 3) := by decide +kernel
theorem dX8_force_13 : decode cX8_force 13 = .ok (.ifCond .ne 5, 3) := by decide +kernel
theorem dX8_force_16 : decode cX8_force 16 = .ok (.iconst 0, 1) := by decide +kernel
theorem dX8_force_17 : decode cX8_force 17 = .ok (.ireturn, 1) := by decide +kernel
theorem dX8_force_18 : decode cX8_force 18 = .ok (.aload_n 0, 1) := by decide +kernel
theorem dX8_force_19 : decode cX8_force 19 = .ok (.getfield 47, 3) := by decide +kernel
theorem dX8_force_22 : decode cX8_force 22 = .ok (.iload_n 1, 1) := by decide +kernel
theorem dX8_force_23 : decode cX8_force 23 = .ok (.putfield 299, 3) := by decide +kernel
theorem dX8_force_26 : decode cX8_force 26 = .ok (.aload_n 0, 1) := by decide +kernel
theorem dX8_force_27 : decode cX8_force 27 = .ok (.getfield 64, 3) := by decide +kernel
theorem dX8_force_30 : decode cX8_force 30 = .ok (.invokevirtual 117, 3) := by decide +kernel
theorem dX8_force_33 : decode cX8_force 33 = .ok (.iconst 1, 1) := by decide +kernel
theorem dX8_force_34 : decode cX8_force 34 = .ok (.ireturn, 1) := by decide +kernel
theorem dX8_bestLaw_0 : decode cX8_bestLaw 0 = .ok (.aload_n 0, 1) := by decide +kernel
theorem dX8_bestLaw_1 : decode cX8_bestLaw 1 = .ok (.getfield 27, 3) := by decide +kernel
theorem dX8_bestLaw_4 : decode cX8_bestLaw 4 = .ok (.iload_n 1, 1) := by decide +kernel
theorem dX8_bestLaw_5 : decode cX8_bestLaw 5 = .ok (.invokevirtual 214, 3) := by decide +kernel
theorem dX8_bestLaw_8 : decode cX8_bestLaw 8 = .ok (.ifCond .eq 12, 3) := by decide +kernel
theorem dX8_bestLaw_11 : decode cX8_bestLaw 11 = .ok (.iload_n 2, 1) := by decide +kernel
theorem dX8_bestLaw_12 : decode cX8_bestLaw 12 = .ok (.ifCond .lt 8, 3) := by decide +kernel
theorem dX8_bestLaw_15 : decode cX8_bestLaw 15 = .ok (.iload_n 2, 1) := by decide +kernel
theorem dX8_bestLaw_16 : decode cX8_bestLaw 16 = .ok (.iconst 1, 1) := by decide +kernel
theorem dX8_bestLaw_17 : decode cX8_bestLaw 17 = .ok (.if_icmp .le 5, 3) := by decide +kernel
theorem dX8_bestLaw_20 : decode cX8_bestLaw 20 = .ok (.iconst (-1), 1) := by decide +kernel
theorem dX8_bestLaw_21 : decode cX8_bestLaw 21 = .ok (.ireturn, 1) := by decide +kernel
theorem dX8_bestLaw_22 : decode cX8_bestLaw 22 = .ok (.aload_n 0, 1) := by decide +kernel
theorem dX8_bestLaw_23 : decode cX8_bestLaw 23 = .ok (.getfield 64, 3) := by decide +kernel
theorem dX8_bestLaw_26 : decode cX8_bestLaw 26 = .ok (.iload_n 1, 1) := by decide +kernel
theorem dX8_bestLaw_27 : decode cX8_bestLaw 27 = .ok (.invokevirtual 302, 3) := by decide +kernel
theorem dX8_bestLaw_30 : decode cX8_bestLaw 30 = .ok (.aload_n 0, 1) := by decide +kernel
theorem dX8_bestLaw_31 : decode cX8_bestLaw 31 = .ok (.getfield 64, 3) := by decide +kernel
theorem dX8_bestLaw_34 : decode cX8_bestLaw 34 = .ok (.iload_n 1, 1) := by decide +kernel
theorem dX8_bestLaw_35 : decode cX8_bestLaw 35 = .ok (.invokevirtual 305, 3) := by decide +kernel
theorem dX8_bestLaw_38 : decode cX8_bestLaw 38 = .ok (.aload_n 0, 1) := by decide +kernel
theorem dX8_bestLaw_39 : decode cX8_bestLaw 39 = .ok (.getfield 64, 3) := by decide +kernel
theorem dX8_bestLaw_42 : decode cX8_bestLaw 42 = .ok (.invokevirtual 308, 3) := by decide +kernel
theorem dX8_bestLaw_45 : decode cX8_bestLaw 45 = .ok (.istore_n 3, 1) := by decide +kernel
theorem dX8_bestLaw_46 : decode cX8_bestLaw 46 = .ok (.iload_n 3, 1) := by decide +kernel
theorem dX8_bestLaw_47 : decode cX8_bestLaw 47 = .ok (.iconst (-1), 1) := by decide +kernel
theorem dX8_bestLaw_48 : decode cX8_bestLaw 48 = .ok (.if_icmp .ne 5, 3) := by decide +kernel
theorem dX8_bestLaw_51 : decode cX8_bestLaw 51 = .ok (.iconst (-1), 1) := by decide +kernel
theorem dX8_bestLaw_52 : decode cX8_bestLaw 52 = .ok (.ireturn, 1) := by decide +kernel
theorem dX8_bestLaw_53 : decode cX8_bestLaw 53 = .ok (.iload_n 2, 1) := by decide +kernel
theorem dX8_bestLaw_54 : decode cX8_bestLaw 54 = .ok (.iconst 1, 1) := by decide +kernel
theorem dX8_bestLaw_55 : decode cX8_bestLaw 55 = .ok (.if_icmp .ne 13, 3) := by decide +kernel
theorem dX8_bestLaw_58 : decode cX8_bestLaw 58 = .ok (.aload_n 0, 1) := by decide +kernel
theorem dX8_bestLaw_59 : decode cX8_bestLaw 59 = .ok (.getfield 64, 3) := by decide +kernel
theorem dX8_bestLaw_62 : decode cX8_bestLaw 62 = .ok (.getfield 312, 3) := by decide +kernel
theorem dX8_bestLaw_65 : decode cX8_bestLaw 65 = .ok (.iload_n 3, 1) := by decide +kernel
theorem dX8_bestLaw_66 : decode cX8_bestLaw 66 = .ok (.iaload, 1) := by decide +kernel
theorem dX8_bestLaw_67 : decode cX8_bestLaw 67 = .ok (.ireturn, 1) := by decide +kernel
theorem dX8_bestLaw_68 : decode cX8_bestLaw 68 = .ok (.iload_n 3, 1) := by decide +kernel
theorem dX8_bestLaw_69 : decode cX8_bestLaw 69 = .ok (.ifCond .ne 8, 3) := by decide +kernel
theorem dX8_bestLaw_72 : decode cX8_bestLaw 72 = .ok (.bipush 9, 2) := by decide +kernel
theorem dX8_bestLaw_74 : decode cX8_bestLaw 74 = .ok (.goto 6, 3) := by decide +kernel
theorem dX8_bestLaw_77 : decode cX8_bestLaw 77 = .ok (.iload_n 3, 1) := by decide +kernel
theorem dX8_bestLaw_78 : decode cX8_bestLaw 78 = .ok (.iconst 1, 1) := by decide +kernel
theorem dX8_bestLaw_79 : decode cX8_bestLaw 79 = .ok (.isub, 1) := by decide +kernel
theorem dX8_bestLaw_80 : decode cX8_bestLaw 80 = .ok (.ireturn, 1) := by decide +kernel
theorem dX8_edge_0 : decode cX8_edge 0 = .ok (.aload_n 0, 1) := by decide +kernel
theorem dX8_edge_1 : decode cX8_edge 1 = .ok (.getfield 27, 3) := by decide +kernel
theorem dX8_edge_4 : decode cX8_edge 4 = .ok (.iload_n 1, 1) := by decide +kernel
theorem dX8_edge_5 : decode cX8_edge 5 = .ok (.invokevirtual 125, 3) := by decide +kernel
theorem dX8_edge_8 : decode cX8_edge 8 = .ok (.ifCond .eq 14, 3) := by decide +kernel
theorem dX8_edge_11 : decode cX8_edge 11 = .ok (.aload_n 0, 1) := by decide +kernel
theorem dX8_edge_12 : decode cX8_edge 12 = .ok (.getfield 64, 3) := by decide +kernel
theorem dX8_edge_15 : decode cX8_edge 15 = .ok (.iload_n 1, 1) := by decide +kernel
theorem dX8_edge_16 : decode cX8_edge 16 = .ok (.invokevirtual 315, 3) := by decide +kernel
theorem dX8_edge_19 : decode cX8_edge 19 = .ok (.goto 4, 3) := by decide +kernel
theorem dX8_edge_22 : decode cX8_edge 22 = .ok (.iconst (-1), 1) := by decide +kernel
theorem dX8_edge_23 : decode cX8_edge 23 = .ok (.ireturn, 1) := by decide +kernel
theorem dX8_run_0 : decode cX8_run 0 = .ok (.iload_n 1, 1) := by decide +kernel
theorem dX8_run_1 : decode cX8_run 1 = .ok (.ifCond .lt 22, 3) := by decide +kernel
theorem dX8_run_4 : decode cX8_run 4 = .ok (.iload_n 1, 1) := by decide +kernel
theorem dX8_run_5 : decode cX8_run 5 = .ok (.ldc_w 318, 3) := by decide +kernel
theorem dX8_run_8 : decode cX8_run 8 = .ok (.if_icmp .gt 15, 3) := by decide +kernel
theorem dX8_run_11 : decode cX8_run 11 = .ok (.iload_n 2, 1) := by decide +kernel
theorem dX8_run_12 : decode cX8_run 12 = .ok (.iconst 1, 1) := by decide +kernel
theorem dX8_run_13 : decode cX8_run 13 = .ok (.if_icmp .lt 10, 3) := by decide +kernel
theorem dX8_run_16 : decode cX8_run 16 = .ok (.iload_n 2, 1) := by decide +kernel
theorem dX8_run_17 : decode cX8_run 17 = .ok (.sipush 400, 3) := by decide +kernel
theorem dX8_run_20 : decode cX8_run 20 = .ok (.if_icmp .le 7, 3) := by decide +kernel
theorem dX8_run_23 : decode cX8_run 23 = .ok (.ldc2_w 178, 3) := by decide +kernel
theorem dX8_run_26 : decode cX8_run 26 = .ok (.lreturn, 1) := by decide +kernel
theorem dX8_run_27 : decode cX8_run 27 = .ok (.aload_n 0, 1) := by decide +kernel
theorem dX8_run_28 : decode cX8_run 28 = .ok (.getfield 27, 3) := by decide +kernel
theorem dX8_run_31 : decode cX8_run 31 = .ok (.iload_n 3, 1) := by decide +kernel
theorem dX8_run_32 : decode cX8_run 32 = .ok (.bipush 10, 2) := by decide +kernel
theorem dX8_run_34 : decode cX8_run 34 = .ok (.isub, 1) := by decide +kernel
theorem dX8_run_35 : decode cX8_run 35 = .ok (.invokevirtual 125, 3) := by decide +kernel
theorem dX8_run_38 : decode cX8_run 38 = .ok (.ifCond .ne 31, 3) := by decide +kernel
theorem dX8_run_41 : decode cX8_run 41 = .ok (.aload_n 0, 1) := by decide +kernel
theorem dX8_run_42 : decode cX8_run 42 = .ok (.getfield 27, 3) := by decide +kernel
theorem dX8_run_45 : decode cX8_run 45 = .ok (.iload_n 3, 1) := by decide +kernel
theorem dX8_run_46 : decode cX8_run 46 = .ok (.bipush 20, 2) := by decide +kernel
theorem dX8_run_48 : decode cX8_run 48 = .ok (.isub, 1) := by decide +kernel
theorem dX8_run_49 : decode cX8_run 49 = .ok (.invokevirtual 125, 3) := by decide +kernel
theorem dX8_run_52 : decode cX8_run 52 = .ok (.ifCond .ne 17, 3) := by decide +kernel
theorem dX8_run_55 : decode cX8_run 55 = .ok (.aload_n 0, 1) := by decide +kernel
theorem dX8_run_56 : decode cX8_run 56 = .ok (.getfield 27, 3) := by decide +kernel
theorem dX8_run_59 : decode cX8_run 59 = .ok (.iload_n 3, 1) := by decide +kernel
theorem dX8_run_60 : decode cX8_run 60 = .ok (.bipush 30, 2) := by decide +kernel
theorem dX8_run_62 : decode cX8_run 62 = .ok (.isub, 1) := by decide +kernel
theorem dX8_run_63 : decode cX8_run 63 = .ok (.invokevirtual 214, 3) := by decide +kernel
theorem dX8_run_66 : decode cX8_run 66 = .ok (.ifCond .eq 7, 3) := by decide +kernel
theorem dX8_run_69 : decode cX8_run 69 = .ok (.iconst 1, 1) := by decide +kernel
theorem dX8_run_70 : decode cX8_run 70 = .ok (.goto 4, 3) := by decide +kernel
theorem dX8_run_73 : decode cX8_run 73 = .ok (.iconst 0, 1) := by decide +kernel
theorem dX8_run_74 : decode cX8_run 74 = .ok (.istore 4, 2) := by decide +kernel
theorem dX8_run_76 : decode cX8_run 76 = .ok (.iload 4, 2) := by decide +kernel
theorem dX8_run_78 : decode cX8_run 78 = .ok (.ifCond .eq 26, 3) := by decide +kernel
theorem dX8_run_81 : decode cX8_run 81 = .ok (.aload_n 0, 1) := by decide +kernel
theorem dX8_run_82 : decode cX8_run 82 = .ok (.getfield 55, 3) := by decide +kernel
theorem dX8_run_85 : decode cX8_run 85 = .ok (.invokevirtual 173, 3) := by decide +kernel
theorem dX8_run_88 : decode cX8_run 88 = .ok (.ifCond .eq 16, 3) := by decide +kernel
theorem dX8_run_91 : decode cX8_run 91 = .ok (.aload_n 0, 1) := by decide +kernel
theorem dX8_run_92 : decode cX8_run 92 = .ok (.getfield 55, 3) := by decide +kernel
theorem dX8_run_95 : decode cX8_run 95 = .ok (.iload_n 1, 1) := by decide +kernel
theorem dX8_run_96 : decode cX8_run 96 = .ok (.iload_n 2, 1) := by decide +kernel
theorem dX8_run_97 : decode cX8_run 97 = .ok (.iload_n 3, 1) := by decide +kernel
theorem dX8_run_98 : decode cX8_run 98 = .ok (.invokevirtual 319, 3) := by decide +kernel
theorem dX8_run_101 : decode cX8_run 101 = .ok (.goto 6, 3) := by decide +kernel
theorem dX8_run_104 : decode cX8_run 104 = .ok (.ldc2_w 178, 3) := by decide +kernel
theorem dX8_run_107 : decode cX8_run 107 = .ok (.lreturn, 1) := by decide +kernel
theorem dX8_image_0 : decode cX8_image 0 = .ok (.aload_n 0, 1) := by decide +kernel
theorem dX8_image_1 : decode cX8_image 1 = .ok (.getfield 27, 3) := by decide +kernel
theorem dX8_image_4 : decode cX8_image 4 = .ok (.getfield 118, 3) := by decide +kernel
theorem dX8_image_7 : decode cX8_image 7 = .ok (.ifCond .eq 15, 3) := by decide +kernel
theorem dX8_image_10 : decode cX8_image 10 = .ok (.aload_n 0, 1) := by decide +kernel
theorem dX8_image_11 : decode cX8_image 11 = .ok (.getfield 96, 3) := by decide +kernel
theorem dX8_image_14 : decode cX8_image 14 = .ok (.aload_n 0, 1) := by decide +kernel
theorem dX8_image_15 : decode cX8_image 15 = .ok (.getfield 51, 3) := by decide +kernel
theorem dX8_image_18 : decode cX8_image 18 = .ok (.arraylength, 1) := by decide +kernel
theorem dX8_image_19 : decode cX8_image 19 = .ok (.if_icmp .lt 5, 3) := by decide +kernel
theorem dX8_image_22 : decode cX8_image 22 = .ok (.iconst (-1), 1) := by decide +kernel
theorem dX8_image_23 : decode cX8_image 23 = .ok (.ireturn, 1) := by decide +kernel
theorem dX8_image_24 : decode cX8_image 24 = .ok (.aload_n 0, 1) := by decide +kernel
theorem dX8_image_25 : decode cX8_image 25 = .ok (.getfield 51, 3) := by decide +kernel
theorem dX8_image_28 : decode cX8_image 28 = .ok (.aload_n 0, 1) := by decide +kernel
theorem dX8_image_29 : decode cX8_image 29 = .ok (.getfield 96, 3) := by decide +kernel
theorem dX8_image_32 : decode cX8_image 32 = .ok (.aaload, 1) := by decide +kernel
theorem dX8_image_33 : decode cX8_image 33 = .ok (.aload_n 0, 1) := by decide +kernel
theorem dX8_image_34 : decode cX8_image 34 = .ok (.getfield 47, 3) := by decide +kernel
theorem dX8_image_37 : decode cX8_image 37 = .ok (.invokevirtual 323, 3) := by decide +kernel
theorem dX8_image_40 : decode cX8_image 40 = .ok (.aload_n 0, 1) := by decide +kernel
theorem dX8_image_41 : decode cX8_image 41 = .ok (.dup, 1) := by decide +kernel
theorem dX8_image_42 : decode cX8_image 42 = .ok (.getfield 96, 3) := by decide +kernel
theorem dX8_image_45 : decode cX8_image 45 = .ok (.iconst 1, 1) := by decide +kernel
theorem dX8_image_46 : decode cX8_image 46 = .ok (.iadd, 1) := by decide +kernel
theorem dX8_image_47 : decode cX8_image 47 = .ok (.putfield 96, 3) := by decide +kernel
theorem dX8_image_50 : decode cX8_image 50 = .ok (.aload_n 0, 1) := by decide +kernel
theorem dX8_image_51 : decode cX8_image 51 = .ok (.getfield 96, 3) := by decide +kernel
theorem dX8_image_54 : decode cX8_image 54 = .ok (.iconst 1, 1) := by decide +kernel
theorem dX8_image_55 : decode cX8_image 55 = .ok (.isub, 1) := by decide +kernel
theorem dX8_image_56 : decode cX8_image 56 = .ok (.ireturn, 1) := by decide +kernel
theorem dX8_back_0 : decode cX8_back 0 = .ok (.iload_n 1, 1) := by decide +kernel
theorem dX8_back_1 : decode cX8_back 1 = .ok (.ifCond .lt 20, 3) := by decide +kernel
theorem dX8_back_4 : decode cX8_back 4 = .ok (.iload_n 1, 1) := by decide +kernel
theorem dX8_back_5 : decode cX8_back 5 = .ok (.aload_n 0, 1) := by decide +kernel
theorem dX8_back_6 : decode cX8_back 6 = .ok (.getfield 96, 3) := by decide +kernel
theorem dX8_back_9 : decode cX8_back 9 = .ok (.if_icmp .ge 12, 3) := by decide +kernel
theorem dX8_back_12 : decode cX8_back 12 = .ok (.iload_n 1, 1) := by decide +kernel
theorem dX8_back_13 : decode cX8_back 13 = .ok (.aload_n 0, 1) := by decide +kernel
theorem dX8_back_14 : decode cX8_back 14 = .ok (.getfield 51, 3) := by decide +kernel
theorem dX8_back_17 : decode cX8_back 17 = .ok (.arraylength, 1) := by decide +kernel
theorem dX8_back_18 : decode cX8_back 18 = .ok (.if_icmp .lt 5, 3) := by decide +kernel
theorem dX8_back_21 : decode cX8_back 21 = .ok (.iconst 0, 1) := by decide +kernel
theorem dX8_back_22 : decode cX8_back 22 = .ok (.ireturn, 1) := by decide +kernel
theorem dX8_back_23 : decode cX8_back 23 = .ok (.aload_n 0, 1) := by decide +kernel
theorem dX8_back_24 : decode cX8_back 24 = .ok (.getfield 47, 3) := by decide +kernel
theorem dX8_back_27 : decode cX8_back 27 = .ok (.aload_n 0, 1) := by decide +kernel
theorem dX8_back_28 : decode cX8_back 28 = .ok (.getfield 51, 3) := by decide +kernel
theorem dX8_back_31 : decode cX8_back 31 = .ok (.iload_n 1, 1) := by decide +kernel
theorem dX8_back_32 : decode cX8_back 32 = .ok (.aaload, 1) := by decide +kernel
theorem dX8_back_33 : decode cX8_back 33 = .ok (.invokevirtual 323, 3) := by decide +kernel
theorem dX8_back_36 : decode cX8_back 36 = .ok (.aload_n 0, 1) := by decide +kernel
theorem dX8_back_37 : decode cX8_back 37 = .ok (.getfield 64, 3) := by decide +kernel
theorem dX8_back_40 : decode cX8_back 40 = .ok (.invokevirtual 117, 3) := by decide +kernel
theorem dX8_back_43 : decode cX8_back 43 = .ok (.iconst 1, 1) := by decide +kernel
theorem dX8_back_44 : decode cX8_back 44 = .ok (.ireturn, 1) := by decide +kernel
theorem dX8_count_0 : decode cX8_count 0 = .ok (.iload_n 1, 1) := by decide +kernel
theorem dX8_count_1 : decode cX8_count 1 = .ok (.tableswitch 136 0 8 #[51, 56, 61, 69, 77, 82, 90, 106, 128], 51) := by decide +kernel
theorem dX8_count_52 : decode cX8_count 52 = .ok (.aload_n 0, 1) := by decide +kernel
theorem dX8_count_53 : decode cX8_count 53 = .ok (.getfield 93, 3) := by decide +kernel
theorem dX8_count_56 : decode cX8_count 56 = .ok (.ireturn, 1) := by decide +kernel
theorem dX8_count_57 : decode cX8_count 57 = .ok (.aload_n 0, 1) := by decide +kernel
theorem dX8_count_58 : decode cX8_count 58 = .ok (.getfield 86, 3) := by decide +kernel
theorem dX8_count_61 : decode cX8_count 61 = .ok (.ireturn, 1) := by decide +kernel
theorem dX8_count_62 : decode cX8_count 62 = .ok (.aload_n 0, 1) := by decide +kernel
theorem dX8_count_63 : decode cX8_count 63 = .ok (.getfield 43, 3) := by decide +kernel
theorem dX8_count_66 : decode cX8_count 66 = .ok (.getfield 326, 3) := by decide +kernel
theorem dX8_count_69 : decode cX8_count 69 = .ok (.ireturn, 1) := by decide +kernel
theorem dX8_count_70 : decode cX8_count 70 = .ok (.aload_n 0, 1) := by decide +kernel
theorem dX8_count_71 : decode cX8_count 71 = .ok (.getfield 47, 3) := by decide +kernel
theorem dX8_count_74 : decode cX8_count 74 = .ok (.getfield 299, 3) := by decide +kernel
theorem dX8_count_77 : decode cX8_count 77 = .ok (.ireturn, 1) := by decide +kernel
theorem dX8_count_78 : decode cX8_count 78 = .ok (.aload_n 0, 1) := by decide +kernel
theorem dX8_count_79 : decode cX8_count 79 = .ok (.getfield 96, 3) := by decide +kernel
theorem dX8_count_82 : decode cX8_count 82 = .ok (.ireturn, 1) := by decide +kernel
theorem dX8_count_83 : decode cX8_count 83 = .ok (.aload_n 0, 1) := by decide +kernel
theorem dX8_count_84 : decode cX8_count 84 = .ok (.getfield 47, 3) := by decide +kernel
theorem dX8_count_87 : decode cX8_count 87 = .ok (.getfield 154, 3) := by decide +kernel
theorem dX8_count_90 : decode cX8_count 90 = .ok (.ireturn, 1) := by decide +kernel
theorem dX8_count_91 : decode cX8_count 91 = .ok (.aload_n 0, 1) := by decide +kernel
theorem dX8_count_92 : decode cX8_count 92 = .ok (.getfield 55, 3) := by decide +kernel
theorem dX8_count_95 : decode cX8_count 95 = .ok (.invokevirtual 173, 3) := by decide +kernel
theorem dX8_count_98 : decode cX8_count 98 = .ok (.ifCond .eq 7, 3) := by decide +kernel
theorem dX8_count_101 : decode cX8_count 101 = .ok (.iconst 1, 1) := by decide +kernel
theorem dX8_count_102 : decode cX8_count 102 = .ok (.goto 4, 3) := by decide +kernel
theorem dX8_count_105 : decode cX8_count 105 = .ok (.iconst 0, 1) := by decide +kernel
theorem dX8_count_106 : decode cX8_count 106 = .ok (.ireturn, 1) := by decide +kernel
theorem dX8_count_107 : decode cX8_count 107 = .ok (.aload_n 0, 1) := by decide +kernel
theorem dX8_count_108 : decode cX8_count 108 = .ok (.getfield 55, 3) := by decide +kernel
theorem dX8_count_111 : decode cX8_count 111 = .ok (.invokevirtual 173, 3) := by decide +kernel
theorem dX8_count_114 : decode cX8_count 114 = .ok (.ifCond .eq 13, 3) := by decide +kernel
theorem dX8_count_117 : decode cX8_count 117 = .ok (.aload_n 0, 1) := by decide +kernel
theorem dX8_count_118 : decode cX8_count 118 = .ok (.getfield 55, 3) := by decide +kernel
theorem dX8_count_121 : decode cX8_count 121 = .ok (.invokevirtual 329, 3) := by decide +kernel
theorem dX8_count_124 : decode cX8_count 124 = .ok (.goto 4, 3) := by decide +kernel
theorem dX8_count_127 : decode cX8_count 127 = .ok (.iconst 0, 1) := by decide +kernel
theorem dX8_count_128 : decode cX8_count 128 = .ok (.ireturn, 1) := by decide +kernel
theorem dX8_count_129 : decode cX8_count 129 = .ok (.aload_n 0, 1) := by decide +kernel
theorem dX8_count_130 : decode cX8_count 130 = .ok (.getfield 27, 3) := by decide +kernel
theorem dX8_count_133 : decode cX8_count 133 = .ok (.invokevirtual 332, 3) := by decide +kernel
theorem dX8_count_136 : decode cX8_count 136 = .ok (.ireturn, 1) := by decide +kernel
theorem dX8_count_137 : decode cX8_count 137 = .ok (.iconst (-1), 1) := by decide +kernel
theorem dX8_count_138 : decode cX8_count 138 = .ok (.ireturn, 1) := by decide +kernel

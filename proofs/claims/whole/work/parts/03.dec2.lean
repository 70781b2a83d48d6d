theorem dX0_init_0 : decode cX0_init 0 = .ok (.aload_n 0, 1) := by decide +kernel
theorem dX0_init_1 : decode cX0_init 1 = .ok (.invokespecial 3, 3) := by decide +kernel
theorem dX0_init_4 : decode cX0_init 4 = .ok (.aload_n 0, 1) := by decide +kernel
theorem dX0_init_5 : decode cX0_init 5 = .ok (.aload_n 1, 1) := by decide +kernel
theorem dX0_init_6 : decode cX0_init 6 = .ok (.putfield 9, 3) := by decide +kernel
theorem dX0_init_9 : decode cX0_init 9 = .ok (.aload_n 0, 1) := by decide +kernel
theorem dX0_init_10 : decode cX0_init 10 = .ok (.aload_n 2, 1) := by decide +kernel
theorem dX0_init_11 : decode cX0_init 11 = .ok (.putfield 15, 3) := by decide +kernel
theorem dX0_init_14 : decode cX0_init 14 = .ok (.aload_n 0, 1) := by decide +kernel
theorem dX0_init_15 : decode cX0_init 15 = .ok (.aload_n 3, 1) := by decide +kernel
theorem dX0_init_16 : decode cX0_init 16 = .ok (.putfield 19, 3) := by decide +kernel
theorem dX0_init_19 : decode cX0_init 19 = .ok (.aload_n 0, 1) := by decide +kernel
theorem dX0_init_20 : decode cX0_init 20 = .ok (.iconst 4, 1) := by decide +kernel
theorem dX0_init_21 : decode cX0_init 21 = .ok (.newarray .int, 2) := by decide +kernel
theorem dX0_init_23 : decode cX0_init 23 = .ok (.putfield 23, 3) := by decide +kernel
theorem dX0_init_26 : decode cX0_init 26 = .ok (.aload_n 0, 1) := by decide +kernel
theorem dX0_init_27 : decode cX0_init 27 = .ok (.bipush 61, 2) := by decide +kernel
theorem dX0_init_29 : decode cX0_init 29 = .ok (.newarray .int, 2) := by decide +kernel
theorem dX0_init_31 : decode cX0_init 31 = .ok (.putfield 27, 3) := by decide +kernel
theorem dX0_init_34 : decode cX0_init 34 = .ok (.aload_n 0, 1) := by decide +kernel
theorem dX0_init_35 : decode cX0_init 35 = .ok (.iconst 0, 1) := by decide +kernel
theorem dX0_init_36 : decode cX0_init 36 = .ok (.putfield 30, 3) := by decide +kernel
theorem dX0_init_39 : decode cX0_init 39 = .ok (.aload_n 0, 1) := by decide +kernel
theorem dX0_init_40 : decode cX0_init 40 = .ok (.iconst 0, 1) := by decide +kernel
theorem dX0_init_41 : decode cX0_init 41 = .ok (.putfield 34, 3) := by decide +kernel
theorem dX0_init_44 : decode cX0_init 44 = .ok (.aload_n 0, 1) := by decide +kernel
theorem dX0_init_45 : decode cX0_init 45 = .ok (.iconst 0, 1) := by decide +kernel
theorem dX0_init_46 : decode cX0_init 46 = .ok (.putfield 37, 3) := by decide +kernel
theorem dX0_init_49 : decode cX0_init 49 = .ok (.return_, 1) := by decide +kernel
theorem dX0_go_0 : decode cX0_go 0 = .ok (.aload_n 0, 1) := by decide +kernel
theorem dX0_go_1 : decode cX0_go 1 = .ok (.invokevirtual 40, 3) := by decide +kernel
theorem dX0_go_4 : decode cX0_go 4 = .ok (.iconst 1, 1) := by decide +kernel
theorem dX0_go_5 : decode cX0_go 5 = .ok (.istore_n 2, 1) := by decide +kernel
theorem dX0_go_6 : decode cX0_go 6 = .ok (.iload_n 2, 1) := by decide +kernel
theorem dX0_go_7 : decode cX0_go 7 = .ok (.iload_n 1, 1) := by decide +kernel
theorem dX0_go_8 : decode cX0_go 8 = .ok (.if_icmp .gt 68, 3) := by decide +kernel
theorem dX0_go_11 : decode cX0_go 11 = .ok (.iload_n 2, 1) := by decide +kernel
theorem dX0_go_12 : decode cX0_go 12 = .ok (.aload_n 0, 1) := by decide +kernel
theorem dX0_go_13 : decode cX0_go 13 = .ok (.getfield 27, 3) := by decide +kernel
theorem dX0_go_16 : decode cX0_go 16 = .ok (.arraylength, 1) := by decide +kernel
theorem dX0_go_17 : decode cX0_go 17 = .ok (.if_icmp .ge 59, 3) := by decide +kernel
theorem dX0_go_20 : decode cX0_go 20 = .ok (.aload_n 0, 1) := by decide +kernel
theorem dX0_go_21 : decode cX0_go 21 = .ok (.iload_n 2, 1) := by decide +kernel
theorem dX0_go_22 : decode cX0_go 22 = .ok (.putfield 34, 3) := by decide +kernel
theorem dX0_go_25 : decode cX0_go 25 = .ok (.aload_n 0, 1) := by decide +kernel
theorem dX0_go_26 : decode cX0_go 26 = .ok (.invokevirtual 43, 3) := by decide +kernel
theorem dX0_go_29 : decode cX0_go 29 = .ok (.ifCond .ne 9, 3) := by decide +kernel
theorem dX0_go_32 : decode cX0_go 32 = .ok (.aload_n 0, 1) := by decide +kernel
theorem dX0_go_33 : decode cX0_go 33 = .ok (.iconst 0, 1) := by decide +kernel
theorem dX0_go_34 : decode cX0_go 34 = .ok (.putfield 30, 3) := by decide +kernel
theorem dX0_go_37 : decode cX0_go 37 = .ok (.return_, 1) := by decide +kernel
theorem dX0_go_38 : decode cX0_go 38 = .ok (.aload_n 0, 1) := by decide +kernel
theorem dX0_go_39 : decode cX0_go 39 = .ok (.getfield 27, 3) := by decide +kernel
theorem dX0_go_42 : decode cX0_go 42 = .ok (.iload_n 2, 1) := by decide +kernel
theorem dX0_go_43 : decode cX0_go 43 = .ok (.aload_n 0, 1) := by decide +kernel
theorem dX0_go_44 : decode cX0_go 44 = .ok (.invokevirtual 47, 3) := by decide +kernel
theorem dX0_go_47 : decode cX0_go 47 = .ok (.iastore, 1) := by decide +kernel
theorem dX0_go_48 : decode cX0_go 48 = .ok (.aload_n 0, 1) := by decide +kernel
theorem dX0_go_49 : decode cX0_go 49 = .ok (.aload_n 0, 1) := by decide +kernel
theorem dX0_go_50 : decode cX0_go 50 = .ok (.iload_n 2, 1) := by decide +kernel
theorem dX0_go_51 : decode cX0_go 51 = .ok (.invokevirtual 51, 3) := by decide +kernel
theorem dX0_go_54 : decode cX0_go 54 = .ok (.putfield 37, 3) := by decide +kernel
theorem dX0_go_57 : decode cX0_go 57 = .ok (.aload_n 0, 1) := by decide +kernel
theorem dX0_go_58 : decode cX0_go 58 = .ok (.getfield 37, 3) := by decide +kernel
theorem dX0_go_61 : decode cX0_go 61 = .ok (.ifCond .le 9, 3) := by decide +kernel
theorem dX0_go_64 : decode cX0_go 64 = .ok (.aload_n 0, 1) := by decide +kernel
theorem dX0_go_65 : decode cX0_go 65 = .ok (.iconst 1, 1) := by decide +kernel
theorem dX0_go_66 : decode cX0_go 66 = .ok (.putfield 30, 3) := by decide +kernel
theorem dX0_go_69 : decode cX0_go 69 = .ok (.return_, 1) := by decide +kernel
theorem dX0_go_70 : decode cX0_go 70 = .ok (.iinc 2 1, 3) := by decide +kernel
theorem dX0_go_73 : decode cX0_go 73 = .ok (.goto (-67), 3) := by decide +kernel
theorem dX0_go_76 : decode cX0_go 76 = .ok (.aload_n 0, 1) := by decide +kernel
theorem dX0_go_77 : decode cX0_go 77 = .ok (.iconst 2, 1) := by decide +kernel
theorem dX0_go_78 : decode cX0_go 78 = .ok (.putfield 30, 3) := by decide +kernel
theorem dX0_go_81 : decode cX0_go 81 = .ok (.return_, 1) := by decide +kernel
theorem dX0_begin_0 : decode cX0_begin 0 = .ok (.iconst 0, 1) := by decide +kernel
theorem dX0_begin_1 : decode cX0_begin 1 = .ok (.istore_n 1, 1) := by decide +kernel
theorem dX0_begin_2 : decode cX0_begin 2 = .ok (.iload_n 1, 1) := by decide +kernel
theorem dX0_begin_3 : decode cX0_begin 3 = .ok (.aload_n 0, 1) := by decide +kernel
theorem dX0_begin_4 : decode cX0_begin 4 = .ok (.getfield 9, 3) := by decide +kernel
theorem dX0_begin_7 : decode cX0_begin 7 = .ok (.getfield 55, 3) := by decide +kernel
theorem dX0_begin_10 : decode cX0_begin 10 = .ok (.if_icmp .ge 41, 3) := by decide +kernel
theorem dX0_begin_13 : decode cX0_begin 13 = .ok (.aload_n 0, 1) := by decide +kernel
theorem dX0_begin_14 : decode cX0_begin 14 = .ok (.getfield 23, 3) := by decide +kernel
theorem dX0_begin_17 : decode cX0_begin 17 = .ok (.iload_n 1, 1) := by decide +kernel
theorem dX0_begin_18 : decode cX0_begin 18 = .ok (.aload_n 0, 1) := by decide +kernel
theorem dX0_begin_19 : decode cX0_begin 19 = .ok (.getfield 15, 3) := by decide +kernel
theorem dX0_begin_22 : decode cX0_begin 22 = .ok (.getfield 60, 3) := by decide +kernel
theorem dX0_begin_25 : decode cX0_begin 25 = .ok (.iload_n 1, 1) := by decide +kernel
theorem dX0_begin_26 : decode cX0_begin 26 = .ok (.iaload, 1) := by decide +kernel
theorem dX0_begin_27 : decode cX0_begin 27 = .ok (.iconst 1, 1) := by decide +kernel
theorem dX0_begin_28 : decode cX0_begin 28 = .ok (.if_icmp .ne 15, 3) := by decide +kernel
theorem dX0_begin_31 : decode cX0_begin 31 = .ok (.aload_n 0, 1) := by decide +kernel
theorem dX0_begin_32 : decode cX0_begin 32 = .ok (.getfield 19, 3) := by decide +kernel
theorem dX0_begin_35 : decode cX0_begin 35 = .ok (.iload_n 1, 1) := by decide +kernel
theorem dX0_begin_36 : decode cX0_begin 36 = .ok (.iconst 0, 1) := by decide +kernel
theorem dX0_begin_37 : decode cX0_begin 37 = .ok (.invokevirtual 65, 3) := by decide +kernel
theorem dX0_begin_40 : decode cX0_begin 40 = .ok (.goto 4, 3) := by decide +kernel
theorem dX0_begin_43 : decode cX0_begin 43 = .ok (.iconst (-1), 1) := by decide +kernel
theorem dX0_begin_44 : decode cX0_begin 44 = .ok (.iastore, 1) := by decide +kernel
theorem dX0_begin_45 : decode cX0_begin 45 = .ok (.iinc 1 1, 3) := by decide +kernel
theorem dX0_begin_48 : decode cX0_begin 48 = .ok (.goto (-46), 3) := by decide +kernel
theorem dX0_begin_51 : decode cX0_begin 51 = .ok (.aload_n 0, 1) := by decide +kernel
theorem dX0_begin_52 : decode cX0_begin 52 = .ok (.getfield 27, 3) := by decide +kernel
theorem dX0_begin_55 : decode cX0_begin 55 = .ok (.iconst 0, 1) := by decide +kernel
theorem dX0_begin_56 : decode cX0_begin 56 = .ok (.aload_n 0, 1) := by decide +kernel
theorem dX0_begin_57 : decode cX0_begin 57 = .ok (.invokevirtual 47, 3) := by decide +kernel
theorem dX0_begin_60 : decode cX0_begin 60 = .ok (.iastore, 1) := by decide +kernel
theorem dX0_begin_61 : decode cX0_begin 61 = .ok (.aload_n 0, 1) := by decide +kernel
theorem dX0_begin_62 : decode cX0_begin 62 = .ok (.iconst 0, 1) := by decide +kernel
theorem dX0_begin_63 : decode cX0_begin 63 = .ok (.putfield 34, 3) := by decide +kernel
theorem dX0_begin_66 : decode cX0_begin 66 = .ok (.aload_n 0, 1) := by decide +kernel
theorem dX0_begin_67 : decode cX0_begin 67 = .ok (.iconst 0, 1) := by decide +kernel
theorem dX0_begin_68 : decode cX0_begin 68 = .ok (.putfield 37, 3) := by decide +kernel
theorem dX0_begin_71 : decode cX0_begin 71 = .ok (.return_, 1) := by decide +kernel
theorem dX0_round_0 : decode cX0_round 0 = .ok (.iconst 0, 1) := by decide +kernel
theorem dX0_round_1 : decode cX0_round 1 = .ok (.istore_n 1, 1) := by decide +kernel
theorem dX0_round_2 : decode cX0_round 2 = .ok (.iconst 0, 1) := by decide +kernel
theorem dX0_round_3 : decode cX0_round 3 = .ok (.istore_n 2, 1) := by decide +kernel
theorem dX0_round_4 : decode cX0_round 4 = .ok (.iload_n 2, 1) := by decide +kernel
theorem dX0_round_5 : decode cX0_round 5 = .ok (.aload_n 0, 1) := by decide +kernel
theorem dX0_round_6 : decode cX0_round 6 = .ok (.getfield 9, 3) := by decide +kernel
theorem dX0_round_9 : decode cX0_round 9 = .ok (.getfield 55, 3) := by decide +kernel
theorem dX0_round_12 : decode cX0_round 12 = .ok (.if_icmp .ge 41, 3) := by decide +kernel
theorem dX0_round_15 : decode cX0_round 15 = .ok (.aload_n 0, 1) := by decide +kernel
theorem dX0_round_16 : decode cX0_round 16 = .ok (.getfield 19, 3) := by decide +kernel
theorem dX0_round_19 : decode cX0_round 19 = .ok (.iload_n 2, 1) := by decide +kernel
theorem dX0_round_20 : decode cX0_round 20 = .ok (.invokevirtual 71, 3) := by decide +kernel
theorem dX0_round_23 : decode cX0_round 23 = .ok (.istore_n 3, 1) := by decide +kernel
theorem dX0_round_24 : decode cX0_round 24 = .ok (.iload_n 3, 1) := by decide +kernel
theorem dX0_round_25 : decode cX0_round 25 = .ok (.iconst (-1), 1) := by decide +kernel
theorem dX0_round_26 : decode cX0_round 26 = .ok (.if_icmp .eq 21, 3) := by decide +kernel
theorem dX0_round_29 : decode cX0_round 29 = .ok (.aload_n 0, 1) := by decide +kernel
theorem dX0_round_30 : decode cX0_round 30 = .ok (.getfield 19, 3) := by decide +kernel
theorem dX0_round_33 : decode cX0_round 33 = .ok (.iload_n 2, 1) := by decide +kernel
theorem dX0_round_34 : decode cX0_round 34 = .ok (.iload_n 3, 1) := by decide +kernel
theorem dX0_round_35 : decode cX0_round 35 = .ok (.invokevirtual 74, 3) := by decide +kernel
theorem dX0_round_38 : decode cX0_round 38 = .ok (.aload_n 0, 1) := by decide +kernel
theorem dX0_round_39 : decode cX0_round 39 = .ok (.getfield 23, 3) := by decide +kernel
theorem dX0_round_42 : decode cX0_round 42 = .ok (.iload_n 2, 1) := by decide +kernel
theorem dX0_round_43 : decode cX0_round 43 = .ok (.iload_n 3, 1) := by decide +kernel
theorem dX0_round_44 : decode cX0_round 44 = .ok (.iastore, 1) := by decide +kernel
theorem dX0_round_45 : decode cX0_round 45 = .ok (.iconst 1, 1) := by decide +kernel
theorem dX0_round_46 : decode cX0_round 46 = .ok (.istore_n 1, 1) := by decide +kernel
theorem dX0_round_47 : decode cX0_round 47 = .ok (.iinc 2 1, 3) := by decide +kernel
theorem dX0_round_50 : decode cX0_round 50 = .ok (.goto (-46), 3) := by decide +kernel
theorem dX0_round_53 : decode cX0_round 53 = .ok (.iload_n 1, 1) := by decide +kernel
theorem dX0_round_54 : decode cX0_round 54 = .ok (.ireturn, 1) := by decide +kernel
theorem dX0_code_0 : decode cX0_code 0 = .ok (.iconst 0, 1) := by decide +kernel
theorem dX0_code_1 : decode cX0_code 1 = .ok (.istore_n 1, 1) := by decide +kernel
theorem dX0_code_2 : decode cX0_code 2 = .ok (.iconst 0, 1) := by decide +kernel
theorem dX0_code_3 : decode cX0_code 3 = .ok (.istore_n 2, 1) := by decide +kernel
theorem dX0_code_4 : decode cX0_code 4 = .ok (.iload_n 2, 1) := by decide +kernel
theorem dX0_code_5 : decode cX0_code 5 = .ok (.aload_n 0, 1) := by decide +kernel
theorem dX0_code_6 : decode cX0_code 6 = .ok (.getfield 9, 3) := by decide +kernel
theorem dX0_code_9 : decode cX0_code 9 = .ok (.getfield 55, 3) := by decide +kernel
theorem dX0_code_12 : decode cX0_code 12 = .ok (.if_icmp .ge 23, 3) := by decide +kernel
theorem dX0_code_15 : decode cX0_code 15 = .ok (.iload_n 1, 1) := by decide +kernel
theorem dX0_code_16 : decode cX0_code 16 = .ok (.bipush 9, 2) := by decide +kernel
theorem dX0_code_18 : decode cX0_code 18 = .ok (.imul, 1) := by decide +kernel
theorem dX0_code_19 : decode cX0_code 19 = .ok (.aload_n 0, 1) := by decide +kernel
theorem dX0_code_20 : decode cX0_code 20 = .ok (.getfield 23, 3) := by decide +kernel
theorem dX0_code_23 : decode cX0_code 23 = .ok (.iload_n 2, 1) := by decide +kernel
theorem dX0_code_24 : decode cX0_code 24 = .ok (.iaload, 1) := by decide +kernel
theorem dX0_code_25 : decode cX0_code 25 = .ok (.iadd, 1) := by decide +kernel
theorem dX0_code_26 : decode cX0_code 26 = .ok (.iconst 1, 1) := by decide +kernel
theorem dX0_code_27 : decode cX0_code 27 = .ok (.iadd, 1) := by decide +kernel
theorem dX0_code_28 : decode cX0_code 28 = .ok (.istore_n 1, 1) := by decide +kernel
theorem dX0_code_29 : decode cX0_code 29 = .ok (.iinc 2 1, 3) := by decide +kernel
theorem dX0_code_32 : decode cX0_code 32 = .ok (.goto (-28), 3) := by decide +kernel
theorem dX0_code_35 : decode cX0_code 35 = .ok (.iload_n 1, 1) := by decide +kernel
theorem dX0_code_36 : decode cX0_code 36 = .ok (.ireturn, 1) := by decide +kernel
theorem dX0_roundsSince_0 : decode cX0_roundsSince 0 = .ok (.iconst 0, 1) := by decide +kernel
theorem dX0_roundsSince_1 : decode cX0_roundsSince 1 = .ok (.istore_n 2, 1) := by decide +kernel
theorem dX0_roundsSince_2 : decode cX0_roundsSince 2 = .ok (.iload_n 2, 1) := by decide +kernel
theorem dX0_roundsSince_3 : decode cX0_roundsSince 3 = .ok (.iload_n 1, 1) := by decide +kernel
theorem dX0_roundsSince_4 : decode cX0_roundsSince 4 = .ok (.if_icmp .ge 28, 3) := by decide +kernel
theorem dX0_roundsSince_7 : decode cX0_roundsSince 7 = .ok (.aload_n 0, 1) := by decide +kernel
theorem dX0_roundsSince_8 : decode cX0_roundsSince 8 = .ok (.getfield 27, 3) := by decide +kernel
theorem dX0_roundsSince_11 : decode cX0_roundsSince 11 = .ok (.iload_n 2, 1) := by decide +kernel
theorem dX0_roundsSince_12 : decode cX0_roundsSince 12 = .ok (.iaload, 1) := by decide +kernel
theorem dX0_roundsSince_13 : decode cX0_roundsSince 13 = .ok (.aload_n 0, 1) := by decide +kernel
theorem dX0_roundsSince_14 : decode cX0_roundsSince 14 = .ok (.getfield 27, 3) := by decide +kernel
theorem dX0_roundsSince_17 : decode cX0_roundsSince 17 = .ok (.iload_n 1, 1) := by decide +kernel
theorem dX0_roundsSince_18 : decode cX0_roundsSince 18 = .ok (.iaload, 1) := by decide +kernel
theorem dX0_roundsSince_19 : decode cX0_roundsSince 19 = .ok (.if_icmp .ne 7, 3) := by decide +kernel
theorem dX0_roundsSince_22 : decode cX0_roundsSince 22 = .ok (.iload_n 1, 1) := by decide +kernel
theorem dX0_roundsSince_23 : decode cX0_roundsSince 23 = .ok (.iload_n 2, 1) := by decide +kernel
theorem dX0_roundsSince_24 : decode cX0_roundsSince 24 = .ok (.isub, 1) := by decide +kernel
theorem dX0_roundsSince_25 : decode cX0_roundsSince 25 = .ok (.ireturn, 1) := by decide +kernel
theorem dX0_roundsSince_26 : decode cX0_roundsSince 26 = .ok (.iinc 2 1, 3) := by decide +kernel
theorem dX0_roundsSince_29 : decode cX0_roundsSince 29 = .ok (.goto (-27), 3) := by decide +kernel
theorem dX0_roundsSince_32 : decode cX0_roundsSince 32 = .ok (.iconst 0, 1) := by decide +kernel
theorem dX0_roundsSince_33 : decode cX0_roundsSince 33 = .ok (.ireturn, 1) := by decide +kernel
theorem dX1_init_0 : decode cX1_init 0 = .ok (.aload_n 0, 1) := by decide +kernel
theorem dX1_init_1 : decode cX1_init 1 = .ok (.invokespecial 3, 3) := by decide +kernel
theorem dX1_init_4 : decode cX1_init 4 = .ok (.aload_n 0, 1) := by decide +kernel
theorem dX1_init_5 : decode cX1_init 5 = .ok (.aload_n 1, 1) := by decide +kernel
theorem dX1_init_6 : decode cX1_init 6 = .ok (.putfield 9, 3) := by decide +kernel
theorem dX1_init_9 : decode cX1_init 9 = .ok (.return_, 1) := by decide +kernel
theorem dX1_fill_0 : decode cX1_fill 0 = .ok (.aload_n 0, 1) := by decide +kernel
theorem dX1_fill_1 : decode cX1_fill 1 = .ok (.getfield 9, 3) := by decide +kernel
theorem dX1_fill_4 : decode cX1_fill 4 = .ok (.iload_n 1, 1) := by decide +kernel
theorem dX1_fill_5 : decode cX1_fill 5 = .ok (.iload_n 3, 1) := by decide +kernel
theorem dX1_fill_6 : decode cX1_fill 6 = .ok (.invokevirtual 15, 3) := by decide +kernel
theorem dX1_fill_9 : decode cX1_fill 9 = .ok (.aload_n 0, 1) := by decide +kernel
theorem dX1_fill_10 : decode cX1_fill 10 = .ok (.getfield 9, 3) := by decide +kernel
theorem dX1_fill_13 : decode cX1_fill 13 = .ok (.iload_n 2, 1) := by decide +kernel
theorem dX1_fill_14 : decode cX1_fill 14 = .ok (.invokevirtual 21, 3) := by decide +kernel
theorem dX1_fill_17 : decode cX1_fill 17 = .ok (.aload_n 0, 1) := by decide +kernel
theorem dX1_fill_18 : decode cX1_fill 18 = .ok (.aload_n 0, 1) := by decide +kernel
theorem dX1_fill_19 : decode cX1_fill 19 = .ok (.getfield 9, 3) := by decide +kernel
theorem dX1_fill_22 : decode cX1_fill 22 = .ok (.iload_n 2, 1) := by decide +kernel
theorem dX1_fill_23 : decode cX1_fill 23 = .ok (.iload_n 3, 1) := by decide +kernel
theorem dX1_fill_24 : decode cX1_fill 24 = .ok (.invokevirtual 25, 3) := by decide +kernel
theorem dX1_fill_27 : decode cX1_fill 27 = .ok (.putfield 29, 3) := by decide +kernel
theorem dX1_fill_30 : decode cX1_fill 30 = .ok (.aload_n 0, 1) := by decide +kernel
theorem dX1_fill_31 : decode cX1_fill 31 = .ok (.aload_n 0, 1) := by decide +kernel
theorem dX1_fill_32 : decode cX1_fill 32 = .ok (.getfield 9, 3) := by decide +kernel
theorem dX1_fill_35 : decode cX1_fill 35 = .ok (.iload_n 2, 1) := by decide +kernel
theorem dX1_fill_36 : decode cX1_fill 36 = .ok (.iload 4, 2) := by decide +kernel
theorem dX1_fill_38 : decode cX1_fill 38 = .ok (.invokevirtual 25, 3) := by decide +kernel
theorem dX1_fill_41 : decode cX1_fill 41 = .ok (.putfield 33, 3) := by decide +kernel
theorem dX1_fill_44 : decode cX1_fill 44 = .ok (.aload_n 0, 1) := by decide +kernel
theorem dX1_fill_45 : decode cX1_fill 45 = .ok (.getfield 9, 3) := by decide +kernel
theorem dX1_fill_48 : decode cX1_fill 48 = .ok (.iload_n 1, 1) := by decide +kernel
theorem dX1_fill_49 : decode cX1_fill 49 = .ok (.iload 4, 2) := by decide +kernel
theorem dX1_fill_51 : decode cX1_fill 51 = .ok (.invokevirtual 15, 3) := by decide +kernel
theorem dX1_fill_54 : decode cX1_fill 54 = .ok (.aload_n 0, 1) := by decide +kernel
theorem dX1_fill_55 : decode cX1_fill 55 = .ok (.getfield 9, 3) := by decide +kernel
theorem dX1_fill_58 : decode cX1_fill 58 = .ok (.iload_n 2, 1) := by decide +kernel
theorem dX1_fill_59 : decode cX1_fill 59 = .ok (.invokevirtual 21, 3) := by decide +kernel
theorem dX1_fill_62 : decode cX1_fill 62 = .ok (.aload_n 0, 1) := by decide +kernel
theorem dX1_fill_63 : decode cX1_fill 63 = .ok (.aload_n 0, 1) := by decide +kernel
theorem dX1_fill_64 : decode cX1_fill 64 = .ok (.getfield 9, 3) := by decide +kernel
theorem dX1_fill_67 : decode cX1_fill 67 = .ok (.iload_n 2, 1) := by decide +kernel
theorem dX1_fill_68 : decode cX1_fill 68 = .ok (.iload_n 3, 1) := by decide +kernel
theorem dX1_fill_69 : decode cX1_fill 69 = .ok (.invokevirtual 25, 3) := by decide +kernel
theorem dX1_fill_72 : decode cX1_fill 72 = .ok (.putfield 36, 3) := by decide +kernel
theorem dX1_fill_75 : decode cX1_fill 75 = .ok (.aload_n 0, 1) := by decide +kernel
theorem dX1_fill_76 : decode cX1_fill 76 = .ok (.aload_n 0, 1) := by decide +kernel
theorem dX1_fill_77 : decode cX1_fill 77 = .ok (.getfield 9, 3) := by decide +kernel
theorem dX1_fill_80 : decode cX1_fill 80 = .ok (.iload_n 2, 1) := by decide +kernel
theorem dX1_fill_81 : decode cX1_fill 81 = .ok (.iload 4, 2) := by decide +kernel
theorem dX1_fill_83 : decode cX1_fill 83 = .ok (.invokevirtual 25, 3) := by decide +kernel
theorem dX1_fill_86 : decode cX1_fill 86 = .ok (.putfield 39, 3) := by decide +kernel
theorem dX1_fill_89 : decode cX1_fill 89 = .ok (.aload_n 0, 1) := by decide +kernel
theorem dX1_fill_90 : decode cX1_fill 90 = .ok (.getfield 9, 3) := by decide +kernel
theorem dX1_fill_93 : decode cX1_fill 93 = .ok (.iload_n 2, 1) := by decide +kernel
theorem dX1_fill_94 : decode cX1_fill 94 = .ok (.iload_n 3, 1) := by decide +kernel
theorem dX1_fill_95 : decode cX1_fill 95 = .ok (.invokevirtual 15, 3) := by decide +kernel
theorem dX1_fill_98 : decode cX1_fill 98 = .ok (.aload_n 0, 1) := by decide +kernel
theorem dX1_fill_99 : decode cX1_fill 99 = .ok (.getfield 9, 3) := by decide +kernel
theorem dX1_fill_102 : decode cX1_fill 102 = .ok (.iload_n 1, 1) := by decide +kernel
theorem dX1_fill_103 : decode cX1_fill 103 = .ok (.invokevirtual 21, 3) := by decide +kernel
theorem dX1_fill_106 : decode cX1_fill 106 = .ok (.aload_n 0, 1) := by decide +kernel
theorem dX1_fill_107 : decode cX1_fill 107 = .ok (.aload_n 0, 1) := by decide +kernel
theorem dX1_fill_108 : decode cX1_fill 108 = .ok (.getfield 9, 3) := by decide +kernel
theorem dX1_fill_111 : decode cX1_fill 111 = .ok (.iload_n 1, 1) := by decide +kernel
theorem dX1_fill_112 : decode cX1_fill 112 = .ok (.iload_n 3, 1) := by decide +kernel
theorem dX1_fill_113 : decode cX1_fill 113 = .ok (.invokevirtual 25, 3) := by decide +kernel
theorem dX1_fill_116 : decode cX1_fill 116 = .ok (.putfield 42, 3) := by decide +kernel
theorem dX1_fill_119 : decode cX1_fill 119 = .ok (.aload_n 0, 1) := by decide +kernel
theorem dX1_fill_120 : decode cX1_fill 120 = .ok (.aload_n 0, 1) := by decide +kernel
theorem dX1_fill_121 : decode cX1_fill 121 = .ok (.getfield 9, 3) := by decide +kernel
theorem dX1_fill_124 : decode cX1_fill 124 = .ok (.iload_n 1, 1) := by decide +kernel
theorem dX1_fill_125 : decode cX1_fill 125 = .ok (.iload 4, 2) := by decide +kernel
theorem dX1_fill_127 : decode cX1_fill 127 = .ok (.invokevirtual 25, 3) := by decide +kernel
theorem dX1_fill_130 : decode cX1_fill 130 = .ok (.putfield 45, 3) := by decide +kernel
theorem dX1_fill_133 : decode cX1_fill 133 = .ok (.aload_n 0, 1) := by decide +kernel
theorem dX1_fill_134 : decode cX1_fill 134 = .ok (.getfield 9, 3) := by decide +kernel
theorem dX1_fill_137 : decode cX1_fill 137 = .ok (.iload_n 2, 1) := by decide +kernel
theorem dX1_fill_138 : decode cX1_fill 138 = .ok (.iload 4, 2) := by decide +kernel
theorem dX1_fill_140 : decode cX1_fill 140 = .ok (.invokevirtual 15, 3) := by decide +kernel
theorem dX1_fill_143 : decode cX1_fill 143 = .ok (.aload_n 0, 1) := by decide +kernel
theorem dX1_fill_144 : decode cX1_fill 144 = .ok (.getfield 9, 3) := by decide +kernel
theorem dX1_fill_147 : decode cX1_fill 147 = .ok (.iload_n 1, 1) := by decide +kernel
theorem dX1_fill_148 : decode cX1_fill 148 = .ok (.invokevirtual 21, 3) := by decide +kernel
theorem dX1_fill_151 : decode cX1_fill 151 = .ok (.aload_n 0, 1) := by decide +kernel
theorem dX1_fill_152 : decode cX1_fill 152 = .ok (.aload_n 0, 1) := by decide +kernel
theorem dX1_fill_153 : decode cX1_fill 153 = .ok (.getfield 9, 3) := by decide +kernel
theorem dX1_fill_156 : decode cX1_fill 156 = .ok (.iload_n 1, 1) := by decide +kernel
theorem dX1_fill_157 : decode cX1_fill 157 = .ok (.iload_n 3, 1) := by decide +kernel
theorem dX1_fill_158 : decode cX1_fill 158 = .ok (.invokevirtual 25, 3) := by decide +kernel
theorem dX1_fill_161 : decode cX1_fill 161 = .ok (.putfield 48, 3) := by decide +kernel
theorem dX1_fill_164 : decode cX1_fill 164 = .ok (.aload_n 0, 1) := by decide +kernel
theorem dX1_fill_165 : decode cX1_fill 165 = .ok (.aload_n 0, 1) := by decide +kernel
theorem dX1_fill_166 : decode cX1_fill 166 = .ok (.getfield 9, 3) := by decide +kernel
theorem dX1_fill_169 : decode cX1_fill 169 = .ok (.iload_n 1, 1) := by decide +kernel
theorem dX1_fill_170 : decode cX1_fill 170 = .ok (.iload 4, 2) := by decide +kernel
theorem dX1_fill_172 : decode cX1_fill 172 = .ok (.invokevirtual 25, 3) := by decide +kernel
theorem dX1_fill_175 : decode cX1_fill 175 = .ok (.putfield 51, 3) := by decide +kernel
theorem dX1_fill_178 : decode cX1_fill 178 = .ok (.return_, 1) := by decide +kernel
theorem dX1_hasRest_0 : decode cX1_hasRest 0 = .ok (.aload_n 0, 1) := by decide +kernel
theorem dX1_hasRest_1 : decode cX1_hasRest 1 = .ok (.getfield 42, 3) := by decide +kernel
theorem dX1_hasRest_4 : decode cX1_hasRest 4 = .ok (.aload_n 0, 1) := by decide +kernel
theorem dX1_hasRest_5 : decode cX1_hasRest 5 = .ok (.getfield 45, 3) := by decide +kernel
theorem dX1_hasRest_8 : decode cX1_hasRest 8 = .ok (.lcmp, 1) := by decide +kernel
theorem dX1_hasRest_9 : decode cX1_hasRest 9 = .ok (.ifCond .lt 15, 3) := by decide +kernel
theorem dX1_hasRest_12 : decode cX1_hasRest 12 = .ok (.aload_n 0, 1) := by decide +kernel
theorem dX1_hasRest_13 : decode cX1_hasRest 13 = .ok (.getfield 29, 3) := by decide +kernel
theorem dX1_hasRest_16 : decode cX1_hasRest 16 = .ok (.aload_n 0, 1) := by decide +kernel
theorem dX1_hasRest_17 : decode cX1_hasRest 17 = .ok (.getfield 33, 3) := by decide +kernel
theorem dX1_hasRest_20 : decode cX1_hasRest 20 = .ok (.lcmp, 1) := by decide +kernel
theorem dX1_hasRest_21 : decode cX1_hasRest 21 = .ok (.ifCond .ge 75, 3) := by decide +kernel
theorem dX1_hasRest_24 : decode cX1_hasRest 24 = .ok (.aload_n 0, 1) := by decide +kernel
theorem dX1_hasRest_25 : decode cX1_hasRest 25 = .ok (.getfield 48, 3) := by decide +kernel
theorem dX1_hasRest_28 : decode cX1_hasRest 28 = .ok (.aload_n 0, 1) := by decide +kernel
theorem dX1_hasRest_29 : decode cX1_hasRest 29 = .ok (.getfield 51, 3) := by decide +kernel
theorem dX1_hasRest_32 : decode cX1_hasRest 32 = .ok (.lcmp, 1) := by decide +kernel
theorem dX1_hasRest_33 : decode cX1_hasRest 33 = .ok (.ifCond .lt 15, 3) := by decide +kernel
theorem dX1_hasRest_36 : decode cX1_hasRest 36 = .ok (.aload_n 0, 1) := by decide +kernel
theorem dX1_hasRest_37 : decode cX1_hasRest 37 = .ok (.getfield 33, 3) := by decide +kernel
theorem dX1_hasRest_40 : decode cX1_hasRest 40 = .ok (.aload_n 0, 1) := by decide +kernel
theorem dX1_hasRest_41 : decode cX1_hasRest 41 = .ok (.getfield 29, 3) := by decide +kernel
theorem dX1_hasRest_44 : decode cX1_hasRest 44 = .ok (.lcmp, 1) := by decide +kernel
theorem dX1_hasRest_45 : decode cX1_hasRest 45 = .ok (.ifCond .ge 51, 3) := by decide +kernel
theorem dX1_hasRest_48 : decode cX1_hasRest 48 = .ok (.aload_n 0, 1) := by decide +kernel
theorem dX1_hasRest_49 : decode cX1_hasRest 49 = .ok (.getfield 45, 3) := by decide +kernel
theorem dX1_hasRest_52 : decode cX1_hasRest 52 = .ok (.aload_n 0, 1) := by decide +kernel
theorem dX1_hasRest_53 : decode cX1_hasRest 53 = .ok (.getfield 42, 3) := by decide +kernel
theorem dX1_hasRest_56 : decode cX1_hasRest 56 = .ok (.lcmp, 1) := by decide +kernel
theorem dX1_hasRest_57 : decode cX1_hasRest 57 = .ok (.ifCond .lt 15, 3) := by decide +kernel
theorem dX1_hasRest_60 : decode cX1_hasRest 60 = .ok (.aload_n 0, 1) := by decide +kernel
theorem dX1_hasRest_61 : decode cX1_hasRest 61 = .ok (.getfield 36, 3) := by decide +kernel
theorem dX1_hasRest_64 : decode cX1_hasRest 64 = .ok (.aload_n 0, 1) := by decide +kernel
theorem dX1_hasRest_65 : decode cX1_hasRest 65 = .ok (.getfield 39, 3) := by decide +kernel
theorem dX1_hasRest_68 : decode cX1_hasRest 68 = .ok (.lcmp, 1) := by decide +kernel
theorem dX1_hasRest_69 : decode cX1_hasRest 69 = .ok (.ifCond .ge 27, 3) := by decide +kernel
theorem dX1_hasRest_72 : decode cX1_hasRest 72 = .ok (.aload_n 0, 1) := by decide +kernel
theorem dX1_hasRest_73 : decode cX1_hasRest 73 = .ok (.getfield 51, 3) := by decide +kernel
theorem dX1_hasRest_76 : decode cX1_hasRest 76 = .ok (.aload_n 0, 1) := by decide +kernel
theorem dX1_hasRest_77 : decode cX1_hasRest 77 = .ok (.getfield 48, 3) := by decide +kernel
theorem dX1_hasRest_80 : decode cX1_hasRest 80 = .ok (.lcmp, 1) := by decide +kernel
theorem dX1_hasRest_81 : decode cX1_hasRest 81 = .ok (.ifCond .lt 19, 3) := by decide +kernel
theorem dX1_hasRest_84 : decode cX1_hasRest 84 = .ok (.aload_n 0, 1) := by decide +kernel
theorem dX1_hasRest_85 : decode cX1_hasRest 85 = .ok (.getfield 39, 3) := by decide +kernel
theorem dX1_hasRest_88 : decode cX1_hasRest 88 = .ok (.aload_n 0, 1) := by decide +kernel
theorem dX1_hasRest_89 : decode cX1_hasRest 89 = .ok (.getfield 36, 3) := by decide +kernel
theorem dX1_hasRest_92 : decode cX1_hasRest 92 = .ok (.lcmp, 1) := by decide +kernel
theorem dX1_hasRest_93 : decode cX1_hasRest 93 = .ok (.ifCond .lt 7, 3) := by decide +kernel
theorem dX1_hasRest_96 : decode cX1_hasRest 96 = .ok (.iconst 1, 1) := by decide +kernel
theorem dX1_hasRest_97 : decode cX1_hasRest 97 = .ok (.goto 4, 3) := by decide +kernel
theorem dX1_hasRest_100 : decode cX1_hasRest 100 = .ok (.iconst 0, 1) := by decide +kernel
theorem dX1_hasRest_101 : decode cX1_hasRest 101 = .ok (.ireturn, 1) := by decide +kernel
theorem dX1_share_0 : decode cX1_share 0 = .ok (.iload_n 1, 1) := by decide +kernel
theorem dX1_share_1 : decode cX1_share 1 = .ok (.iconst 2, 1) := by decide +kernel
theorem dX1_share_2 : decode cX1_share 2 = .ok (.if_icmp .ge 15, 3) := by decide +kernel
theorem dX1_share_5 : decode cX1_share 5 = .ok (.aload_n 0, 1) := by decide +kernel
theorem dX1_share_6 : decode cX1_share 6 = .ok (.getfield 39, 3) := by decide +kernel
theorem dX1_share_9 : decode cX1_share 9 = .ok (.aload_n 0, 1) := by decide +kernel
theorem dX1_share_10 : decode cX1_share 10 = .ok (.getfield 36, 3) := by decide +kernel
theorem dX1_share_13 : decode cX1_share 13 = .ok (.lsub, 1) := by decide +kernel
theorem dX1_share_14 : decode cX1_share 14 = .ok (.goto 12, 3) := by decide +kernel
theorem dX1_share_17 : decode cX1_share 17 = .ok (.aload_n 0, 1) := by decide +kernel
theorem dX1_share_18 : decode cX1_share 18 = .ok (.getfield 51, 3) := by decide +kernel
theorem dX1_share_21 : decode cX1_share 21 = .ok (.aload_n 0, 1) := by decide +kernel
theorem dX1_share_22 : decode cX1_share 22 = .ok (.getfield 48, 3) := by decide +kernel
theorem dX1_share_25 : decode cX1_share 25 = .ok (.lsub, 1) := by decide +kernel
theorem dX1_share_26 : decode cX1_share 26 = .ok (.lstore_n 2, 1) := by decide +kernel
theorem dX1_share_27 : decode cX1_share 27 = .ok (.iload_n 1, 1) := by decide +kernel
theorem dX1_share_28 : decode cX1_share 28 = .ok (.iconst 2, 1) := by decide +kernel
theorem dX1_share_29 : decode cX1_share 29 = .ok (.if_icmp .ge 25, 3) := by decide +kernel
theorem dX1_share_32 : decode cX1_share 32 = .ok (.aload_n 0, 1) := by decide +kernel
theorem dX1_share_33 : decode cX1_share 33 = .ok (.getfield 29, 3) := by decide +kernel
theorem dX1_share_36 : decode cX1_share 36 = .ok (.aload_n 0, 1) := by decide +kernel
theorem dX1_share_37 : decode cX1_share 37 = .ok (.getfield 33, 3) := by decide +kernel
theorem dX1_share_40 : decode cX1_share 40 = .ok (.lsub, 1) := by decide +kernel
theorem dX1_share_41 : decode cX1_share 41 = .ok (.aload_n 0, 1) := by decide +kernel
theorem dX1_share_42 : decode cX1_share 42 = .ok (.getfield 36, 3) := by decide +kernel
theorem dX1_share_45 : decode cX1_share 45 = .ok (.lsub, 1) := by decide +kernel
theorem dX1_share_46 : decode cX1_share 46 = .ok (.aload_n 0, 1) := by decide +kernel
theorem dX1_share_47 : decode cX1_share 47 = .ok (.getfield 39, 3) := by decide +kernel
theorem dX1_share_50 : decode cX1_share 50 = .ok (.ladd, 1) := by decide +kernel
theorem dX1_share_51 : decode cX1_share 51 = .ok (.goto 22, 3) := by decide +kernel
theorem dX1_share_54 : decode cX1_share 54 = .ok (.aload_n 0, 1) := by decide +kernel
theorem dX1_share_55 : decode cX1_share 55 = .ok (.getfield 42, 3) := by decide +kernel
theorem dX1_share_58 : decode cX1_share 58 = .ok (.aload_n 0, 1) := by decide +kernel
theorem dX1_share_59 : decode cX1_share 59 = .ok (.getfield 48, 3) := by decide +kernel
theorem dX1_share_62 : decode cX1_share 62 = .ok (.lsub, 1) := by decide +kernel
theorem dX1_share_63 : decode cX1_share 63 = .ok (.aload_n 0, 1) := by decide +kernel
theorem dX1_share_64 : decode cX1_share 64 = .ok (.getfield 45, 3) := by decide +kernel
theorem dX1_share_67 : decode cX1_share 67 = .ok (.lsub, 1) := by decide +kernel
theorem dX1_share_68 : decode cX1_share 68 = .ok (.aload_n 0, 1) := by decide +kernel
theorem dX1_share_69 : decode cX1_share 69 = .ok (.getfield 51, 3) := by decide +kernel
theorem dX1_share_72 : decode cX1_share 72 = .ok (.ladd, 1) := by decide +kernel
theorem dX1_share_73 : decode cX1_share 73 = .ok (.lstore 4, 2) := by decide +kernel
theorem dX1_share_75 : decode cX1_share 75 = .ok (.lload_n 2, 1) := by decide +kernel
theorem dX1_share_76 : decode cX1_share 76 = .ok (.invokestatic 54, 3) := by decide +kernel
theorem dX1_share_79 : decode cX1_share 79 = .ok (.lload 4, 2) := by decide +kernel
theorem dX1_share_81 : decode cX1_share 81 = .ok (.invokestatic 54, 3) := by decide +kernel
theorem dX1_share_84 : decode cX1_share 84 = .ok (.invokestatic 60, 3) := by decide +kernel
theorem dX1_share_87 : decode cX1_share 87 = .ok (.lstore 6, 2) := by decide +kernel
theorem dX1_share_89 : decode cX1_share 89 = .ok (.lload 6, 2) := by decide +kernel
theorem dX1_share_91 : decode cX1_share 91 = .ok (.lconst 0, 1) := by decide +kernel
theorem dX1_share_92 : decode cX1_share 92 = .ok (.lcmp, 1) := by decide +kernel
theorem dX1_share_93 : decode cX1_share 93 = .ok (.ifCond .ne 7, 3) := by decide +kernel
theorem dX1_share_96 : decode cX1_share 96 = .ok (.ldc2_w 64, 3) := by decide +kernel
theorem dX1_share_99 : decode cX1_share 99 = .ok (.lreturn, 1) := by decide +kernel
theorem dX1_share_100 : decode cX1_share 100 = .ok (.lload 4, 2) := by decide +kernel
theorem dX1_share_102 : decode cX1_share 102 = .ok (.lconst 0, 1) := by decide +kernel
theorem dX1_share_103 : decode cX1_share 103 = .ok (.lcmp, 1) := by decide +kernel
theorem dX1_share_104 : decode cX1_share 104 = .ok (.ifCond .ge 8, 3) := by decide +kernel
theorem dX1_share_107 : decode cX1_share 107 = .ok (.lload 6, 2) := by decide +kernel
theorem dX1_share_109 : decode cX1_share 109 = .ok (.lneg, 1) := by decide +kernel
theorem dX1_share_110 : decode cX1_share 110 = .ok (.lstore 6, 2) := by decide +kernel
theorem dX1_share_112 : decode cX1_share 112 = .ok (.iload_n 1, 1) := by decide +kernel
theorem dX1_share_113 : decode cX1_share 113 = .ok (.iconst 2, 1) := by decide +kernel
theorem dX1_share_114 : decode cX1_share 114 = .ok (.irem, 1) := by decide +kernel
theorem dX1_share_115 : decode cX1_share 115 = .ok (.ifCond .ne 10, 3) := by decide +kernel
theorem dX1_share_118 : decode cX1_share 118 = .ok (.lload_n 2, 1) := by decide +kernel
theorem dX1_share_119 : decode cX1_share 119 = .ok (.lload 6, 2) := by decide +kernel
theorem dX1_share_121 : decode cX1_share 121 = .ok (.ldiv, 1) := by decide +kernel
theorem dX1_share_122 : decode cX1_share 122 = .ok (.goto 8, 3) := by decide +kernel
theorem dX1_share_125 : decode cX1_share 125 = .ok (.lload 4, 2) := by decide +kernel
theorem dX1_share_127 : decode cX1_share 127 = .ok (.lload 6, 2) := by decide +kernel
theorem dX1_share_129 : decode cX1_share 129 = .ok (.ldiv, 1) := by decide +kernel
theorem dX1_share_130 : decode cX1_share 130 = .ok (.lreturn, 1) := by decide +kernel
theorem dX1_divisorOf_0 : decode cX1_divisorOf 0 = .ok (.lload_n 0, 1) := by decide +kernel
theorem dX1_divisorOf_1 : decode cX1_divisorOf 1 = .ok (.lstore 4, 2) := by decide +kernel
theorem dX1_divisorOf_3 : decode cX1_divisorOf 3 = .ok (.lload_n 2, 1) := by decide +kernel
theorem dX1_divisorOf_4 : decode cX1_divisorOf 4 = .ok (.lstore 6, 2) := by decide +kernel
theorem dX1_divisorOf_6 : decode cX1_divisorOf 6 = .ok (.iconst 0, 1) := by decide +kernel
theorem dX1_divisorOf_7 : decode cX1_divisorOf 7 = .ok (.istore 8, 2) := by decide +kernel
theorem dX1_divisorOf_9 : decode cX1_divisorOf 9 = .ok (.iload 8, 2) := by decide +kernel
theorem dX1_divisorOf_11 : decode cX1_divisorOf 11 = .ok (.sipush 1000, 3) := by decide +kernel
theorem dX1_divisorOf_14 : decode cX1_divisorOf 14 = .ok (.if_icmp .ge 31, 3) := by decide +kernel
theorem dX1_divisorOf_17 : decode cX1_divisorOf 17 = .ok (.lload 6, 2) := by decide +kernel
theorem dX1_divisorOf_19 : decode cX1_divisorOf 19 = .ok (.lconst 0, 1) := by decide +kernel
theorem dX1_divisorOf_20 : decode cX1_divisorOf 20 = .ok (.lcmp, 1) := by decide +kernel
theorem dX1_divisorOf_21 : decode cX1_divisorOf 21 = .ok (.ifCond .eq 24, 3) := by decide +kernel
theorem dX1_divisorOf_24 : decode cX1_divisorOf 24 = .ok (.lload 4, 2) := by decide +kernel
theorem dX1_divisorOf_26 : decode cX1_divisorOf 26 = .ok (.lload 6, 2) := by decide +kernel
theorem dX1_divisorOf_28 : decode cX1_divisorOf 28 = .ok (.lrem, 1) := by decide +kernel
theorem dX1_divisorOf_29 : decode cX1_divisorOf 29 = .ok (.lstore 9, 2) := by decide +kernel
theorem dX1_divisorOf_31 : decode cX1_divisorOf 31 = .ok (.lload 6, 2) := by decide +kernel
theorem dX1_divisorOf_33 : decode cX1_divisorOf 33 = .ok (.lstore 4, 2) := by decide +kernel
theorem dX1_divisorOf_35 : decode cX1_divisorOf 35 = .ok (.lload 9, 2) := by decide +kernel
theorem dX1_divisorOf_37 : decode cX1_divisorOf 37 = .ok (.lstore 6, 2) := by decide +kernel
theorem dX1_divisorOf_39 : decode cX1_divisorOf 39 = .ok (.iinc 8 1, 3) := by decide +kernel
theorem dX1_divisorOf_42 : decode cX1_divisorOf 42 = .ok (.goto (-33), 3) := by decide +kernel
theorem dX1_divisorOf_45 : decode cX1_divisorOf 45 = .ok (.lload 4, 2) := by decide +kernel
theorem dX1_divisorOf_47 : decode cX1_divisorOf 47 = .ok (.lreturn, 1) := by decide +kernel
theorem dX2_init_0 : decode cX2_init 0 = .ok (.aload_n 0, 1) := by decide +kernel
theorem dX2_init_1 : decode cX2_init 1 = .ok (.invokespecial 3, 3) := by decide +kernel
theorem dX2_init_4 : decode cX2_init 4 = .ok (.aload_n 0, 1) := by decide +kernel
theorem dX2_init_5 : decode cX2_init 5 = .ok (.iconst 0, 1) := by decide +kernel
theorem dX2_init_6 : decode cX2_init 6 = .ok (.putfield 9, 3) := by decide +kernel
theorem dX2_init_9 : decode cX2_init 9 = .ok (.aload_n 0, 1) := by decide +kernel
theorem dX2_init_10 : decode cX2_init 10 = .ok (.bipush 6, 2) := by decide +kernel
theorem dX2_init_12 : decode cX2_init 12 = .ok (.newarray .int, 2) := by decide +kernel
theorem dX2_init_14 : decode cX2_init 14 = .ok (.putfield 15, 3) := by decide +kernel
theorem dX2_init_17 : decode cX2_init 17 = .ok (.aload_n 0, 1) := by decide +kernel
theorem dX2_init_18 : decode cX2_init 18 = .ok (.bipush 6, 2) := by decide +kernel
theorem dX2_init_20 : decode cX2_init 20 = .ok (.newarray .int, 2) := by decide +kernel
theorem dX2_init_22 : decode cX2_init 22 = .ok (.putfield 19, 3) := by decide +kernel
theorem dX2_init_25 : decode cX2_init 25 = .ok (.return_, 1) := by decide +kernel
theorem dX2_forget_0 : decode cX2_forget 0 = .ok (.aload_n 0, 1) := by decide +kernel
theorem dX2_forget_1 : decode cX2_forget 1 = .ok (.iconst 0, 1) := by decide +kernel
theorem dX2_forget_2 : decode cX2_forget 2 = .ok (.putfield 9, 3) := by decide +kernel
theorem dX2_forget_5 : decode cX2_forget 5 = .ok (.return_, 1) := by decide +kernel
theorem dX2_add_0 : decode cX2_add 0 = .ok (.aload_n 0, 1) := by decide +kernel
theorem dX2_add_1 : decode cX2_add 1 = .ok (.getfield 9, 3) := by decide +kernel
theorem dX2_add_4 : decode cX2_add 4 = .ok (.bipush 6, 2) := by decide +kernel
theorem dX2_add_6 : decode cX2_add 6 = .ok (.if_icmp .lt 5, 3) := by decide +kernel
theorem dX2_add_9 : decode cX2_add 9 = .ok (.iconst (-1), 1) := by decide +kernel
theorem dX2_add_10 : decode cX2_add 10 = .ok (.ireturn, 1) := by decide +kernel
theorem dX2_add_11 : decode cX2_add 11 = .ok (.aload_n 0, 1) := by decide +kernel
theorem dX2_add_12 : decode cX2_add 12 = .ok (.getfield 15, 3) := by decide +kernel
theorem dX2_add_15 : decode cX2_add 15 = .ok (.aload_n 0, 1) := by decide +kernel
theorem dX2_add_16 : decode cX2_add 16 = .ok (.getfield 9, 3) := by decide +kernel
theorem dX2_add_19 : decode cX2_add 19 = .ok (.iload_n 1, 1) := by decide +kernel
theorem dX2_add_20 : decode cX2_add 20 = .ok (.iastore, 1) := by decide +kernel
theorem dX2_add_21 : decode cX2_add 21 = .ok (.aload_n 0, 1) := by decide +kernel
theorem dX2_add_22 : decode cX2_add 22 = .ok (.getfield 19, 3) := by decide +kernel
theorem dX2_add_25 : decode cX2_add 25 = .ok (.aload_n 0, 1) := by decide +kernel
theorem dX2_add_26 : decode cX2_add 26 = .ok (.getfield 9, 3) := by decide +kernel
theorem dX2_add_29 : decode cX2_add 29 = .ok (.iload_n 2, 1) := by decide +kernel
theorem dX2_add_30 : decode cX2_add 30 = .ok (.iastore, 1) := by decide +kernel
theorem dX2_add_31 : decode cX2_add 31 = .ok (.aload_n 0, 1) := by decide +kernel
theorem dX2_add_32 : decode cX2_add 32 = .ok (.dup, 1) := by decide +kernel
theorem dX2_add_33 : decode cX2_add 33 = .ok (.getfield 9, 3) := by decide +kernel
theorem dX2_add_36 : decode cX2_add 36 = .ok (.iconst 1, 1) := by decide +kernel
theorem dX2_add_37 : decode cX2_add 37 = .ok (.iadd, 1) := by decide +kernel
theorem dX2_add_38 : decode cX2_add 38 = .ok (.putfield 9, 3) := by decide +kernel
theorem dX2_add_41 : decode cX2_add 41 = .ok (.aload_n 0, 1) := by decide +kernel
theorem dX2_add_42 : decode cX2_add 42 = .ok (.getfield 9, 3) := by decide +kernel
theorem dX2_add_45 : decode cX2_add 45 = .ok (.iconst 1, 1) := by decide +kernel
theorem dX2_add_46 : decode cX2_add 46 = .ok (.isub, 1) := by decide +kernel
theorem dX2_add_47 : decode cX2_add 47 = .ok (.ireturn, 1) := by decide +kernel
theorem dX2_has_0 : decode cX2_has 0 = .ok (.iload_n 1, 1) := by decide +kernel
theorem dX2_has_1 : decode cX2_has 1 = .ok (.ifCond .lt 15, 3) := by decide +kernel
theorem dX2_has_4 : decode cX2_has 4 = .ok (.iload_n 1, 1) := by decide +kernel
theorem dX2_has_5 : decode cX2_has 5 = .ok (.aload_n 0, 1) := by decide +kernel
theorem dX2_has_6 : decode cX2_has 6 = .ok (.getfield 9, 3) := by decide +kernel
theorem dX2_has_9 : decode cX2_has 9 = .ok (.if_icmp .ge 7, 3) := by decide +kernel
theorem dX2_has_12 : decode cX2_has 12 = .ok (.iconst 1, 1) := by decide +kernel
theorem dX2_has_13 : decode cX2_has 13 = .ok (.goto 4, 3) := by decide +kernel
theorem dX2_has_16 : decode cX2_has 16 = .ok (.iconst 0, 1) := by decide +kernel
theorem dX2_has_17 : decode cX2_has 17 = .ok (.ireturn, 1) := by decide +kernel
theorem dX2_shouts_0 : decode cX2_shouts 0 = .ok (.aload_n 0, 1) := by decide +kernel
theorem dX2_shouts_1 : decode cX2_shouts 1 = .ok (.iload_n 1, 1) := by decide +kernel
theorem dX2_shouts_2 : decode cX2_shouts 2 = .ok (.invokevirtual 22, 3) := by decide +kernel
theorem dX2_shouts_5 : decode cX2_shouts 5 = .ok (.ifCond .eq 17, 3) := by decide +kernel
theorem dX2_shouts_8 : decode cX2_shouts 8 = .ok (.aload_n 0, 1) := by decide +kernel
theorem dX2_shouts_9 : decode cX2_shouts 9 = .ok (.getfield 15, 3) := by decide +kernel
theorem dX2_shouts_12 : decode cX2_shouts 12 = .ok (.iload_n 1, 1) := by decide +kernel
theorem dX2_shouts_13 : decode cX2_shouts 13 = .ok (.iaload, 1) := by decide +kernel
theorem dX2_shouts_14 : decode cX2_shouts 14 = .ok (.iconst 2, 1) := by decide +kernel
theorem dX2_shouts_15 : decode cX2_shouts 15 = .ok (.if_icmp .ne 7, 3) := by decide +kernel
theorem dX2_shouts_18 : decode cX2_shouts 18 = .ok (.iconst 1, 1) := by decide +kernel
theorem dX2_shouts_19 : decode cX2_shouts 19 = .ok (.goto 4, 3) := by decide +kernel
theorem dX2_shouts_22 : decode cX2_shouts 22 = .ok (.iconst 0, 1) := by decide +kernel
theorem dX2_shouts_23 : decode cX2_shouts 23 = .ok (.ireturn, 1) := by decide +kernel
theorem dX2_free_0 : decode cX2_free 0 = .ok (.iconst 1, 1) := by decide +kernel
theorem dX2_free_1 : decode cX2_free 1 = .ok (.iload_n 2, 1) := by decide +kernel
theorem dX2_free_2 : decode cX2_free 2 = .ok (.ishl, 1) := by decide +kernel
theorem dX2_free_3 : decode cX2_free 3 = .ok (.iconst 1, 1) := by decide +kernel
theorem dX2_free_4 : decode cX2_free 4 = .ok (.isub, 1) := by decide +kernel
theorem dX2_free_5 : decode cX2_free 5 = .ok (.istore_n 3, 1) := by decide +kernel
theorem dX2_free_6 : decode cX2_free 6 = .ok (.aload_n 0, 1) := by decide +kernel
theorem dX2_free_7 : decode cX2_free 7 = .ok (.iload_n 1, 1) := by decide +kernel
theorem dX2_free_8 : decode cX2_free 8 = .ok (.invokevirtual 22, 3) := by decide +kernel
theorem dX2_free_11 : decode cX2_free 11 = .ok (.ifCond .eq 13, 3) := by decide +kernel
theorem dX2_free_14 : decode cX2_free 14 = .ok (.aload_n 0, 1) := by decide +kernel
theorem dX2_free_15 : decode cX2_free 15 = .ok (.getfield 15, 3) := by decide +kernel
theorem dX2_free_18 : decode cX2_free 18 = .ok (.iload_n 1, 1) := by decide +kernel
theorem dX2_free_19 : decode cX2_free 19 = .ok (.iaload, 1) := by decide +kernel
theorem dX2_free_20 : decode cX2_free 20 = .ok (.iconst 2, 1) := by decide +kernel
theorem dX2_free_21 : decode cX2_free 21 = .ok (.if_icmp .ne 5, 3) := by decide +kernel
theorem dX2_free_24 : decode cX2_free 24 = .ok (.iload_n 3, 1) := by decide +kernel
theorem dX2_free_25 : decode cX2_free 25 = .ok (.ireturn, 1) := by decide +kernel
theorem dX2_free_26 : decode cX2_free 26 = .ok (.iconst 1, 1) := by decide +kernel
theorem dX2_free_27 : decode cX2_free 27 = .ok (.aload_n 0, 1) := by decide +kernel
theorem dX2_free_28 : decode cX2_free 28 = .ok (.getfield 19, 3) := by decide +kernel
theorem dX2_free_31 : decode cX2_free 31 = .ok (.iload_n 1, 1) := by decide +kernel
theorem dX2_free_32 : decode cX2_free 32 = .ok (.iaload, 1) := by decide +kernel
theorem dX2_free_33 : decode cX2_free 33 = .ok (.ishl, 1) := by decide +kernel
theorem dX2_free_34 : decode cX2_free 34 = .ok (.iconst 1, 1) := by decide +kernel
theorem dX2_free_35 : decode cX2_free 35 = .ok (.isub, 1) := by decide +kernel
theorem dX2_free_36 : decode cX2_free 36 = .ok (.istore 4, 2) := by decide +kernel
theorem dX2_free_38 : decode cX2_free 38 = .ok (.aload_n 0, 1) := by decide +kernel
theorem dX2_free_39 : decode cX2_free 39 = .ok (.getfield 15, 3) := by decide +kernel
theorem dX2_free_42 : decode cX2_free 42 = .ok (.iload_n 1, 1) := by decide +kernel
theorem dX2_free_43 : decode cX2_free 43 = .ok (.iaload, 1) := by decide +kernel
theorem dX2_free_44 : decode cX2_free 44 = .ok (.iconst 1, 1) := by decide +kernel
theorem dX2_free_45 : decode cX2_free 45 = .ok (.if_icmp .ne 12, 3) := by decide +kernel
theorem dX2_free_48 : decode cX2_free 48 = .ok (.iload_n 3, 1) := by decide +kernel
theorem dX2_free_49 : decode cX2_free 49 = .ok (.iload 4, 2) := by decide +kernel
theorem dX2_free_51 : decode cX2_free 51 = .ok (.iconst (-1), 1) := by decide +kernel
theorem dX2_free_52 : decode cX2_free 52 = .ok (.ixor, 1) := by decide +kernel
theorem dX2_free_53 : decode cX2_free 53 = .ok (.iand, 1) := by decide +kernel
theorem dX2_free_54 : decode cX2_free 54 = .ok (.goto 11, 3) := by decide +kernel
theorem dX2_free_57 : decode cX2_free 57 = .ok (.iload_n 3, 1) := by decide +kernel
theorem dX2_free_58 : decode cX2_free 58 = .ok (.iload 4, 2) := by decide +kernel
theorem dX2_free_60 : decode cX2_free 60 = .ok (.iconst 2, 1) := by decide +kernel
theorem dX2_free_61 : decode cX2_free 61 = .ok (.imul, 1) := by decide +kernel
theorem dX2_free_62 : decode cX2_free 62 = .ok (.iconst 1, 1) := by decide +kernel
theorem dX2_free_63 : decode cX2_free 63 = .ok (.iadd, 1) := by decide +kernel
theorem dX2_free_64 : decode cX2_free 64 = .ok (.iand, 1) := by decide +kernel
theorem dX2_free_65 : decode cX2_free 65 = .ok (.ireturn, 1) := by decide +kernel
theorem dX3_init_0 : decode cX3_init 0 = .ok (.aload_n 0, 1) := by decide +kernel
theorem dX3_init_1 : decode cX3_init 1 = .ok (.invokespecial 3, 3) := by decide +kernel
theorem dX3_init_4 : decode cX3_init 4 = .ok (.aload_n 0, 1) := by decide +kernel
theorem dX3_init_5 : decode cX3_init 5 = .ok (.aload_n 1, 1) := by decide +kernel
theorem dX3_init_6 : decode cX3_init 6 = .ok (.putfield 9, 3) := by decide +kernel
theorem dX3_init_9 : decode cX3_init 9 = .ok (.aload_n 0, 1) := by decide +kernel
theorem dX3_init_10 : decode cX3_init 10 = .ok (.aload_n 2, 1) := by decide +kernel
theorem dX3_init_11 : decode cX3_init 11 = .ok (.putfield 15, 3) := by decide +kernel
theorem dX3_init_14 : decode cX3_init 14 = .ok (.return_, 1) := by decide +kernel
theorem dX3_read_0 : decode cX3_read 0 = .ok (.aload_n 0, 1) := by decide +kernel
theorem dX3_read_1 : decode cX3_read 1 = .ok (.getfield 15, 3) := by decide +kernel
theorem dX3_read_4 : decode cX3_read 4 = .ok (.invokevirtual 19, 3) := by decide +kernel
theorem dX3_read_7 : decode cX3_read 7 = .ok (.aload_n 0, 1) := by decide +kernel
theorem dX3_read_8 : decode cX3_read 8 = .ok (.iload_n 1, 1) := by decide +kernel
theorem dX3_read_9 : decode cX3_read 9 = .ok (.aload_n 0, 1) := by decide +kernel
theorem dX3_read_10 : decode cX3_read 10 = .ok (.getfield 9, 3) := by decide +kernel
theorem dX3_read_13 : decode cX3_read 13 = .ok (.arraylength, 1) := by decide +kernel
theorem dX3_read_14 : decode cX3_read 14 = .ok (.invokestatic 24, 3) := by decide +kernel
theorem dX3_read_17 : decode cX3_read 17 = .ok (.putfield 30, 3) := by decide +kernel
theorem dX3_read_20 : decode cX3_read 20 = .ok (.aload_n 0, 1) := by decide +kernel
theorem dX3_read_21 : decode cX3_read 21 = .ok (.iconst 0, 1) := by decide +kernel
theorem dX3_read_22 : decode cX3_read 22 = .ok (.putfield 34, 3) := by decide +kernel
theorem dX3_read_25 : decode cX3_read 25 = .ok (.aload_n 0, 1) := by decide +kernel
theorem dX3_read_26 : decode cX3_read 26 = .ok (.invokevirtual 37, 3) := by decide +kernel
theorem dX3_read_29 : decode cX3_read 29 = .ok (.iconst 0, 1) := by decide +kernel
theorem dX3_read_30 : decode cX3_read 30 = .ok (.istore_n 2, 1) := by decide +kernel
theorem dX3_read_31 : decode cX3_read 31 = .ok (.iload_n 2, 1) := by decide +kernel
theorem dX3_read_32 : decode cX3_read 32 = .ok (.bipush 24, 2) := by decide +kernel
theorem dX3_read_34 : decode cX3_read 34 = .ok (.if_icmp .gt 53, 3) := by decide +kernel
theorem dX3_read_37 : decode cX3_read 37 = .ok (.aload_n 0, 1) := by decide +kernel
theorem dX3_read_38 : decode cX3_read 38 = .ok (.getfield 40, 3) := by decide +kernel
theorem dX3_read_41 : decode cX3_read 41 = .ok (.ifCond .eq 46, 3) := by decide +kernel
theorem dX3_read_44 : decode cX3_read 44 = .ok (.aload_n 0, 1) := by decide +kernel
theorem dX3_read_45 : decode cX3_read 45 = .ok (.getfield 15, 3) := by decide +kernel
theorem dX3_read_48 : decode cX3_read 48 = .ok (.getfield 43, 3) := by decide +kernel
theorem dX3_read_51 : decode cX3_read 51 = .ok (.bipush 24, 2) := by decide +kernel
theorem dX3_read_53 : decode cX3_read 53 = .ok (.if_icmp .ge 10, 3) := by decide +kernel
theorem dX3_read_56 : decode cX3_read 56 = .ok (.aload_n 0, 1) := by decide +kernel
theorem dX3_read_57 : decode cX3_read 57 = .ok (.invokevirtual 46, 3) := by decide +kernel
theorem dX3_read_60 : decode cX3_read 60 = .ok (.ifCond .ne 8, 3) := by decide +kernel
theorem dX3_read_63 : decode cX3_read 63 = .ok (.aload_n 0, 1) := by decide +kernel
theorem dX3_read_64 : decode cX3_read 64 = .ok (.getfield 50, 3) := by decide +kernel
theorem dX3_read_67 : decode cX3_read 67 = .ok (.ireturn, 1) := by decide +kernel
theorem dX3_read_68 : decode cX3_read 68 = .ok (.aload_n 0, 1) := by decide +kernel
theorem dX3_read_69 : decode cX3_read 69 = .ok (.getfield 15, 3) := by decide +kernel
theorem dX3_read_72 : decode cX3_read 72 = .ok (.dup, 1) := by decide +kernel
theorem dX3_read_73 : decode cX3_read 73 = .ok (.getfield 43, 3) := by decide +kernel
theorem dX3_read_76 : decode cX3_read 76 = .ok (.iconst 1, 1) := by decide +kernel
theorem dX3_read_77 : decode cX3_read 77 = .ok (.iadd, 1) := by decide +kernel
theorem dX3_read_78 : decode cX3_read 78 = .ok (.putfield 43, 3) := by decide +kernel
theorem dX3_read_81 : decode cX3_read 81 = .ok (.iinc 2 1, 3) := by decide +kernel
theorem dX3_read_84 : decode cX3_read 84 = .ok (.goto (-53), 3) := by decide +kernel
theorem dX3_read_87 : decode cX3_read 87 = .ok (.aload_n 0, 1) := by decide +kernel
theorem dX3_read_88 : decode cX3_read 88 = .ok (.getfield 15, 3) := by decide +kernel
theorem dX3_read_91 : decode cX3_read 91 = .ok (.getfield 53, 3) := by decide +kernel
theorem dX3_read_94 : decode cX3_read 94 = .ok (.ifCond .le 7, 3) := by decide +kernel
theorem dX3_read_97 : decode cX3_read 97 = .ok (.iconst (-1), 1) := by decide +kernel
theorem dX3_read_98 : decode cX3_read 98 = .ok (.goto 7, 3) := by decide +kernel
theorem dX3_read_101 : decode cX3_read 101 = .ok (.aload_n 0, 1) := by decide +kernel
theorem dX3_read_102 : decode cX3_read 102 = .ok (.getfield 30, 3) := by decide +kernel
theorem dX3_read_105 : decode cX3_read 105 = .ok (.ireturn, 1) := by decide +kernel
theorem dX3_advance_0 : decode cX3_advance 0 = .ok (.aload_n 0, 1) := by decide +kernel
theorem dX3_advance_1 : decode cX3_advance 1 = .ok (.getfield 34, 3) := by decide +kernel
theorem dX3_advance_4 : decode cX3_advance 4 = .ok (.aload_n 0, 1) := by decide +kernel
theorem dX3_advance_5 : decode cX3_advance 5 = .ok (.getfield 30, 3) := by decide +kernel
theorem dX3_advance_8 : decode cX3_advance 8 = .ok (.if_icmp .ge 44, 3) := by decide +kernel
theorem dX3_advance_11 : decode cX3_advance 11 = .ok (.aload_n 0, 1) := by decide +kernel
theorem dX3_advance_12 : decode cX3_advance 12 = .ok (.getfield 9, 3) := by decide +kernel
theorem dX3_advance_15 : decode cX3_advance 15 = .ok (.aload_n 0, 1) := by decide +kernel
theorem dX3_advance_16 : decode cX3_advance 16 = .ok (.getfield 34, 3) := by decide +kernel
theorem dX3_advance_19 : decode cX3_advance 19 = .ok (.baload, 1) := by decide +kernel
theorem dX3_advance_20 : decode cX3_advance 20 = .ok (.bipush 32, 2) := by decide +kernel
theorem dX3_advance_22 : decode cX3_advance 22 = .ok (.if_icmp .eq 17, 3) := by decide +kernel
theorem dX3_advance_25 : decode cX3_advance 25 = .ok (.aload_n 0, 1) := by decide +kernel
theorem dX3_advance_26 : decode cX3_advance 26 = .ok (.getfield 9, 3) := by decide +kernel
theorem dX3_advance_29 : decode cX3_advance 29 = .ok (.aload_n 0, 1) := by decide +kernel
theorem dX3_advance_30 : decode cX3_advance 30 = .ok (.getfield 34, 3) := by decide +kernel
theorem dX3_advance_33 : decode cX3_advance 33 = .ok (.baload, 1) := by decide +kernel
theorem dX3_advance_34 : decode cX3_advance 34 = .ok (.bipush 10, 2) := by decide +kernel
theorem dX3_advance_36 : decode cX3_advance 36 = .ok (.if_icmp .ne 16, 3) := by decide +kernel
theorem dX3_advance_39 : decode cX3_advance 39 = .ok (.aload_n 0, 1) := by decide +kernel
theorem dX3_advance_40 : decode cX3_advance 40 = .ok (.dup, 1) := by decide +kernel
theorem dX3_advance_41 : decode cX3_advance 41 = .ok (.getfield 34, 3) := by decide +kernel
theorem dX3_advance_44 : decode cX3_advance 44 = .ok (.iconst 1, 1) := by decide +kernel
theorem dX3_advance_45 : decode cX3_advance 45 = .ok (.iadd, 1) := by decide +kernel
theorem dX3_advance_46 : decode cX3_advance 46 = .ok (.putfield 34, 3) := by decide +kernel
theorem dX3_advance_49 : decode cX3_advance 49 = .ok (.goto (-49), 3) := by decide +kernel
theorem dX3_advance_52 : decode cX3_advance 52 = .ok (.aload_n 0, 1) := by decide +kernel
theorem dX3_advance_53 : decode cX3_advance 53 = .ok (.aload_n 0, 1) := by decide +kernel
theorem dX3_advance_54 : decode cX3_advance 54 = .ok (.getfield 34, 3) := by decide +kernel
theorem dX3_advance_57 : decode cX3_advance 57 = .ok (.putfield 50, 3) := by decide +kernel
theorem dX3_advance_60 : decode cX3_advance 60 = .ok (.aload_n 0, 1) := by decide +kernel
theorem dX3_advance_61 : decode cX3_advance 61 = .ok (.iconst 0, 1) := by decide +kernel
theorem dX3_advance_62 : decode cX3_advance 62 = .ok (.putfield 56, 3) := by decide +kernel
theorem dX3_advance_65 : decode cX3_advance 65 = .ok (.aload_n 0, 1) := by decide +kernel
theorem dX3_advance_66 : decode cX3_advance 66 = .ok (.lconst 0, 1) := by decide +kernel
theorem dX3_advance_67 : decode cX3_advance 67 = .ok (.putfield 59, 3) := by decide +kernel
theorem dX3_advance_70 : decode cX3_advance 70 = .ok (.aload_n 0, 1) := by decide +kernel
theorem dX3_advance_71 : decode cX3_advance 71 = .ok (.getfield 34, 3) := by decide +kernel
theorem dX3_advance_74 : decode cX3_advance 74 = .ok (.aload_n 0, 1) := by decide +kernel
theorem dX3_advance_75 : decode cX3_advance 75 = .ok (.getfield 30, 3) := by decide +kernel
theorem dX3_advance_78 : decode cX3_advance 78 = .ok (.if_icmp .ge 72, 3) := by decide +kernel
theorem dX3_advance_81 : decode cX3_advance 81 = .ok (.aload_n 0, 1) := by decide +kernel
theorem dX3_advance_82 : decode cX3_advance 82 = .ok (.getfield 9, 3) := by decide +kernel
theorem dX3_advance_85 : decode cX3_advance 85 = .ok (.aload_n 0, 1) := by decide +kernel
theorem dX3_advance_86 : decode cX3_advance 86 = .ok (.getfield 34, 3) := by decide +kernel
theorem dX3_advance_89 : decode cX3_advance 89 = .ok (.baload, 1) := by decide +kernel
theorem dX3_advance_90 : decode cX3_advance 90 = .ok (.bipush 97, 2) := by decide +kernel
theorem dX3_advance_92 : decode cX3_advance 92 = .ok (.if_icmp .lt 58, 3) := by decide +kernel
theorem dX3_advance_95 : decode cX3_advance 95 = .ok (.aload_n 0, 1) := by decide +kernel
theorem dX3_advance_96 : decode cX3_advance 96 = .ok (.getfield 9, 3) := by decide +kernel
theorem dX3_advance_99 : decode cX3_advance 99 = .ok (.aload_n 0, 1) := by decide +kernel
theorem dX3_advance_100 : decode cX3_advance 100 = .ok (.getfield 34, 3) := by decide +kernel
theorem dX3_advance_103 : decode cX3_advance 103 = .ok (.baload, 1) := by decide +kernel
theorem dX3_advance_104 : decode cX3_advance 104 = .ok (.bipush 122, 2) := by decide +kernel
theorem dX3_advance_106 : decode cX3_advance 106 = .ok (.if_icmp .gt 44, 3) := by decide +kernel
theorem dX3_advance_109 : decode cX3_advance 109 = .ok (.aload_n 0, 1) := by decide +kernel
theorem dX3_advance_110 : decode cX3_advance 110 = .ok (.aload_n 0, 1) := by decide +kernel
theorem dX3_advance_111 : decode cX3_advance 111 = .ok (.getfield 59, 3) := by decide +kernel
theorem dX3_advance_114 : decode cX3_advance 114 = .ok (.ldc2_w 63, 3) := by decide +kernel
theorem dX3_advance_117 : decode cX3_advance 117 = .ok (.lmul, 1) := by decide +kernel
theorem dX3_advance_118 : decode cX3_advance 118 = .ok (.aload_n 0, 1) := by decide +kernel
theorem dX3_advance_119 : decode cX3_advance 119 = .ok (.getfield 9, 3) := by decide +kernel
theorem dX3_advance_122 : decode cX3_advance 122 = .ok (.aload_n 0, 1) := by decide +kernel
theorem dX3_advance_123 : decode cX3_advance 123 = .ok (.getfield 34, 3) := by decide +kernel
theorem dX3_advance_126 : decode cX3_advance 126 = .ok (.baload, 1) := by decide +kernel
theorem dX3_advance_127 : decode cX3_advance 127 = .ok (.bipush 97, 2) := by decide +kernel
theorem dX3_advance_129 : decode cX3_advance 129 = .ok (.isub, 1) := by decide +kernel
theorem dX3_advance_130 : decode cX3_advance 130 = .ok (.iconst 1, 1) := by decide +kernel
theorem dX3_advance_131 : decode cX3_advance 131 = .ok (.iadd, 1) := by decide +kernel
theorem dX3_advance_132 : decode cX3_advance 132 = .ok (.i2l, 1) := by decide +kernel
theorem dX3_advance_133 : decode cX3_advance 133 = .ok (.ladd, 1) := by decide +kernel
theorem dX3_advance_134 : decode cX3_advance 134 = .ok (.putfield 59, 3) := by decide +kernel
theorem dX3_advance_137 : decode cX3_advance 137 = .ok (.aload_n 0, 1) := by decide +kernel
theorem dX3_advance_138 : decode cX3_advance 138 = .ok (.dup, 1) := by decide +kernel
theorem dX3_advance_139 : decode cX3_advance 139 = .ok (.getfield 34, 3) := by decide +kernel
theorem dX3_advance_142 : decode cX3_advance 142 = .ok (.iconst 1, 1) := by decide +kernel
theorem dX3_advance_143 : decode cX3_advance 143 = .ok (.iadd, 1) := by decide +kernel
theorem dX3_advance_144 : decode cX3_advance 144 = .ok (.putfield 34, 3) := by decide +kernel
theorem dX3_advance_147 : decode cX3_advance 147 = .ok (.goto (-77), 3) := by decide +kernel
theorem dX3_advance_150 : decode cX3_advance 150 = .ok (.aload_n 0, 1) := by decide +kernel
theorem dX3_advance_151 : decode cX3_advance 151 = .ok (.aload_n 0, 1) := by decide +kernel
theorem dX3_advance_152 : decode cX3_advance 152 = .ok (.getfield 34, 3) := by decide +kernel
theorem dX3_advance_155 : decode cX3_advance 155 = .ok (.aload_n 0, 1) := by decide +kernel
theorem dX3_advance_156 : decode cX3_advance 156 = .ok (.getfield 50, 3) := by decide +kernel
theorem dX3_advance_159 : decode cX3_advance 159 = .ok (.if_icmp .le 7, 3) := by decide +kernel
theorem dX3_advance_162 : decode cX3_advance 162 = .ok (.iconst 1, 1) := by decide +kernel
theorem dX3_advance_163 : decode cX3_advance 163 = .ok (.goto 4, 3) := by decide +kernel
theorem dX3_advance_166 : decode cX3_advance 166 = .ok (.iconst 2, 1) := by decide +kernel
theorem dX3_advance_167 : decode cX3_advance 167 = .ok (.putfield 40, 3) := by decide +kernel
theorem dX3_advance_170 : decode cX3_advance 170 = .ok (.aload_n 0, 1) := by decide +kernel
theorem dX3_advance_171 : decode cX3_advance 171 = .ok (.getfield 40, 3) := by decide +kernel
theorem dX3_advance_174 : decode cX3_advance 174 = .ok (.iconst 2, 1) := by decide +kernel
theorem dX3_advance_175 : decode cX3_advance 175 = .ok (.if_icmp .ne 85, 3) := by decide +kernel
theorem dX3_advance_178 : decode cX3_advance 178 = .ok (.aload_n 0, 1) := by decide +kernel
theorem dX3_advance_179 : decode cX3_advance 179 = .ok (.getfield 34, 3) := by decide +kernel
theorem dX3_advance_182 : decode cX3_advance 182 = .ok (.aload_n 0, 1) := by decide +kernel
theorem dX3_advance_183 : decode cX3_advance 183 = .ok (.getfield 30, 3) := by decide +kernel
theorem dX3_advance_186 : decode cX3_advance 186 = .ok (.if_icmp .ge 74, 3) := by decide +kernel
theorem dX3_advance_189 : decode cX3_advance 189 = .ok (.aload_n 0, 1) := by decide +kernel
theorem dX3_advance_190 : decode cX3_advance 190 = .ok (.getfield 9, 3) := by decide +kernel
theorem dX3_advance_193 : decode cX3_advance 193 = .ok (.aload_n 0, 1) := by decide +kernel
theorem dX3_advance_194 : decode cX3_advance 194 = .ok (.getfield 34, 3) := by decide +kernel
theorem dX3_advance_197 : decode cX3_advance 197 = .ok (.baload, 1) := by decide +kernel
theorem dX3_advance_198 : decode cX3_advance 198 = .ok (.bipush 48, 2) := by decide +kernel
theorem dX3_advance_200 : decode cX3_advance 200 = .ok (.if_icmp .lt 60, 3) := by decide +kernel
theorem dX3_advance_203 : decode cX3_advance 203 = .ok (.aload_n 0, 1) := by decide +kernel
theorem dX3_advance_204 : decode cX3_advance 204 = .ok (.getfield 9, 3) := by decide +kernel
theorem dX3_advance_207 : decode cX3_advance 207 = .ok (.aload_n 0, 1) := by decide +kernel
theorem dX3_advance_208 : decode cX3_advance 208 = .ok (.getfield 34, 3) := by decide +kernel
theorem dX3_advance_211 : decode cX3_advance 211 = .ok (.baload, 1) := by decide +kernel
theorem dX3_advance_212 : decode cX3_advance 212 = .ok (.bipush 57, 2) := by decide +kernel
theorem dX3_advance_214 : decode cX3_advance 214 = .ok (.if_icmp .gt 46, 3) := by decide +kernel
theorem dX3_advance_217 : decode cX3_advance 217 = .ok (.aload_n 0, 1) := by decide +kernel
theorem dX3_advance_218 : decode cX3_advance 218 = .ok (.aload_n 0, 1) := by decide +kernel
theorem dX3_advance_219 : decode cX3_advance 219 = .ok (.getfield 56, 3) := by decide +kernel
theorem dX3_advance_222 : decode cX3_advance 222 = .ok (.bipush 10, 2) := by decide +kernel
theorem dX3_advance_224 : decode cX3_advance 224 = .ok (.imul, 1) := by decide +kernel
theorem dX3_advance_225 : decode cX3_advance 225 = .ok (.aload_n 0, 1) := by decide +kernel
theorem dX3_advance_226 : decode cX3_advance 226 = .ok (.getfield 9, 3) := by decide +kernel
theorem dX3_advance_229 : decode cX3_advance 229 = .ok (.aload_n 0, 1) := by decide +kernel
theorem dX3_advance_230 : decode cX3_advance 230 = .ok (.getfield 34, 3) := by decide +kernel
theorem dX3_advance_233 : decode cX3_advance 233 = .ok (.baload, 1) := by decide +kernel
theorem dX3_advance_234 : decode cX3_advance 234 = .ok (.bipush 48, 2) := by decide +kernel
theorem dX3_advance_236 : decode cX3_advance 236 = .ok (.isub, 1) := by decide +kernel
theorem dX3_advance_237 : decode cX3_advance 237 = .ok (.iadd, 1) := by decide +kernel
theorem dX3_advance_238 : decode cX3_advance 238 = .ok (.sipush 10000, 3) := by decide +kernel
theorem dX3_advance_241 : decode cX3_advance 241 = .ok (.invokestatic 24, 3) := by decide +kernel
theorem dX3_advance_244 : decode cX3_advance 244 = .ok (.putfield 56, 3) := by decide +kernel
theorem dX3_advance_247 : decode cX3_advance 247 = .ok (.aload_n 0, 1) := by decide +kernel
theorem dX3_advance_248 : decode cX3_advance 248 = .ok (.dup, 1) := by decide +kernel
theorem dX3_advance_249 : decode cX3_advance 249 = .ok (.getfield 34, 3) := by decide +kernel
theorem dX3_advance_252 : decode cX3_advance 252 = .ok (.iconst 1, 1) := by decide +kernel
theorem dX3_advance_253 : decode cX3_advance 253 = .ok (.iadd, 1) := by decide +kernel
theorem dX3_advance_254 : decode cX3_advance 254 = .ok (.putfield 34, 3) := by decide +kernel
theorem dX3_advance_257 : decode cX3_advance 257 = .ok (.goto (-87), 3) := by decide +kernel
theorem dX3_advance_260 : decode cX3_advance 260 = .ok (.aload_n 0, 1) := by decide +kernel
theorem dX3_advance_261 : decode cX3_advance 261 = .ok (.getfield 34, 3) := by decide +kernel
theorem dX3_advance_264 : decode cX3_advance 264 = .ok (.aload_n 0, 1) := by decide +kernel
theorem dX3_advance_265 : decode cX3_advance 265 = .ok (.getfield 50, 3) := by decide +kernel
theorem dX3_advance_268 : decode cX3_advance 268 = .ok (.if_icmp .ne 58, 3) := by decide +kernel
theorem dX3_advance_271 : decode cX3_advance 271 = .ok (.aload_n 0, 1) := by decide +kernel
theorem dX3_advance_272 : decode cX3_advance 272 = .ok (.aload_n 0, 1) := by decide +kernel
theorem dX3_advance_273 : decode cX3_advance 273 = .ok (.getfield 34, 3) := by decide +kernel
theorem dX3_advance_276 : decode cX3_advance 276 = .ok (.aload_n 0, 1) := by decide +kernel
theorem dX3_advance_277 : decode cX3_advance 277 = .ok (.getfield 30, 3) := by decide +kernel
theorem dX3_advance_280 : decode cX3_advance 280 = .ok (.if_icmp .lt 7, 3) := by decide +kernel
theorem dX3_advance_283 : decode cX3_advance 283 = .ok (.iconst 0, 1) := by decide +kernel
theorem dX3_advance_284 : decode cX3_advance 284 = .ok (.goto 22, 3) := by decide +kernel
theorem dX3_advance_287 : decode cX3_advance 287 = .ok (.aload_n 0, 1) := by decide +kernel
theorem dX3_advance_288 : decode cX3_advance 288 = .ok (.getfield 9, 3) := by decide +kernel
theorem dX3_advance_291 : decode cX3_advance 291 = .ok (.aload_n 0, 1) := by decide +kernel
theorem dX3_advance_292 : decode cX3_advance 292 = .ok (.getfield 34, 3) := by decide +kernel
theorem dX3_advance_295 : decode cX3_advance 295 = .ok (.baload, 1) := by decide +kernel
theorem dX3_advance_296 : decode cX3_advance 296 = .ok (.bipush 59, 2) := by decide +kernel
theorem dX3_advance_298 : decode cX3_advance 298 = .ok (.if_icmp .ne 7, 3) := by decide +kernel
theorem dX3_advance_301 : decode cX3_advance 301 = .ok (.iconst 3, 1) := by decide +kernel
theorem dX3_advance_302 : decode cX3_advance 302 = .ok (.goto 4, 3) := by decide +kernel
theorem dX3_advance_305 : decode cX3_advance 305 = .ok (.iconst 4, 1) := by decide +kernel
theorem dX3_advance_306 : decode cX3_advance 306 = .ok (.putfield 40, 3) := by decide +kernel
theorem dX3_advance_309 : decode cX3_advance 309 = .ok (.aload_n 0, 1) := by decide +kernel
theorem dX3_advance_310 : decode cX3_advance 310 = .ok (.aload_n 0, 1) := by decide +kernel
theorem dX3_advance_311 : decode cX3_advance 311 = .ok (.getfield 34, 3) := by decide +kernel
theorem dX3_advance_314 : decode cX3_advance 314 = .ok (.iconst 1, 1) := by decide +kernel
theorem dX3_advance_315 : decode cX3_advance 315 = .ok (.iadd, 1) := by decide +kernel
theorem dX3_advance_316 : decode cX3_advance 316 = .ok (.aload_n 0, 1) := by decide +kernel
theorem dX3_advance_317 : decode cX3_advance 317 = .ok (.getfield 30, 3) := by decide +kernel
theorem dX3_advance_320 : decode cX3_advance 320 = .ok (.invokestatic 24, 3) := by decide +kernel
theorem dX3_advance_323 : decode cX3_advance 323 = .ok (.putfield 34, 3) := by decide +kernel
theorem dX3_advance_326 : decode cX3_advance 326 = .ok (.aload_n 0, 1) := by decide +kernel
theorem dX3_advance_327 : decode cX3_advance 327 = .ok (.aload_n 0, 1) := by decide +kernel
theorem dX3_advance_328 : decode cX3_advance 328 = .ok (.getfield 34, 3) := by decide +kernel
theorem dX3_advance_331 : decode cX3_advance 331 = .ok (.aload_n 0, 1) := by decide +kernel
theorem dX3_advance_332 : decode cX3_advance 332 = .ok (.getfield 50, 3) := by decide +kernel
theorem dX3_advance_335 : decode cX3_advance 335 = .ok (.isub, 1) := by decide +kernel
theorem dX3_advance_336 : decode cX3_advance 336 = .ok (.putfield 65, 3) := by decide +kernel
theorem dX3_advance_339 : decode cX3_advance 339 = .ok (.return_, 1) := by decide +kernel
theorem dX3_statement_0 : decode cX3_statement 0 = .ok (.aload_n 0, 1) := by decide +kernel
theorem dX3_statement_1 : decode cX3_statement 1 = .ok (.ldc 68, 2) := by decide +kernel
theorem dX3_statement_3 : decode cX3_statement 3 = .ok (.invokevirtual 70, 3) := by decide +kernel
theorem dX3_statement_6 : decode cX3_statement 6 = .ok (.ifCond .eq 8, 3) := by decide +kernel
theorem dX3_statement_9 : decode cX3_statement 9 = .ok (.aload_n 0, 1) := by decide +kernel
theorem dX3_statement_10 : decode cX3_statement 10 = .ok (.invokevirtual 74, 3) := by decide +kernel
theorem dX3_statement_13 : decode cX3_statement 13 = .ok (.ireturn, 1) := by decide +kernel
theorem dX3_statement_14 : decode cX3_statement 14 = .ok (.aload_n 0, 1) := by decide +kernel
theorem dX3_statement_15 : decode cX3_statement 15 = .ok (.ldc 76, 2) := by decide +kernel
theorem dX3_statement_17 : decode cX3_statement 17 = .ok (.invokevirtual 70, 3) := by decide +kernel
theorem dX3_statement_20 : decode cX3_statement 20 = .ok (.ifCond .eq 8, 3) := by decide +kernel
theorem dX3_statement_23 : decode cX3_statement 23 = .ok (.aload_n 0, 1) := by decide +kernel
theorem dX3_statement_24 : decode cX3_statement 24 = .ok (.invokevirtual 78, 3) := by decide +kernel
theorem dX3_statement_27 : decode cX3_statement 27 = .ok (.ireturn, 1) := by decide +kernel
theorem dX3_statement_28 : decode cX3_statement 28 = .ok (.aload_n 0, 1) := by decide +kernel
theorem dX3_statement_29 : decode cX3_statement 29 = .ok (.ldc 80, 2) := by decide +kernel
theorem dX3_statement_31 : decode cX3_statement 31 = .ok (.invokevirtual 70, 3) := by decide +kernel
theorem dX3_statement_34 : decode cX3_statement 34 = .ok (.ifCond .eq 8, 3) := by decide +kernel
theorem dX3_statement_37 : decode cX3_statement 37 = .ok (.aload_n 0, 1) := by decide +kernel
theorem dX3_statement_38 : decode cX3_statement 38 = .ok (.invokevirtual 82, 3) := by decide +kernel
theorem dX3_statement_41 : decode cX3_statement 41 = .ok (.ireturn, 1) := by decide +kernel
theorem dX3_statement_42 : decode cX3_statement 42 = .ok (.aload_n 0, 1) := by decide +kernel
theorem dX3_statement_43 : decode cX3_statement 43 = .ok (.ldc 85, 2) := by decide +kernel
theorem dX3_statement_45 : decode cX3_statement 45 = .ok (.invokevirtual 70, 3) := by decide +kernel
theorem dX3_statement_48 : decode cX3_statement 48 = .ok (.ifCond .eq 41, 3) := by decide +kernel
theorem dX3_statement_51 : decode cX3_statement 51 = .ok (.aload_n 0, 1) := by decide +kernel
theorem dX3_statement_52 : decode cX3_statement 52 = .ok (.getfield 15, 3) := by decide +kernel
theorem dX3_statement_55 : decode cX3_statement 55 = .ok (.aload_n 0, 1) := by decide +kernel
theorem dX3_statement_56 : decode cX3_statement 56 = .ok (.iconst 0, 1) := by decide +kernel
theorem dX3_statement_57 : decode cX3_statement 57 = .ok (.bipush 99, 2) := by decide +kernel
theorem dX3_statement_59 : decode cX3_statement 59 = .ok (.invokevirtual 87, 3) := by decide +kernel
theorem dX3_statement_62 : decode cX3_statement 62 = .ok (.putfield 90, 3) := by decide +kernel
theorem dX3_statement_65 : decode cX3_statement 65 = .ok (.aload_n 0, 1) := by decide +kernel
theorem dX3_statement_66 : decode cX3_statement 66 = .ok (.getfield 15, 3) := by decide +kernel
theorem dX3_statement_69 : decode cX3_statement 69 = .ok (.getfield 90, 3) := by decide +kernel
theorem dX3_statement_72 : decode cX3_statement 72 = .ok (.iconst (-1), 1) := by decide +kernel
theorem dX3_statement_73 : decode cX3_statement 73 = .ok (.if_icmp .eq 14, 3) := by decide +kernel
theorem dX3_statement_76 : decode cX3_statement 76 = .ok (.aload_n 0, 1) := by decide +kernel
theorem dX3_statement_77 : decode cX3_statement 77 = .ok (.invokevirtual 92, 3) := by decide +kernel
theorem dX3_statement_80 : decode cX3_statement 80 = .ok (.ifCond .eq 7, 3) := by decide +kernel
theorem dX3_statement_83 : decode cX3_statement 83 = .ok (.iconst 1, 1) := by decide +kernel
theorem dX3_statement_84 : decode cX3_statement 84 = .ok (.goto 4, 3) := by decide +kernel
theorem dX3_statement_87 : decode cX3_statement 87 = .ok (.iconst 0, 1) := by decide +kernel
theorem dX3_statement_88 : decode cX3_statement 88 = .ok (.ireturn, 1) := by decide +kernel
theorem dX3_statement_89 : decode cX3_statement 89 = .ok (.aload_n 0, 1) := by decide +kernel
theorem dX3_statement_90 : decode cX3_statement 90 = .ok (.getfield 15, 3) := by decide +kernel
theorem dX3_statement_93 : decode cX3_statement 93 = .ok (.getfield 95, 3) := by decide +kernel
theorem dX3_statement_96 : decode cX3_statement 96 = .ok (.bipush 12, 2) := by decide +kernel
theorem dX3_statement_98 : decode cX3_statement 98 = .ok (.if_icmp .lt 5, 3) := by decide +kernel
theorem dX3_statement_101 : decode cX3_statement 101 = .ok (.iconst 0, 1) := by decide +kernel
theorem dX3_statement_102 : decode cX3_statement 102 = .ok (.ireturn, 1) := by decide +kernel
theorem dX3_statement_103 : decode cX3_statement 103 = .ok (.aload_n 0, 1) := by decide +kernel
theorem dX3_statement_104 : decode cX3_statement 104 = .ok (.ldc 98, 2) := by decide +kernel
theorem dX3_statement_106 : decode cX3_statement 106 = .ok (.invokevirtual 70, 3) := by decide +kernel
theorem dX3_statement_109 : decode cX3_statement 109 = .ok (.ifCond .eq 9, 3) := by decide +kernel
theorem dX3_statement_112 : decode cX3_statement 112 = .ok (.aload_n 0, 1) := by decide +kernel
theorem dX3_statement_113 : decode cX3_statement 113 = .ok (.iconst 0, 1) := by decide +kernel
theorem dX3_statement_114 : decode cX3_statement 114 = .ok (.invokevirtual 100, 3) := by decide +kernel
theorem dX3_statement_117 : decode cX3_statement 117 = .ok (.ireturn, 1) := by decide +kernel
theorem dX3_statement_118 : decode cX3_statement 118 = .ok (.aload_n 0, 1) := by decide +kernel
theorem dX3_statement_119 : decode cX3_statement 119 = .ok (.ldc 104, 2) := by decide +kernel
theorem dX3_statement_121 : decode cX3_statement 121 = .ok (.invokevirtual 70, 3) := by decide +kernel
theorem dX3_statement_124 : decode cX3_statement 124 = .ok (.ifCond .eq 9, 3) := by decide +kernel
theorem dX3_statement_127 : decode cX3_statement 127 = .ok (.aload_n 0, 1) := by decide +kernel
theorem dX3_statement_128 : decode cX3_statement 128 = .ok (.iconst 1, 1) := by decide +kernel
theorem dX3_statement_129 : decode cX3_statement 129 = .ok (.invokevirtual 100, 3) := by decide +kernel
theorem dX3_statement_132 : decode cX3_statement 132 = .ok (.ireturn, 1) := by decide +kernel
theorem dX3_statement_133 : decode cX3_statement 133 = .ok (.aload_n 0, 1) := by decide +kernel
theorem dX3_statement_134 : decode cX3_statement 134 = .ok (.ldc 106, 2) := by decide +kernel
theorem dX3_statement_136 : decode cX3_statement 136 = .ok (.invokevirtual 70, 3) := by decide +kernel
theorem dX3_statement_139 : decode cX3_statement 139 = .ok (.ifCond .eq 15, 3) := by decide +kernel
theorem dX3_statement_142 : decode cX3_statement 142 = .ok (.aload_n 0, 1) := by decide +kernel
theorem dX3_statement_143 : decode cX3_statement 143 = .ok (.iconst 2, 1) := by decide +kernel
theorem dX3_statement_144 : decode cX3_statement 144 = .ok (.invokevirtual 100, 3) := by decide +kernel
theorem dX3_statement_147 : decode cX3_statement 147 = .ok (.ifCond .eq 7, 3) := by decide +kernel
theorem dX3_statement_150 : decode cX3_statement 150 = .ok (.iconst 1, 1) := by decide +kernel
theorem dX3_statement_151 : decode cX3_statement 151 = .ok (.goto 4, 3) := by decide +kernel
theorem dX3_statement_154 : decode cX3_statement 154 = .ok (.iconst 0, 1) := by decide +kernel
theorem dX3_statement_155 : decode cX3_statement 155 = .ok (.ireturn, 1) := by decide +kernel
theorem dX3_baker_0 : decode cX3_baker 0 = .ok (.aload_n 0, 1) := by decide +kernel
theorem dX3_baker_1 : decode cX3_baker 1 = .ok (.invokevirtual 108, 3) := by decide +kernel
theorem dX3_baker_4 : decode cX3_baker 4 = .ok (.ifCond .eq 22, 3) := by decide +kernel
theorem dX3_baker_7 : decode cX3_baker 7 = .ok (.aload_n 0, 1) := by decide +kernel
theorem dX3_baker_8 : decode cX3_baker 8 = .ok (.invokevirtual 111, 3) := by decide +kernel
theorem dX3_baker_11 : decode cX3_baker 11 = .ok (.iconst (-1), 1) := by decide +kernel
theorem dX3_baker_12 : decode cX3_baker 12 = .ok (.if_icmp .ne 14, 3) := by decide +kernel
theorem dX3_baker_15 : decode cX3_baker 15 = .ok (.aload_n 0, 1) := by decide +kernel
theorem dX3_baker_16 : decode cX3_baker 16 = .ok (.getfield 15, 3) := by decide +kernel
theorem dX3_baker_19 : decode cX3_baker 19 = .ok (.getfield 53, 3) := by decide +kernel
theorem dX3_baker_22 : decode cX3_baker 22 = .ok (.iconst 4, 1) := by decide +kernel
theorem dX3_baker_23 : decode cX3_baker 23 = .ok (.if_icmp .lt 5, 3) := by decide +kernel
theorem dX3_baker_26 : decode cX3_baker 26 = .ok (.iconst 0, 1) := by decide +kernel
theorem dX3_baker_27 : decode cX3_baker 27 = .ok (.ireturn, 1) := by decide +kernel
theorem dX3_baker_28 : decode cX3_baker 28 = .ok (.aload_n 0, 1) := by decide +kernel
theorem dX3_baker_29 : decode cX3_baker 29 = .ok (.getfield 59, 3) := by decide +kernel
theorem dX3_baker_32 : decode cX3_baker 32 = .ok (.lstore_n 1, 1) := by decide +kernel
theorem dX3_baker_33 : decode cX3_baker 33 = .ok (.aload_n 0, 1) := by decide +kernel
theorem dX3_baker_34 : decode cX3_baker 34 = .ok (.invokevirtual 37, 3) := by decide +kernel
theorem dX3_baker_37 : decode cX3_baker 37 = .ok (.aload_n 0, 1) := by decide +kernel
theorem dX3_baker_38 : decode cX3_baker 38 = .ok (.ldc 115, 2) := by decide +kernel
theorem dX3_baker_40 : decode cX3_baker 40 = .ok (.invokevirtual 70, 3) := by decide +kernel
theorem dX3_baker_43 : decode cX3_baker 43 = .ok (.ifCond .ne 5, 3) := by decide +kernel
theorem dX3_baker_46 : decode cX3_baker 46 = .ok (.iconst 0, 1) := by decide +kernel
theorem dX3_baker_47 : decode cX3_baker 47 = .ok (.ireturn, 1) := by decide +kernel
theorem dX3_baker_48 : decode cX3_baker 48 = .ok (.aload_n 0, 1) := by decide +kernel
theorem dX3_baker_49 : decode cX3_baker 49 = .ok (.iconst 0, 1) := by decide +kernel
theorem dX3_baker_50 : decode cX3_baker 50 = .ok (.bipush 99, 2) := by decide +kernel
theorem dX3_baker_52 : decode cX3_baker 52 = .ok (.invokevirtual 87, 3) := by decide +kernel
theorem dX3_baker_55 : decode cX3_baker 55 = .ok (.istore_n 3, 1) := by decide +kernel
theorem dX3_baker_56 : decode cX3_baker 56 = .ok (.iload_n 3, 1) := by decide +kernel
theorem dX3_baker_57 : decode cX3_baker 57 = .ok (.iconst (-1), 1) := by decide +kernel
theorem dX3_baker_58 : decode cX3_baker 58 = .ok (.if_icmp .ne 5, 3) := by decide +kernel
theorem dX3_baker_61 : decode cX3_baker 61 = .ok (.iconst 0, 1) := by decide +kernel
theorem dX3_baker_62 : decode cX3_baker 62 = .ok (.ireturn, 1) := by decide +kernel
theorem dX3_baker_63 : decode cX3_baker 63 = .ok (.aload_n 0, 1) := by decide +kernel
theorem dX3_baker_64 : decode cX3_baker 64 = .ok (.getfield 15, 3) := by decide +kernel
theorem dX3_baker_67 : decode cX3_baker 67 = .ok (.lload_n 1, 1) := by decide +kernel
theorem dX3_baker_68 : decode cX3_baker 68 = .ok (.iload_n 3, 1) := by decide +kernel
theorem dX3_baker_69 : decode cX3_baker 69 = .ok (.invokevirtual 117, 3) := by decide +kernel
theorem dX3_baker_72 : decode cX3_baker 72 = .ok (.aload_n 0, 1) := by decide +kernel
theorem dX3_baker_73 : decode cX3_baker 73 = .ok (.invokevirtual 92, 3) := by decide +kernel
theorem dX3_baker_76 : decode cX3_baker 76 = .ok (.ireturn, 1) := by decide +kernel
theorem dX3_steps_0 : decode cX3_steps 0 = .ok (.aload_n 0, 1) := by decide +kernel
theorem dX3_steps_1 : decode cX3_steps 1 = .ok (.getfield 15, 3) := by decide +kernel
theorem dX3_steps_4 : decode cX3_steps 4 = .ok (.aload_n 0, 1) := by decide +kernel
theorem dX3_steps_5 : decode cX3_steps 5 = .ok (.iconst 1, 1) := by decide +kernel
theorem dX3_steps_6 : decode cX3_steps 6 = .ok (.bipush 8, 2) := by decide +kernel
theorem dX3_steps_8 : decode cX3_steps 8 = .ok (.invokevirtual 87, 3) := by decide +kernel
theorem dX3_steps_11 : decode cX3_steps 11 = .ok (.putfield 121, 3) := by decide +kernel
theorem dX3_steps_14 : decode cX3_steps 14 = .ok (.aload_n 0, 1) := by decide +kernel
theorem dX3_steps_15 : decode cX3_steps 15 = .ok (.getfield 15, 3) := by decide +kernel
theorem dX3_steps_18 : decode cX3_steps 18 = .ok (.getfield 121, 3) := by decide +kernel
theorem dX3_steps_21 : decode cX3_steps 21 = .ok (.iconst (-1), 1) := by decide +kernel
theorem dX3_steps_22 : decode cX3_steps 22 = .ok (.if_icmp .eq 12, 3) := by decide +kernel
theorem dX3_steps_25 : decode cX3_steps 25 = .ok (.aload_n 0, 1) := by decide +kernel
theorem dX3_steps_26 : decode cX3_steps 26 = .ok (.ldc 123, 2) := by decide +kernel
theorem dX3_steps_28 : decode cX3_steps 28 = .ok (.invokevirtual 70, 3) := by decide +kernel
theorem dX3_steps_31 : decode cX3_steps 31 = .ok (.ifCond .ne 5, 3) := by decide +kernel
theorem dX3_steps_34 : decode cX3_steps 34 = .ok (.iconst 0, 1) := by decide +kernel
theorem dX3_steps_35 : decode cX3_steps 35 = .ok (.ireturn, 1) := by decide +kernel
theorem dX3_steps_36 : decode cX3_steps 36 = .ok (.aload_n 0, 1) := by decide +kernel
theorem dX3_steps_37 : decode cX3_steps 37 = .ok (.getfield 15, 3) := by decide +kernel
theorem dX3_steps_40 : decode cX3_steps 40 = .ok (.aload_n 0, 1) := by decide +kernel
theorem dX3_steps_41 : decode cX3_steps 41 = .ok (.iconst 0, 1) := by decide +kernel
theorem dX3_steps_42 : decode cX3_steps 42 = .ok (.bipush 99, 2) := by decide +kernel
theorem dX3_steps_44 : decode cX3_steps 44 = .ok (.invokevirtual 87, 3) := by decide +kernel
theorem dX3_steps_47 : decode cX3_steps 47 = .ok (.putfield 125, 3) := by decide +kernel
theorem dX3_steps_50 : decode cX3_steps 50 = .ok (.aload_n 0, 1) := by decide +kernel
theorem dX3_steps_51 : decode cX3_steps 51 = .ok (.getfield 15, 3) := by decide +kernel
theorem dX3_steps_54 : decode cX3_steps 54 = .ok (.getfield 125, 3) := by decide +kernel
theorem dX3_steps_57 : decode cX3_steps 57 = .ok (.iconst (-1), 1) := by decide +kernel
theorem dX3_steps_58 : decode cX3_steps 58 = .ok (.if_icmp .eq 12, 3) := by decide +kernel
theorem dX3_steps_61 : decode cX3_steps 61 = .ok (.aload_n 0, 1) := by decide +kernel
theorem dX3_steps_62 : decode cX3_steps 62 = .ok (.ldc 127, 2) := by decide +kernel
theorem dX3_steps_64 : decode cX3_steps 64 = .ok (.invokevirtual 70, 3) := by decide +kernel
theorem dX3_steps_67 : decode cX3_steps 67 = .ok (.ifCond .ne 5, 3) := by decide +kernel
theorem dX3_steps_70 : decode cX3_steps 70 = .ok (.iconst 0, 1) := by decide +kernel
theorem dX3_steps_71 : decode cX3_steps 71 = .ok (.ireturn, 1) := by decide +kernel
theorem dX3_steps_72 : decode cX3_steps 72 = .ok (.aload_n 0, 1) := by decide +kernel
theorem dX3_steps_73 : decode cX3_steps 73 = .ok (.getfield 15, 3) := by decide +kernel
theorem dX3_steps_76 : decode cX3_steps 76 = .ok (.aload_n 0, 1) := by decide +kernel
theorem dX3_steps_77 : decode cX3_steps 77 = .ok (.iconst 1, 1) := by decide +kernel
theorem dX3_steps_78 : decode cX3_steps 78 = .ok (.bipush 20, 2) := by decide +kernel
theorem dX3_steps_80 : decode cX3_steps 80 = .ok (.invokevirtual 87, 3) := by decide +kernel
theorem dX3_steps_83 : decode cX3_steps 83 = .ok (.putfield 129, 3) := by decide +kernel
theorem dX3_steps_86 : decode cX3_steps 86 = .ok (.aload_n 0, 1) := by decide +kernel
theorem dX3_steps_87 : decode cX3_steps 87 = .ok (.getfield 15, 3) := by decide +kernel
theorem dX3_steps_90 : decode cX3_steps 90 = .ok (.getfield 129, 3) := by decide +kernel
theorem dX3_steps_93 : decode cX3_steps 93 = .ok (.iconst (-1), 1) := by decide +kernel
theorem dX3_steps_94 : decode cX3_steps 94 = .ok (.if_icmp .eq 14, 3) := by decide +kernel
theorem dX3_steps_97 : decode cX3_steps 97 = .ok (.aload_n 0, 1) := by decide +kernel
theorem dX3_steps_98 : decode cX3_steps 98 = .ok (.invokevirtual 92, 3) := by decide +kernel
theorem dX3_steps_101 : decode cX3_steps 101 = .ok (.ifCond .eq 7, 3) := by decide +kernel
theorem dX3_steps_104 : decode cX3_steps 104 = .ok (.iconst 1, 1) := by decide +kernel
theorem dX3_steps_105 : decode cX3_steps 105 = .ok (.goto 4, 3) := by decide +kernel
theorem dX3_steps_108 : decode cX3_steps 108 = .ok (.iconst 0, 1) := by decide +kernel
theorem dX3_steps_109 : decode cX3_steps 109 = .ok (.ireturn, 1) := by decide +kernel
theorem dX3_listing_0 : decode cX3_listing 0 = .ok (.aload_n 0, 1) := by decide +kernel
theorem dX3_listing_1 : decode cX3_listing 1 = .ok (.invokevirtual 111, 3) := by decide +kernel
theorem dX3_listing_4 : decode cX3_listing 4 = .ok (.istore_n 1, 1) := by decide +kernel
theorem dX3_listing_5 : decode cX3_listing 5 = .ok (.iload_n 1, 1) := by decide +kernel
theorem dX3_listing_6 : decode cX3_listing 6 = .ok (.iconst (-1), 1) := by decide +kernel
theorem dX3_listing_7 : decode cX3_listing 7 = .ok (.if_icmp .ne 5, 3) := by decide +kernel
theorem dX3_listing_10 : decode cX3_listing 10 = .ok (.iconst 0, 1) := by decide +kernel
theorem dX3_listing_11 : decode cX3_listing 11 = .ok (.ireturn, 1) := by decide +kernel
theorem dX3_listing_12 : decode cX3_listing 12 = .ok (.aload_n 0, 1) := by decide +kernel
theorem dX3_listing_13 : decode cX3_listing 13 = .ok (.getfield 15, 3) := by decide +kernel
theorem dX3_listing_16 : decode cX3_listing 16 = .ok (.dup, 1) := by decide +kernel
theorem dX3_listing_17 : decode cX3_listing 17 = .ok (.getfield 131, 3) := by decide +kernel
theorem dX3_listing_20 : decode cX3_listing 20 = .ok (.iconst 1, 1) := by decide +kernel
theorem dX3_listing_21 : decode cX3_listing 21 = .ok (.iload_n 1, 1) := by decide +kernel
theorem dX3_listing_22 : decode cX3_listing 22 = .ok (.ishl, 1) := by decide +kernel
theorem dX3_listing_23 : decode cX3_listing 23 = .ok (.ior, 1) := by decide +kernel
theorem dX3_listing_24 : decode cX3_listing 24 = .ok (.putfield 131, 3) := by decide +kernel
theorem dX3_listing_27 : decode cX3_listing 27 = .ok (.aload_n 0, 1) := by decide +kernel
theorem dX3_listing_28 : decode cX3_listing 28 = .ok (.invokevirtual 37, 3) := by decide +kernel
theorem dX3_listing_31 : decode cX3_listing 31 = .ok (.aload_n 0, 1) := by decide +kernel
theorem dX3_listing_32 : decode cX3_listing 32 = .ok (.invokevirtual 92, 3) := by decide +kernel
theorem dX3_listing_35 : decode cX3_listing 35 = .ok (.ireturn, 1) := by decide +kernel
theorem dX3_sort_0 : decode cX3_sort 0 = .ok (.aload_n 0, 1) := by decide +kernel
theorem dX3_sort_1 : decode cX3_sort 1 = .ok (.iconst 1, 1) := by decide +kernel
theorem dX3_sort_2 : decode cX3_sort 2 = .ok (.bipush 99, 2) := by decide +kernel
theorem dX3_sort_4 : decode cX3_sort 4 = .ok (.invokevirtual 87, 3) := by decide +kernel
theorem dX3_sort_7 : decode cX3_sort 7 = .ok (.istore_n 2, 1) := by decide +kernel
theorem dX3_sort_8 : decode cX3_sort 8 = .ok (.iload_n 2, 1) := by decide +kernel
theorem dX3_sort_9 : decode cX3_sort 9 = .ok (.iconst (-1), 1) := by decide +kernel
theorem dX3_sort_10 : decode cX3_sort 10 = .ok (.if_icmp .ne 5, 3) := by decide +kernel
theorem dX3_sort_13 : decode cX3_sort 13 = .ok (.iconst 0, 1) := by decide +kernel
theorem dX3_sort_14 : decode cX3_sort 14 = .ok (.ireturn, 1) := by decide +kernel
theorem dX3_sort_15 : decode cX3_sort 15 = .ok (.iconst 0, 1) := by decide +kernel
theorem dX3_sort_16 : decode cX3_sort 16 = .ok (.istore_n 3, 1) := by decide +kernel
theorem dX3_sort_17 : decode cX3_sort 17 = .ok (.iload_n 1, 1) := by decide +kernel
theorem dX3_sort_18 : decode cX3_sort 18 = .ok (.ifCond .ne 24, 3) := by decide +kernel
theorem dX3_sort_21 : decode cX3_sort 21 = .ok (.aload_n 0, 1) := by decide +kernel
theorem dX3_sort_22 : decode cX3_sort 22 = .ok (.ldc 134, 2) := by decide +kernel
theorem dX3_sort_24 : decode cX3_sort 24 = .ok (.invokevirtual 70, 3) := by decide +kernel
theorem dX3_sort_27 : decode cX3_sort 27 = .ok (.ifCond .eq 10, 3) := by decide +kernel
theorem dX3_sort_30 : decode cX3_sort 30 = .ok (.aload_n 0, 1) := by decide +kernel
theorem dX3_sort_31 : decode cX3_sort 31 = .ok (.invokevirtual 136, 3) := by decide +kernel
theorem dX3_sort_34 : decode cX3_sort 34 = .ok (.goto 4, 3) := by decide +kernel
theorem dX3_sort_37 : decode cX3_sort 37 = .ok (.iconst (-1), 1) := by decide +kernel
theorem dX3_sort_38 : decode cX3_sort 38 = .ok (.istore_n 3, 1) := by decide +kernel
theorem dX3_sort_39 : decode cX3_sort 39 = .ok (.goto 28, 3) := by decide +kernel
theorem dX3_sort_42 : decode cX3_sort 42 = .ok (.iload_n 1, 1) := by decide +kernel
theorem dX3_sort_43 : decode cX3_sort 43 = .ok (.iconst 1, 1) := by decide +kernel
theorem dX3_sort_44 : decode cX3_sort 44 = .ok (.if_icmp .ne 23, 3) := by decide +kernel
theorem dX3_sort_47 : decode cX3_sort 47 = .ok (.aload_n 0, 1) := by decide +kernel
theorem dX3_sort_48 : decode cX3_sort 48 = .ok (.ldc 139, 2) := by decide +kernel
theorem dX3_sort_50 : decode cX3_sort 50 = .ok (.invokevirtual 70, 3) := by decide +kernel
theorem dX3_sort_53 : decode cX3_sort 53 = .ok (.ifCond .eq 12, 3) := by decide +kernel
theorem dX3_sort_56 : decode cX3_sort 56 = .ok (.aload_n 0, 1) := by decide +kernel
theorem dX3_sort_57 : decode cX3_sort 57 = .ok (.iconst 1, 1) := by decide +kernel
theorem dX3_sort_58 : decode cX3_sort 58 = .ok (.iconst 4, 1) := by decide +kernel
theorem dX3_sort_59 : decode cX3_sort 59 = .ok (.invokevirtual 87, 3) := by decide +kernel
theorem dX3_sort_62 : decode cX3_sort 62 = .ok (.goto 4, 3) := by decide +kernel
theorem dX3_sort_65 : decode cX3_sort 65 = .ok (.iconst (-1), 1) := by decide +kernel
theorem dX3_sort_66 : decode cX3_sort 66 = .ok (.istore_n 3, 1) := by decide +kernel
theorem dX3_sort_67 : decode cX3_sort 67 = .ok (.iload_n 3, 1) := by decide +kernel
theorem dX3_sort_68 : decode cX3_sort 68 = .ok (.iconst (-1), 1) := by decide +kernel
theorem dX3_sort_69 : decode cX3_sort 69 = .ok (.if_icmp .ne 5, 3) := by decide +kernel
theorem dX3_sort_72 : decode cX3_sort 72 = .ok (.iconst 0, 1) := by decide +kernel
theorem dX3_sort_73 : decode cX3_sort 73 = .ok (.ireturn, 1) := by decide +kernel
theorem dX3_sort_74 : decode cX3_sort 74 = .ok (.aload_n 0, 1) := by decide +kernel
theorem dX3_sort_75 : decode cX3_sort 75 = .ok (.ldc 141, 2) := by decide +kernel
theorem dX3_sort_77 : decode cX3_sort 77 = .ok (.invokevirtual 70, 3) := by decide +kernel
theorem dX3_sort_80 : decode cX3_sort 80 = .ok (.ifCond .eq 14, 3) := by decide +kernel
theorem dX3_sort_83 : decode cX3_sort 83 = .ok (.aload_n 0, 1) := by decide +kernel
theorem dX3_sort_84 : decode cX3_sort 84 = .ok (.iconst 0, 1) := by decide +kernel
theorem dX3_sort_85 : decode cX3_sort 85 = .ok (.sipush 999, 3) := by decide +kernel
theorem dX3_sort_88 : decode cX3_sort 88 = .ok (.invokevirtual 87, 3) := by decide +kernel
theorem dX3_sort_91 : decode cX3_sort 91 = .ok (.goto 6, 3) := by decide +kernel
theorem dX3_sort_94 : decode cX3_sort 94 = .ok (.sipush 999, 3) := by decide +kernel
theorem dX3_sort_97 : decode cX3_sort 97 = .ok (.istore 4, 2) := by decide +kernel
theorem dX3_sort_99 : decode cX3_sort 99 = .ok (.iload 4, 2) := by decide +kernel
theorem dX3_sort_101 : decode cX3_sort 101 = .ok (.iconst (-1), 1) := by decide +kernel
theorem dX3_sort_102 : decode cX3_sort 102 = .ok (.if_icmp .ne 5, 3) := by decide +kernel
theorem dX3_sort_105 : decode cX3_sort 105 = .ok (.iconst 0, 1) := by decide +kernel
theorem dX3_sort_106 : decode cX3_sort 106 = .ok (.ireturn, 1) := by decide +kernel
theorem dX3_sort_107 : decode cX3_sort 107 = .ok (.aload_n 0, 1) := by decide +kernel
theorem dX3_sort_108 : decode cX3_sort 108 = .ok (.getfield 15, 3) := by decide +kernel
theorem dX3_sort_111 : decode cX3_sort 111 = .ok (.iload_n 1, 1) := by decide +kernel
theorem dX3_sort_112 : decode cX3_sort 112 = .ok (.iload_n 2, 1) := by decide +kernel
theorem dX3_sort_113 : decode cX3_sort 113 = .ok (.iload_n 3, 1) := by decide +kernel
theorem dX3_sort_114 : decode cX3_sort 114 = .ok (.iload 4, 2) := by decide +kernel
theorem dX3_sort_116 : decode cX3_sort 116 = .ok (.invokevirtual 143, 3) := by decide +kernel
theorem dX3_sort_119 : decode cX3_sort 119 = .ok (.aload_n 0, 1) := by decide +kernel
theorem dX3_sort_120 : decode cX3_sort 120 = .ok (.invokevirtual 92, 3) := by decide +kernel
theorem dX3_sort_123 : decode cX3_sort 123 = .ok (.ireturn, 1) := by decide +kernel
theorem dX3_asked_0 : decode cX3_asked 0 = .ok (.iconst 0, 1) := by decide +kernel
theorem dX3_asked_1 : decode cX3_asked 1 = .ok (.istore_n 1, 1) := by decide +kernel
theorem dX3_asked_2 : decode cX3_asked 2 = .ok (.iconst 0, 1) := by decide +kernel
theorem dX3_asked_3 : decode cX3_asked 3 = .ok (.istore_n 2, 1) := by decide +kernel
theorem dX3_asked_4 : decode cX3_asked 4 = .ok (.iload_n 2, 1) := by decide +kernel
theorem dX3_asked_5 : decode cX3_asked 5 = .ok (.iconst 4, 1) := by decide +kernel
theorem dX3_asked_6 : decode cX3_asked 6 = .ok (.if_icmp .gt 50, 3) := by decide +kernel
theorem dX3_asked_9 : decode cX3_asked 9 = .ok (.aload_n 0, 1) := by decide +kernel
theorem dX3_asked_10 : decode cX3_asked 10 = .ok (.invokevirtual 111, 3) := by decide +kernel
theorem dX3_asked_13 : decode cX3_asked 13 = .ok (.istore_n 3, 1) := by decide +kernel
theorem dX3_asked_14 : decode cX3_asked 14 = .ok (.iload_n 3, 1) := by decide +kernel
theorem dX3_asked_15 : decode cX3_asked 15 = .ok (.iconst (-1), 1) := by decide +kernel
theorem dX3_asked_16 : decode cX3_asked 16 = .ok (.if_icmp .eq 11, 3) := by decide +kernel
theorem dX3_asked_19 : decode cX3_asked 19 = .ok (.iload_n 1, 1) := by decide +kernel
theorem dX3_asked_20 : decode cX3_asked 20 = .ok (.iload_n 3, 1) := by decide +kernel
theorem dX3_asked_21 : decode cX3_asked 21 = .ok (.ishr, 1) := by decide +kernel
theorem dX3_asked_22 : decode cX3_asked 22 = .ok (.iconst 1, 1) := by decide +kernel
theorem dX3_asked_23 : decode cX3_asked 23 = .ok (.iand, 1) := by decide +kernel
theorem dX3_asked_24 : decode cX3_asked 24 = .ok (.ifCond .eq 5, 3) := by decide +kernel
theorem dX3_asked_27 : decode cX3_asked 27 = .ok (.iconst (-1), 1) := by decide +kernel
theorem dX3_asked_28 : decode cX3_asked 28 = .ok (.ireturn, 1) := by decide +kernel
theorem dX3_asked_29 : decode cX3_asked 29 = .ok (.iload_n 1, 1) := by decide +kernel
theorem dX3_asked_30 : decode cX3_asked 30 = .ok (.iconst 1, 1) := by decide +kernel
theorem dX3_asked_31 : decode cX3_asked 31 = .ok (.iload_n 3, 1) := by decide +kernel
theorem dX3_asked_32 : decode cX3_asked 32 = .ok (.ishl, 1) := by decide +kernel
theorem dX3_asked_33 : decode cX3_asked 33 = .ok (.ior, 1) := by decide +kernel
theorem dX3_asked_34 : decode cX3_asked 34 = .ok (.istore_n 1, 1) := by decide +kernel
theorem dX3_asked_35 : decode cX3_asked 35 = .ok (.aload_n 0, 1) := by decide +kernel
theorem dX3_asked_36 : decode cX3_asked 36 = .ok (.invokevirtual 37, 3) := by decide +kernel
theorem dX3_asked_39 : decode cX3_asked 39 = .ok (.aload_n 0, 1) := by decide +kernel
theorem dX3_asked_40 : decode cX3_asked 40 = .ok (.ldc 147, 2) := by decide +kernel
theorem dX3_asked_42 : decode cX3_asked 42 = .ok (.invokevirtual 70, 3) := by decide +kernel
theorem dX3_asked_45 : decode cX3_asked 45 = .ok (.ifCond .ne 5, 3) := by decide +kernel
theorem dX3_asked_48 : decode cX3_asked 48 = .ok (.iload_n 1, 1) := by decide +kernel
theorem dX3_asked_49 : decode cX3_asked 49 = .ok (.ireturn, 1) := by decide +kernel
theorem dX3_asked_50 : decode cX3_asked 50 = .ok (.iinc 2 1, 3) := by decide +kernel
theorem dX3_asked_53 : decode cX3_asked 53 = .ok (.goto (-49), 3) := by decide +kernel
theorem dX3_asked_56 : decode cX3_asked 56 = .ok (.iconst (-1), 1) := by decide +kernel
theorem dX3_asked_57 : decode cX3_asked 57 = .ok (.ireturn, 1) := by decide +kernel
theorem dX3_ended_0 : decode cX3_ended 0 = .ok (.aload_n 0, 1) := by decide +kernel
theorem dX3_ended_1 : decode cX3_ended 1 = .ok (.getfield 40, 3) := by decide +kernel
theorem dX3_ended_4 : decode cX3_ended 4 = .ok (.iconst 3, 1) := by decide +kernel
theorem dX3_ended_5 : decode cX3_ended 5 = .ok (.if_icmp .eq 5, 3) := by decide +kernel
theorem dX3_ended_8 : decode cX3_ended 8 = .ok (.iconst 0, 1) := by decide +kernel
theorem dX3_ended_9 : decode cX3_ended 9 = .ok (.ireturn, 1) := by decide +kernel
theorem dX3_ended_10 : decode cX3_ended 10 = .ok (.aload_n 0, 1) := by decide +kernel
theorem dX3_ended_11 : decode cX3_ended 11 = .ok (.invokevirtual 37, 3) := by decide +kernel
theorem dX3_ended_14 : decode cX3_ended 14 = .ok (.iconst 1, 1) := by decide +kernel
theorem dX3_ended_15 : decode cX3_ended 15 = .ok (.ireturn, 1) := by decide +kernel
theorem dX3_accept_0 : decode cX3_accept 0 = .ok (.aload_n 0, 1) := by decide +kernel
theorem dX3_accept_1 : decode cX3_accept 1 = .ok (.getfield 40, 3) := by decide +kernel
theorem dX3_accept_4 : decode cX3_accept 4 = .ok (.iconst 1, 1) := by decide +kernel
theorem dX3_accept_5 : decode cX3_accept 5 = .ok (.if_icmp .ne 23, 3) := by decide +kernel
theorem dX3_accept_8 : decode cX3_accept 8 = .ok (.aload_n 0, 1) := by decide +kernel
theorem dX3_accept_9 : decode cX3_accept 9 = .ok (.getfield 65, 3) := by decide +kernel
theorem dX3_accept_12 : decode cX3_accept 12 = .ok (.aload_n 1, 1) := by decide +kernel
theorem dX3_accept_13 : decode cX3_accept 13 = .ok (.invokevirtual 149, 3) := by decide +kernel
theorem dX3_accept_16 : decode cX3_accept 16 = .ok (.if_icmp .ne 12, 3) := by decide +kernel
theorem dX3_accept_19 : decode cX3_accept 19 = .ok (.aload_n 0, 1) := by decide +kernel
theorem dX3_accept_20 : decode cX3_accept 20 = .ok (.aload_n 1, 1) := by decide +kernel
theorem dX3_accept_21 : decode cX3_accept 21 = .ok (.iconst 0, 1) := by decide +kernel
theorem dX3_accept_22 : decode cX3_accept 22 = .ok (.invokevirtual 153, 3) := by decide +kernel
theorem dX3_accept_25 : decode cX3_accept 25 = .ok (.ifCond .ne 5, 3) := by decide +kernel
theorem dX3_accept_28 : decode cX3_accept 28 = .ok (.iconst 0, 1) := by decide +kernel
theorem dX3_accept_29 : decode cX3_accept 29 = .ok (.ireturn, 1) := by decide +kernel
theorem dX3_accept_30 : decode cX3_accept 30 = .ok (.aload_n 0, 1) := by decide +kernel
theorem dX3_accept_31 : decode cX3_accept 31 = .ok (.invokevirtual 37, 3) := by decide +kernel
theorem dX3_accept_34 : decode cX3_accept 34 = .ok (.iconst 1, 1) := by decide +kernel
theorem dX3_accept_35 : decode cX3_accept 35 = .ok (.ireturn, 1) := by decide +kernel
theorem dX3_number_0 : decode cX3_number 0 = .ok (.aload_n 0, 1) := by decide +kernel
theorem dX3_number_1 : decode cX3_number 1 = .ok (.getfield 40, 3) := by decide +kernel
theorem dX3_number_4 : decode cX3_number 4 = .ok (.iconst 2, 1) := by decide +kernel
theorem dX3_number_5 : decode cX3_number 5 = .ok (.if_icmp .ne 27, 3) := by decide +kernel
theorem dX3_number_8 : decode cX3_number 8 = .ok (.aload_n 0, 1) := by decide +kernel
theorem dX3_number_9 : decode cX3_number 9 = .ok (.getfield 65, 3) := by decide +kernel
theorem dX3_number_12 : decode cX3_number 12 = .ok (.iconst 4, 1) := by decide +kernel
theorem dX3_number_13 : decode cX3_number 13 = .ok (.if_icmp .gt 19, 3) := by decide +kernel
theorem dX3_number_16 : decode cX3_number 16 = .ok (.aload_n 0, 1) := by decide +kernel
theorem dX3_number_17 : decode cX3_number 17 = .ok (.getfield 56, 3) := by decide +kernel
theorem dX3_number_20 : decode cX3_number 20 = .ok (.iload_n 1, 1) := by decide +kernel
theorem dX3_number_21 : decode cX3_number 21 = .ok (.if_icmp .lt 11, 3) := by decide +kernel
theorem dX3_number_24 : decode cX3_number 24 = .ok (.aload_n 0, 1) := by decide +kernel
theorem dX3_number_25 : decode cX3_number 25 = .ok (.getfield 56, 3) := by decide +kernel
theorem dX3_number_28 : decode cX3_number 28 = .ok (.iload_n 2, 1) := by decide +kernel
theorem dX3_number_29 : decode cX3_number 29 = .ok (.if_icmp .le 5, 3) := by decide +kernel
theorem dX3_number_32 : decode cX3_number 32 = .ok (.iconst (-1), 1) := by decide +kernel
theorem dX3_number_33 : decode cX3_number 33 = .ok (.ireturn, 1) := by decide +kernel
theorem dX3_number_34 : decode cX3_number 34 = .ok (.aload_n 0, 1) := by decide +kernel
theorem dX3_number_35 : decode cX3_number 35 = .ok (.getfield 56, 3) := by decide +kernel
theorem dX3_number_38 : decode cX3_number 38 = .ok (.istore_n 3, 1) := by decide +kernel
theorem dX3_number_39 : decode cX3_number 39 = .ok (.aload_n 0, 1) := by decide +kernel
theorem dX3_number_40 : decode cX3_number 40 = .ok (.invokevirtual 37, 3) := by decide +kernel
theorem dX3_number_43 : decode cX3_number 43 = .ok (.iload_n 3, 1) := by decide +kernel
theorem dX3_number_44 : decode cX3_number 44 = .ok (.ireturn, 1) := by decide +kernel
theorem dX3_isName_0 : decode cX3_isName 0 = .ok (.aload_n 0, 1) := by decide +kernel
theorem dX3_isName_1 : decode cX3_isName 1 = .ok (.getfield 40, 3) := by decide +kernel
theorem dX3_isName_4 : decode cX3_isName 4 = .ok (.iconst 1, 1) := by decide +kernel
theorem dX3_isName_5 : decode cX3_isName 5 = .ok (.if_icmp .ne 23, 3) := by decide +kernel
theorem dX3_isName_8 : decode cX3_isName 8 = .ok (.aload_n 0, 1) := by decide +kernel
theorem dX3_isName_9 : decode cX3_isName 9 = .ok (.getfield 65, 3) := by decide +kernel
theorem dX3_isName_12 : decode cX3_isName 12 = .ok (.bipush 8, 2) := by decide +kernel
theorem dX3_isName_14 : decode cX3_isName 14 = .ok (.if_icmp .gt 14, 3) := by decide +kernel
theorem dX3_isName_17 : decode cX3_isName 17 = .ok (.aload_n 0, 1) := by decide +kernel
theorem dX3_isName_18 : decode cX3_isName 18 = .ok (.invokevirtual 157, 3) := by decide +kernel
theorem dX3_isName_21 : decode cX3_isName 21 = .ok (.ifCond .ne 7, 3) := by decide +kernel
theorem dX3_isName_24 : decode cX3_isName 24 = .ok (.iconst 1, 1) := by decide +kernel
theorem dX3_isName_25 : decode cX3_isName 25 = .ok (.goto 4, 3) := by decide +kernel
theorem dX3_isName_28 : decode cX3_isName 28 = .ok (.iconst 0, 1) := by decide +kernel
theorem dX3_isName_29 : decode cX3_isName 29 = .ok (.ireturn, 1) := by decide +kernel
theorem dX3_isKeyword_0 : decode cX3_isKeyword 0 = .ok (.iconst 0, 1) := by decide +kernel
theorem dX3_isKeyword_1 : decode cX3_isKeyword 1 = .ok (.istore_n 1, 1) := by decide +kernel
theorem dX3_isKeyword_2 : decode cX3_isKeyword 2 = .ok (.iconst 0, 1) := by decide +kernel
theorem dX3_isKeyword_3 : decode cX3_isKeyword 3 = .ok (.istore_n 2, 1) := by decide +kernel
theorem dX3_isKeyword_4 : decode cX3_isKeyword 4 = .ok (.iload_n 2, 1) := by decide +kernel
theorem dX3_isKeyword_5 : decode cX3_isKeyword 5 = .ok (.ldc 160, 2) := by decide +kernel
theorem dX3_isKeyword_7 : decode cX3_isKeyword 7 = .ok (.invokevirtual 149, 3) := by decide +kernel
theorem dX3_isKeyword_10 : decode cX3_isKeyword 10 = .ok (.if_icmp .ge 46, 3) := by decide +kernel
theorem dX3_isKeyword_13 : decode cX3_isKeyword 13 = .ok (.ldc 160, 2) := by decide +kernel
theorem dX3_isKeyword_15 : decode cX3_isKeyword 15 = .ok (.iload_n 2, 1) := by decide +kernel
theorem dX3_isKeyword_16 : decode cX3_isKeyword 16 = .ok (.invokevirtual 162, 3) := by decide +kernel
theorem dX3_isKeyword_19 : decode cX3_isKeyword 19 = .ok (.bipush 32, 2) := by decide +kernel
theorem dX3_isKeyword_21 : decode cX3_isKeyword 21 = .ok (.if_icmp .ne 29, 3) := by decide +kernel
theorem dX3_isKeyword_24 : decode cX3_isKeyword 24 = .ok (.iload_n 2, 1) := by decide +kernel
theorem dX3_isKeyword_25 : decode cX3_isKeyword 25 = .ok (.iload_n 1, 1) := by decide +kernel
theorem dX3_isKeyword_26 : decode cX3_isKeyword 26 = .ok (.isub, 1) := by decide +kernel
theorem dX3_isKeyword_27 : decode cX3_isKeyword 27 = .ok (.aload_n 0, 1) := by decide +kernel
theorem dX3_isKeyword_28 : decode cX3_isKeyword 28 = .ok (.getfield 65, 3) := by decide +kernel
theorem dX3_isKeyword_31 : decode cX3_isKeyword 31 = .ok (.if_icmp .ne 15, 3) := by decide +kernel
theorem dX3_isKeyword_34 : decode cX3_isKeyword 34 = .ok (.aload_n 0, 1) := by decide +kernel
theorem dX3_isKeyword_35 : decode cX3_isKeyword 35 = .ok (.ldc 160, 2) := by decide +kernel
theorem dX3_isKeyword_37 : decode cX3_isKeyword 37 = .ok (.iload_n 1, 1) := by decide +kernel
theorem dX3_isKeyword_38 : decode cX3_isKeyword 38 = .ok (.invokevirtual 153, 3) := by decide +kernel
theorem dX3_isKeyword_41 : decode cX3_isKeyword 41 = .ok (.ifCond .eq 5, 3) := by decide +kernel
theorem dX3_isKeyword_44 : decode cX3_isKeyword 44 = .ok (.iconst 1, 1) := by decide +kernel
theorem dX3_isKeyword_45 : decode cX3_isKeyword 45 = .ok (.ireturn, 1) := by decide +kernel
theorem dX3_isKeyword_46 : decode cX3_isKeyword 46 = .ok (.iload_n 2, 1) := by decide +kernel
theorem dX3_isKeyword_47 : decode cX3_isKeyword 47 = .ok (.iconst 1, 1) := by decide +kernel
theorem dX3_isKeyword_48 : decode cX3_isKeyword 48 = .ok (.iadd, 1) := by decide +kernel
theorem dX3_isKeyword_49 : decode cX3_isKeyword 49 = .ok (.istore_n 1, 1) := by decide +kernel
theorem dX3_isKeyword_50 : decode cX3_isKeyword 50 = .ok (.iinc 2 1, 3) := by decide +kernel
theorem dX3_isKeyword_53 : decode cX3_isKeyword 53 = .ok (.goto (-49), 3) := by decide +kernel
theorem dX3_isKeyword_56 : decode cX3_isKeyword 56 = .ok (.iconst 0, 1) := by decide +kernel
theorem dX3_isKeyword_57 : decode cX3_isKeyword 57 = .ok (.ireturn, 1) := by decide +kernel
theorem dX3_spells_0 : decode cX3_spells 0 = .ok (.iload_n 2, 1) := by decide +kernel
theorem dX3_spells_1 : decode cX3_spells 1 = .ok (.aload_n 0, 1) := by decide +kernel
theorem dX3_spells_2 : decode cX3_spells 2 = .ok (.getfield 65, 3) := by decide +kernel
theorem dX3_spells_5 : decode cX3_spells 5 = .ok (.iadd, 1) := by decide +kernel
theorem dX3_spells_6 : decode cX3_spells 6 = .ok (.aload_n 1, 1) := by decide +kernel
theorem dX3_spells_7 : decode cX3_spells 7 = .ok (.invokevirtual 149, 3) := by decide +kernel
theorem dX3_spells_10 : decode cX3_spells 10 = .ok (.if_icmp .gt 19, 3) := by decide +kernel
theorem dX3_spells_13 : decode cX3_spells 13 = .ok (.aload_n 0, 1) := by decide +kernel
theorem dX3_spells_14 : decode cX3_spells 14 = .ok (.getfield 50, 3) := by decide +kernel
theorem dX3_spells_17 : decode cX3_spells 17 = .ok (.aload_n 0, 1) := by decide +kernel
theorem dX3_spells_18 : decode cX3_spells 18 = .ok (.getfield 65, 3) := by decide +kernel
theorem dX3_spells_21 : decode cX3_spells 21 = .ok (.iadd, 1) := by decide +kernel
theorem dX3_spells_22 : decode cX3_spells 22 = .ok (.aload_n 0, 1) := by decide +kernel
theorem dX3_spells_23 : decode cX3_spells 23 = .ok (.getfield 30, 3) := by decide +kernel
theorem dX3_spells_26 : decode cX3_spells 26 = .ok (.if_icmp .le 5, 3) := by decide +kernel
theorem dX3_spells_29 : decode cX3_spells 29 = .ok (.iconst 0, 1) := by decide +kernel
theorem dX3_spells_30 : decode cX3_spells 30 = .ok (.ireturn, 1) := by decide +kernel
theorem dX3_spells_31 : decode cX3_spells 31 = .ok (.iconst 0, 1) := by decide +kernel
theorem dX3_spells_32 : decode cX3_spells 32 = .ok (.istore_n 3, 1) := by decide +kernel
theorem dX3_spells_33 : decode cX3_spells 33 = .ok (.iload_n 3, 1) := by decide +kernel
theorem dX3_spells_34 : decode cX3_spells 34 = .ok (.aload_n 0, 1) := by decide +kernel
theorem dX3_spells_35 : decode cX3_spells 35 = .ok (.getfield 65, 3) := by decide +kernel
theorem dX3_spells_38 : decode cX3_spells 38 = .ok (.if_icmp .ge 33, 3) := by decide +kernel
theorem dX3_spells_41 : decode cX3_spells 41 = .ok (.aload_n 1, 1) := by decide +kernel
theorem dX3_spells_42 : decode cX3_spells 42 = .ok (.iload_n 2, 1) := by decide +kernel
theorem dX3_spells_43 : decode cX3_spells 43 = .ok (.iload_n 3, 1) := by decide +kernel
theorem dX3_spells_44 : decode cX3_spells 44 = .ok (.iadd, 1) := by decide +kernel
theorem dX3_spells_45 : decode cX3_spells 45 = .ok (.invokevirtual 162, 3) := by decide +kernel
theorem dX3_spells_48 : decode cX3_spells 48 = .ok (.aload_n 0, 1) := by decide +kernel
theorem dX3_spells_49 : decode cX3_spells 49 = .ok (.getfield 9, 3) := by decide +kernel
theorem dX3_spells_52 : decode cX3_spells 52 = .ok (.aload_n 0, 1) := by decide +kernel
theorem dX3_spells_53 : decode cX3_spells 53 = .ok (.getfield 50, 3) := by decide +kernel
theorem dX3_spells_56 : decode cX3_spells 56 = .ok (.iload_n 3, 1) := by decide +kernel
theorem dX3_spells_57 : decode cX3_spells 57 = .ok (.iadd, 1) := by decide +kernel
theorem dX3_spells_58 : decode cX3_spells 58 = .ok (.baload, 1) := by decide +kernel
theorem dX3_spells_59 : decode cX3_spells 59 = .ok (.i2c, 1) := by decide +kernel
theorem dX3_spells_60 : decode cX3_spells 60 = .ok (.if_icmp .eq 5, 3) := by decide +kernel
theorem dX3_spells_63 : decode cX3_spells 63 = .ok (.iconst 0, 1) := by decide +kernel
theorem dX3_spells_64 : decode cX3_spells 64 = .ok (.ireturn, 1) := by decide +kernel
theorem dX3_spells_65 : decode cX3_spells 65 = .ok (.iinc 3 1, 3) := by decide +kernel
theorem dX3_spells_68 : decode cX3_spells 68 = .ok (.goto (-35), 3) := by decide +kernel
theorem dX3_spells_71 : decode cX3_spells 71 = .ok (.iconst 1, 1) := by decide +kernel
theorem dX3_spells_72 : decode cX3_spells 72 = .ok (.ireturn, 1) := by decide +kernel
theorem dX3_knownBaker_0 : decode cX3_knownBaker 0 = .ok (.aload_n 0, 1) := by decide +kernel
theorem dX3_knownBaker_1 : decode cX3_knownBaker 1 = .ok (.getfield 40, 3) := by decide +kernel
theorem dX3_knownBaker_4 : decode cX3_knownBaker 4 = .ok (.iconst 1, 1) := by decide +kernel
theorem dX3_knownBaker_5 : decode cX3_knownBaker 5 = .ok (.if_icmp .ne 12, 3) := by decide +kernel
theorem dX3_knownBaker_8 : decode cX3_knownBaker 8 = .ok (.aload_n 0, 1) := by decide +kernel
theorem dX3_knownBaker_9 : decode cX3_knownBaker 9 = .ok (.getfield 65, 3) := by decide +kernel
theorem dX3_knownBaker_12 : decode cX3_knownBaker 12 = .ok (.bipush 8, 2) := by decide +kernel
theorem dX3_knownBaker_14 : decode cX3_knownBaker 14 = .ok (.if_icmp .le 5, 3) := by decide +kernel
theorem dX3_knownBaker_17 : decode cX3_knownBaker 17 = .ok (.iconst (-1), 1) := by decide +kernel
theorem dX3_knownBaker_18 : decode cX3_knownBaker 18 = .ok (.ireturn, 1) := by decide +kernel
theorem dX3_knownBaker_19 : decode cX3_knownBaker 19 = .ok (.iconst 0, 1) := by decide +kernel
theorem dX3_knownBaker_20 : decode cX3_knownBaker 20 = .ok (.istore_n 1, 1) := by decide +kernel
theorem dX3_knownBaker_21 : decode cX3_knownBaker 21 = .ok (.iload_n 1, 1) := by decide +kernel
theorem dX3_knownBaker_22 : decode cX3_knownBaker 22 = .ok (.aload_n 0, 1) := by decide +kernel
theorem dX3_knownBaker_23 : decode cX3_knownBaker 23 = .ok (.getfield 15, 3) := by decide +kernel
theorem dX3_knownBaker_26 : decode cX3_knownBaker 26 = .ok (.getfield 53, 3) := by decide +kernel
theorem dX3_knownBaker_29 : decode cX3_knownBaker 29 = .ok (.if_icmp .ge 28, 3) := by decide +kernel
theorem dX3_knownBaker_32 : decode cX3_knownBaker 32 = .ok (.aload_n 0, 1) := by decide +kernel
theorem dX3_knownBaker_33 : decode cX3_knownBaker 33 = .ok (.getfield 15, 3) := by decide +kernel
theorem dX3_knownBaker_36 : decode cX3_knownBaker 36 = .ok (.getfield 166, 3) := by decide +kernel
theorem dX3_knownBaker_39 : decode cX3_knownBaker 39 = .ok (.iload_n 1, 1) := by decide +kernel
theorem dX3_knownBaker_40 : decode cX3_knownBaker 40 = .ok (.laload, 1) := by decide +kernel
theorem dX3_knownBaker_41 : decode cX3_knownBaker 41 = .ok (.aload_n 0, 1) := by decide +kernel
theorem dX3_knownBaker_42 : decode cX3_knownBaker 42 = .ok (.getfield 59, 3) := by decide +kernel
theorem dX3_knownBaker_45 : decode cX3_knownBaker 45 = .ok (.lcmp, 1) := by decide +kernel
theorem dX3_knownBaker_46 : decode cX3_knownBaker 46 = .ok (.ifCond .ne 5, 3) := by decide +kernel
theorem dX3_knownBaker_49 : decode cX3_knownBaker 49 = .ok (.iload_n 1, 1) := by decide +kernel
theorem dX3_knownBaker_50 : decode cX3_knownBaker 50 = .ok (.ireturn, 1) := by decide +kernel
theorem dX3_knownBaker_51 : decode cX3_knownBaker 51 = .ok (.iinc 1 1, 3) := by decide +kernel
theorem dX3_knownBaker_54 : decode cX3_knownBaker 54 = .ok (.goto (-33), 3) := by decide +kernel
theorem dX3_knownBaker_57 : decode cX3_knownBaker 57 = .ok (.iconst (-1), 1) := by decide +kernel
theorem dX3_knownBaker_58 : decode cX3_knownBaker 58 = .ok (.ireturn, 1) := by decide +kernel
theorem dX4_init_0 : decode cX4_init 0 = .ok (.aload_n 0, 1) := by decide +kernel
theorem dX4_init_1 : decode cX4_init 1 = .ok (.invokespecial 3, 3) := by decide +kernel
theorem dX4_init_4 : decode cX4_init 4 = .ok (.aload_n 0, 1) := by decide +kernel
theorem dX4_init_5 : decode cX4_init 5 = .ok (.aload_n 1, 1) := by decide +kernel
theorem dX4_init_6 : decode cX4_init 6 = .ok (.putfield 9, 3) := by decide +kernel
theorem dX4_init_9 : decode cX4_init 9 = .ok (.aload_n 0, 1) := by decide +kernel
theorem dX4_init_10 : decode cX4_init 10 = .ok (.aload_n 2, 1) := by decide +kernel
theorem dX4_init_11 : decode cX4_init 11 = .ok (.putfield 15, 3) := by decide +kernel
theorem dX4_init_14 : decode cX4_init 14 = .ok (.aload_n 0, 1) := by decide +kernel
theorem dX4_init_15 : decode cX4_init 15 = .ok (.aload_n 3, 1) := by decide +kernel
theorem dX4_init_16 : decode cX4_init 16 = .ok (.putfield 19, 3) := by decide +kernel
theorem dX4_init_19 : decode cX4_init 19 = .ok (.aload_n 0, 1) := by decide +kernel
theorem dX4_init_20 : decode cX4_init 20 = .ok (.aload 4, 2) := by decide +kernel
theorem dX4_init_22 : decode cX4_init 22 = .ok (.putfield 23, 3) := by decide +kernel
theorem dX4_init_25 : decode cX4_init 25 = .ok (.aload_n 0, 1) := by decide +kernel
theorem dX4_init_26 : decode cX4_init 26 = .ok (.bipush 8, 2) := by decide +kernel
theorem dX4_init_28 : decode cX4_init 28 = .ok (.newarray .int, 2) := by decide +kernel
theorem dX4_init_30 : decode cX4_init 30 = .ok (.putfield 27, 3) := by decide +kernel
theorem dX4_init_33 : decode cX4_init 33 = .ok (.aload_n 0, 1) := by decide +kernel
theorem dX4_init_34 : decode cX4_init 34 = .ok (.iconst 4, 1) := by decide +kernel
theorem dX4_init_35 : decode cX4_init 35 = .ok (.newarray .int, 2) := by decide +kernel
theorem dX4_init_37 : decode cX4_init 37 = .ok (.putfield 31, 3) := by decide +kernel
theorem dX4_init_40 : decode cX4_init 40 = .ok (.aload_n 0, 1) := by decide +kernel
theorem dX4_init_41 : decode cX4_init 41 = .ok (.bipush 21, 2) := by decide +kernel
theorem dX4_init_43 : decode cX4_init 43 = .ok (.newarray .int, 2) := by decide +kernel
theorem dX4_init_45 : decode cX4_init 45 = .ok (.putfield 34, 3) := by decide +kernel
theorem dX4_init_48 : decode cX4_init 48 = .ok (.aload_n 0, 1) := by decide +kernel
theorem dX4_init_49 : decode cX4_init 49 = .ok (.bipush 7, 2) := by decide +kernel
theorem dX4_init_51 : decode cX4_init 51 = .ok (.newarray .int, 2) := by decide +kernel
theorem dX4_init_53 : decode cX4_init 53 = .ok (.putfield 37, 3) := by decide +kernel
theorem dX4_init_56 : decode cX4_init 56 = .ok (.aload_n 0, 1) := by decide +kernel
theorem dX4_init_57 : decode cX4_init 57 = .ok (.iconst 0, 1) := by decide +kernel
theorem dX4_init_58 : decode cX4_init 58 = .ok (.putfield 40, 3) := by decide +kernel
theorem dX4_init_61 : decode cX4_init 61 = .ok (.aload_n 0, 1) := by decide +kernel
theorem dX4_init_62 : decode cX4_init 62 = .ok (.iconst 0, 1) := by decide +kernel
theorem dX4_init_63 : decode cX4_init 63 = .ok (.putfield 44, 3) := by decide +kernel
theorem dX4_init_66 : decode cX4_init 66 = .ok (.return_, 1) := by decide +kernel
theorem dX4_forget_0 : decode cX4_forget 0 = .ok (.aload_n 0, 1) := by decide +kernel
theorem dX4_forget_1 : decode cX4_forget 1 = .ok (.iconst 0, 1) := by decide +kernel
theorem dX4_forget_2 : decode cX4_forget 2 = .ok (.putfield 44, 3) := by decide +kernel
theorem dX4_forget_5 : decode cX4_forget 5 = .ok (.return_, 1) := by decide +kernel
theorem dX4_find_0 : decode cX4_find 0 = .ok (.aload_n 0, 1) := by decide +kernel
theorem dX4_find_1 : decode cX4_find 1 = .ok (.getfield 44, 3) := by decide +kernel
theorem dX4_find_4 : decode cX4_find 4 = .ok (.ifCond .ne 41, 3) := by decide +kernel
theorem dX4_find_7 : decode cX4_find 7 = .ok (.aload_n 0, 1) := by decide +kernel
theorem dX4_find_8 : decode cX4_find 8 = .ok (.getfield 23, 3) := by decide +kernel
theorem dX4_find_11 : decode cX4_find 11 = .ok (.aload_n 0, 1) := by decide +kernel
theorem dX4_find_12 : decode cX4_find 12 = .ok (.getfield 15, 3) := by decide +kernel
theorem dX4_find_15 : decode cX4_find 15 = .ok (.getfield 48, 3) := by decide +kernel
theorem dX4_find_18 : decode cX4_find 18 = .ok (.invokevirtual 53, 3) := by decide +kernel
theorem dX4_find_21 : decode cX4_find 21 = .ok (.aload_n 0, 1) := by decide +kernel
theorem dX4_find_22 : decode cX4_find 22 = .ok (.getfield 34, 3) := by decide +kernel
theorem dX4_find_25 : decode cX4_find 25 = .ok (.iconst 0, 1) := by decide +kernel
theorem dX4_find_26 : decode cX4_find 26 = .ok (.aload_n 0, 1) := by decide +kernel
theorem dX4_find_27 : decode cX4_find 27 = .ok (.getfield 23, 3) := by decide +kernel
theorem dX4_find_30 : decode cX4_find 30 = .ok (.getfield 59, 3) := by decide +kernel
theorem dX4_find_33 : decode cX4_find 33 = .ok (.iastore, 1) := by decide +kernel
theorem dX4_find_34 : decode cX4_find 34 = .ok (.aload_n 0, 1) := by decide +kernel
theorem dX4_find_35 : decode cX4_find 35 = .ok (.iconst 1, 1) := by decide +kernel
theorem dX4_find_36 : decode cX4_find 36 = .ok (.iconst (-1), 1) := by decide +kernel
theorem dX4_find_37 : decode cX4_find 37 = .ok (.invokevirtual 61, 3) := by decide +kernel
theorem dX4_find_40 : decode cX4_find 40 = .ok (.aload_n 0, 1) := by decide +kernel
theorem dX4_find_41 : decode cX4_find 41 = .ok (.iconst 1, 1) := by decide +kernel
theorem dX4_find_42 : decode cX4_find 42 = .ok (.putfield 44, 3) := by decide +kernel
theorem dX4_find_45 : decode cX4_find 45 = .ok (.return_, 1) := by decide +kernel
theorem dX4_changingCost_0 : decode cX4_changingCost 0 = .ok (.iconst 1, 1) := by decide +kernel
theorem dX4_changingCost_1 : decode cX4_changingCost 1 = .ok (.bipush 20, 2) := by decide +kernel
theorem dX4_changingCost_3 : decode cX4_changingCost 3 = .ok (.bipush 99, 2) := by decide +kernel
theorem dX4_changingCost_5 : decode cX4_changingCost 5 = .ok (.aload_n 0, 1) := by decide +kernel
theorem dX4_changingCost_6 : decode cX4_changingCost 6 = .ok (.getfield 15, 3) := by decide +kernel
theorem dX4_changingCost_9 : decode cX4_changingCost 9 = .ok (.getfield 65, 3) := by decide +kernel
theorem dX4_changingCost_12 : decode cX4_changingCost 12 = .ok (.iload_n 1, 1) := by decide +kernel
theorem dX4_changingCost_13 : decode cX4_changingCost 13 = .ok (.iaload, 1) := by decide +kernel
theorem dX4_changingCost_14 : decode cX4_changingCost 14 = .ok (.isub, 1) := by decide +kernel
theorem dX4_changingCost_15 : decode cX4_changingCost 15 = .ok (.invokestatic 68, 3) := by decide +kernel
theorem dX4_changingCost_18 : decode cX4_changingCost 18 = .ok (.iadd, 1) := by decide +kernel
theorem dX4_changingCost_19 : decode cX4_changingCost 19 = .ok (.istore_n 2, 1) := by decide +kernel
theorem dX4_changingCost_20 : decode cX4_changingCost 20 = .ok (.aload_n 0, 1) := by decide +kernel
theorem dX4_changingCost_21 : decode cX4_changingCost 21 = .ok (.getfield 23, 3) := by decide +kernel
theorem dX4_changingCost_24 : decode cX4_changingCost 24 = .ok (.aload_n 0, 1) := by decide +kernel
theorem dX4_changingCost_25 : decode cX4_changingCost 25 = .ok (.getfield 15, 3) := by decide +kernel
theorem dX4_changingCost_28 : decode cX4_changingCost 28 = .ok (.getfield 48, 3) := by decide +kernel
theorem dX4_changingCost_31 : decode cX4_changingCost 31 = .ok (.invokevirtual 53, 3) := by decide +kernel
theorem dX4_changingCost_34 : decode cX4_changingCost 34 = .ok (.aload_n 0, 1) := by decide +kernel
theorem dX4_changingCost_35 : decode cX4_changingCost 35 = .ok (.getfield 34, 3) := by decide +kernel
theorem dX4_changingCost_38 : decode cX4_changingCost 38 = .ok (.aload_n 0, 1) := by decide +kernel
theorem dX4_changingCost_39 : decode cX4_changingCost 39 = .ok (.getfield 23, 3) := by decide +kernel
theorem dX4_changingCost_42 : decode cX4_changingCost 42 = .ok (.getfield 59, 3) := by decide +kernel
theorem dX4_changingCost_45 : decode cX4_changingCost 45 = .ok (.invokestatic 74, 3) := by decide +kernel
theorem dX4_changingCost_48 : decode cX4_changingCost 48 = .ok (.aload_n 0, 1) := by decide +kernel
theorem dX4_changingCost_49 : decode cX4_changingCost 49 = .ok (.iload_n 2, 1) := by decide +kernel
theorem dX4_changingCost_50 : decode cX4_changingCost 50 = .ok (.iload_n 1, 1) := by decide +kernel
theorem dX4_changingCost_51 : decode cX4_changingCost 51 = .ok (.invokevirtual 61, 3) := by decide +kernel
theorem dX4_changingCost_54 : decode cX4_changingCost 54 = .ok (.aload_n 0, 1) := by decide +kernel
theorem dX4_changingCost_55 : decode cX4_changingCost 55 = .ok (.iconst 1, 1) := by decide +kernel
theorem dX4_changingCost_56 : decode cX4_changingCost 56 = .ok (.putfield 44, 3) := by decide +kernel
theorem dX4_changingCost_59 : decode cX4_changingCost 59 = .ok (.aload_n 0, 1) := by decide +kernel
theorem dX4_changingCost_60 : decode cX4_changingCost 60 = .ok (.iconst 0, 1) := by decide +kernel
theorem dX4_changingCost_61 : decode cX4_changingCost 61 = .ok (.invokevirtual 80, 3) := by decide +kernel
theorem dX4_changingCost_64 : decode cX4_changingCost 64 = .ok (.istore_n 3, 1) := by decide +kernel
theorem dX4_changingCost_65 : decode cX4_changingCost 65 = .ok (.aload_n 0, 1) := by decide +kernel
theorem dX4_changingCost_66 : decode cX4_changingCost 66 = .ok (.iconst 0, 1) := by decide +kernel
theorem dX4_changingCost_67 : decode cX4_changingCost 67 = .ok (.iconst 0, 1) := by decide +kernel
theorem dX4_changingCost_68 : decode cX4_changingCost 68 = .ok (.invokevirtual 84, 3) := by decide +kernel
theorem dX4_changingCost_71 : decode cX4_changingCost 71 = .ok (.istore 4, 2) := by decide +kernel
theorem dX4_changingCost_73 : decode cX4_changingCost 73 = .ok (.iconst 1, 1) := by decide +kernel
theorem dX4_changingCost_74 : decode cX4_changingCost 74 = .ok (.istore 5, 2) := by decide +kernel
theorem dX4_changingCost_76 : decode cX4_changingCost 76 = .ok (.iload 5, 2) := by decide +kernel
theorem dX4_changingCost_78 : decode cX4_changingCost 78 = .ok (.iload_n 2, 1) := by decide +kernel
theorem dX4_changingCost_79 : decode cX4_changingCost 79 = .ok (.if_icmp .ge 44, 3) := by decide +kernel
theorem dX4_changingCost_82 : decode cX4_changingCost 82 = .ok (.aload_n 0, 1) := by decide +kernel
theorem dX4_changingCost_83 : decode cX4_changingCost 83 = .ok (.iload 5, 2) := by decide +kernel
theorem dX4_changingCost_85 : decode cX4_changingCost 85 = .ok (.invokevirtual 80, 3) := by decide +kernel
theorem dX4_changingCost_88 : decode cX4_changingCost 88 = .ok (.iload_n 3, 1) := by decide +kernel
theorem dX4_changingCost_89 : decode cX4_changingCost 89 = .ok (.if_icmp .ne 15, 3) := by decide +kernel
theorem dX4_changingCost_92 : decode cX4_changingCost 92 = .ok (.aload_n 0, 1) := by decide +kernel
theorem dX4_changingCost_93 : decode cX4_changingCost 93 = .ok (.iload 5, 2) := by decide +kernel
theorem dX4_changingCost_95 : decode cX4_changingCost 95 = .ok (.iconst 0, 1) := by decide +kernel
theorem dX4_changingCost_96 : decode cX4_changingCost 96 = .ok (.invokevirtual 84, 3) := by decide +kernel
theorem dX4_changingCost_99 : decode cX4_changingCost 99 = .ok (.iload 4, 2) := by decide +kernel
theorem dX4_changingCost_101 : decode cX4_changingCost 101 = .ok (.if_icmp .eq 16, 3) := by decide +kernel
theorem dX4_changingCost_104 : decode cX4_changingCost 104 = .ok (.aload_n 0, 1) := by decide +kernel
theorem dX4_changingCost_105 : decode cX4_changingCost 105 = .ok (.getfield 15, 3) := by decide +kernel
theorem dX4_changingCost_108 : decode cX4_changingCost 108 = .ok (.getfield 65, 3) := by decide +kernel
theorem dX4_changingCost_111 : decode cX4_changingCost 111 = .ok (.iload_n 1, 1) := by decide +kernel
theorem dX4_changingCost_112 : decode cX4_changingCost 112 = .ok (.iaload, 1) := by decide +kernel
theorem dX4_changingCost_113 : decode cX4_changingCost 113 = .ok (.iload 5, 2) := by decide +kernel
theorem dX4_changingCost_115 : decode cX4_changingCost 115 = .ok (.iadd, 1) := by decide +kernel
theorem dX4_changingCost_116 : decode cX4_changingCost 116 = .ok (.ireturn, 1) := by decide +kernel
theorem dX4_changingCost_117 : decode cX4_changingCost 117 = .ok (.iinc 5 1, 3) := by decide +kernel
theorem dX4_changingCost_120 : decode cX4_changingCost 120 = .ok (.goto (-44), 3) := by decide +kernel
theorem dX4_changingCost_123 : decode cX4_changingCost 123 = .ok (.iconst (-1), 1) := by decide +kernel
theorem dX4_changingCost_124 : decode cX4_changingCost 124 = .ok (.ireturn, 1) := by decide +kernel
theorem dX4_tryQuietLaws_0 : decode cX4_tryQuietLaws 0 = .ok (.aload_n 0, 1) := by decide +kernel
theorem dX4_tryQuietLaws_1 : decode cX4_tryQuietLaws 1 = .ok (.iconst 0, 1) := by decide +kernel
theorem dX4_tryQuietLaws_2 : decode cX4_tryQuietLaws 2 = .ok (.putfield 44, 3) := by decide +kernel
theorem dX4_tryQuietLaws_5 : decode cX4_tryQuietLaws 5 = .ok (.aload_n 0, 1) := by decide +kernel
theorem dX4_tryQuietLaws_6 : decode cX4_tryQuietLaws 6 = .ok (.getfield 23, 3) := by decide +kernel
theorem dX4_tryQuietLaws_9 : decode cX4_tryQuietLaws 9 = .ok (.iconst (-1), 1) := by decide +kernel
theorem dX4_tryQuietLaws_10 : decode cX4_tryQuietLaws 10 = .ok (.invokevirtual 53, 3) := by decide +kernel
theorem dX4_tryQuietLaws_13 : decode cX4_tryQuietLaws 13 = .ok (.iconst 0, 1) := by decide +kernel
theorem dX4_tryQuietLaws_14 : decode cX4_tryQuietLaws 14 = .ok (.istore_n 2, 1) := by decide +kernel
theorem dX4_tryQuietLaws_15 : decode cX4_tryQuietLaws 15 = .ok (.iload_n 2, 1) := by decide +kernel
theorem dX4_tryQuietLaws_16 : decode cX4_tryQuietLaws 16 = .ok (.aload_n 0, 1) := by decide +kernel
theorem dX4_tryQuietLaws_17 : decode cX4_tryQuietLaws 17 = .ok (.getfield 19, 3) := by decide +kernel
theorem dX4_tryQuietLaws_20 : decode cX4_tryQuietLaws 20 = .ok (.getfield 87, 3) := by decide +kernel
theorem dX4_tryQuietLaws_23 : decode cX4_tryQuietLaws 23 = .ok (.if_icmp .gt 32, 3) := by decide +kernel
theorem dX4_tryQuietLaws_26 : decode cX4_tryQuietLaws 26 = .ok (.aload_n 0, 1) := by decide +kernel
theorem dX4_tryQuietLaws_27 : decode cX4_tryQuietLaws 27 = .ok (.getfield 34, 3) := by decide +kernel
theorem dX4_tryQuietLaws_30 : decode cX4_tryQuietLaws 30 = .ok (.iload_n 2, 1) := by decide +kernel
theorem dX4_tryQuietLaws_31 : decode cX4_tryQuietLaws 31 = .ok (.aload_n 0, 1) := by decide +kernel
theorem dX4_tryQuietLaws_32 : decode cX4_tryQuietLaws 32 = .ok (.getfield 19, 3) := by decide +kernel
theorem dX4_tryQuietLaws_35 : decode cX4_tryQuietLaws 35 = .ok (.iload_n 2, 1) := by decide +kernel
theorem dX4_tryQuietLaws_36 : decode cX4_tryQuietLaws 36 = .ok (.iconst 1, 1) := by decide +kernel
theorem dX4_tryQuietLaws_37 : decode cX4_tryQuietLaws 37 = .ok (.isub, 1) := by decide +kernel
theorem dX4_tryQuietLaws_38 : decode cX4_tryQuietLaws 38 = .ok (.aload_n 0, 1) := by decide +kernel
theorem dX4_tryQuietLaws_39 : decode cX4_tryQuietLaws 39 = .ok (.getfield 9, 3) := by decide +kernel
theorem dX4_tryQuietLaws_42 : decode cX4_tryQuietLaws 42 = .ok (.getfield 92, 3) := by decide +kernel
theorem dX4_tryQuietLaws_45 : decode cX4_tryQuietLaws 45 = .ok (.invokevirtual 97, 3) := by decide +kernel
theorem dX4_tryQuietLaws_48 : decode cX4_tryQuietLaws 48 = .ok (.iastore, 1) := by decide +kernel
theorem dX4_tryQuietLaws_49 : decode cX4_tryQuietLaws 49 = .ok (.iinc 2 1, 3) := by decide +kernel
theorem dX4_tryQuietLaws_52 : decode cX4_tryQuietLaws 52 = .ok (.goto (-37), 3) := by decide +kernel
theorem dX4_tryQuietLaws_55 : decode cX4_tryQuietLaws 55 = .ok (.aload_n 0, 1) := by decide +kernel
theorem dX4_tryQuietLaws_56 : decode cX4_tryQuietLaws 56 = .ok (.aload_n 0, 1) := by decide +kernel
theorem dX4_tryQuietLaws_57 : decode cX4_tryQuietLaws 57 = .ok (.getfield 19, 3) := by decide +kernel
theorem dX4_tryQuietLaws_60 : decode cX4_tryQuietLaws 60 = .ok (.getfield 87, 3) := by decide +kernel
theorem dX4_tryQuietLaws_63 : decode cX4_tryQuietLaws 63 = .ok (.iconst 1, 1) := by decide +kernel
theorem dX4_tryQuietLaws_64 : decode cX4_tryQuietLaws 64 = .ok (.iadd, 1) := by decide +kernel
theorem dX4_tryQuietLaws_65 : decode cX4_tryQuietLaws 65 = .ok (.iconst (-1), 1) := by decide +kernel
theorem dX4_tryQuietLaws_66 : decode cX4_tryQuietLaws 66 = .ok (.invokevirtual 61, 3) := by decide +kernel
theorem dX4_tryQuietLaws_69 : decode cX4_tryQuietLaws 69 = .ok (.iconst 0, 1) := by decide +kernel
theorem dX4_tryQuietLaws_70 : decode cX4_tryQuietLaws 70 = .ok (.istore_n 2, 1) := by decide +kernel
theorem dX4_tryQuietLaws_71 : decode cX4_tryQuietLaws 71 = .ok (.iload_n 2, 1) := by decide +kernel
theorem dX4_tryQuietLaws_72 : decode cX4_tryQuietLaws 72 = .ok (.aload_n 0, 1) := by decide +kernel
theorem dX4_tryQuietLaws_73 : decode cX4_tryQuietLaws 73 = .ok (.getfield 19, 3) := by decide +kernel
theorem dX4_tryQuietLaws_76 : decode cX4_tryQuietLaws 76 = .ok (.getfield 87, 3) := by decide +kernel
theorem dX4_tryQuietLaws_79 : decode cX4_tryQuietLaws 79 = .ok (.if_icmp .gt 21, 3) := by decide +kernel
theorem dX4_tryQuietLaws_82 : decode cX4_tryQuietLaws 82 = .ok (.aload_n 0, 1) := by decide +kernel
theorem dX4_tryQuietLaws_83 : decode cX4_tryQuietLaws 83 = .ok (.getfield 37, 3) := by decide +kernel
theorem dX4_tryQuietLaws_86 : decode cX4_tryQuietLaws 86 = .ok (.iload_n 2, 1) := by decide +kernel
theorem dX4_tryQuietLaws_87 : decode cX4_tryQuietLaws 87 = .ok (.aload_n 0, 1) := by decide +kernel
theorem dX4_tryQuietLaws_88 : decode cX4_tryQuietLaws 88 = .ok (.iload_n 1, 1) := by decide +kernel
theorem dX4_tryQuietLaws_89 : decode cX4_tryQuietLaws 89 = .ok (.iload_n 2, 1) := by decide +kernel
theorem dX4_tryQuietLaws_90 : decode cX4_tryQuietLaws 90 = .ok (.invokevirtual 99, 3) := by decide +kernel
theorem dX4_tryQuietLaws_93 : decode cX4_tryQuietLaws 93 = .ok (.iastore, 1) := by decide +kernel
theorem dX4_tryQuietLaws_94 : decode cX4_tryQuietLaws 94 = .ok (.iinc 2 1, 3) := by decide +kernel
theorem dX4_tryQuietLaws_97 : decode cX4_tryQuietLaws 97 = .ok (.goto (-26), 3) := by decide +kernel
theorem dX4_tryQuietLaws_100 : decode cX4_tryQuietLaws 100 = .ok (.return_, 1) := by decide +kernel
theorem dX4_tryShouts_0 : decode cX4_tryShouts 0 = .ok (.iconst 0, 1) := by decide +kernel
theorem dX4_tryShouts_1 : decode cX4_tryShouts 1 = .ok (.istore_n 2, 1) := by decide +kernel
theorem dX4_tryShouts_2 : decode cX4_tryShouts 2 = .ok (.iconst (-1), 1) := by decide +kernel
theorem dX4_tryShouts_3 : decode cX4_tryShouts 3 = .ok (.istore_n 3, 1) := by decide +kernel
theorem dX4_tryShouts_4 : decode cX4_tryShouts 4 = .ok (.iconst 0, 1) := by decide +kernel
theorem dX4_tryShouts_5 : decode cX4_tryShouts 5 = .ok (.istore 4, 2) := by decide +kernel
theorem dX4_tryShouts_7 : decode cX4_tryShouts 7 = .ok (.iload 4, 2) := by decide +kernel
theorem dX4_tryShouts_9 : decode cX4_tryShouts 9 = .ok (.aload_n 0, 1) := by decide +kernel
theorem dX4_tryShouts_10 : decode cX4_tryShouts 10 = .ok (.getfield 19, 3) := by decide +kernel
theorem dX4_tryShouts_13 : decode cX4_tryShouts 13 = .ok (.getfield 87, 3) := by decide +kernel
theorem dX4_tryShouts_16 : decode cX4_tryShouts 16 = .ok (.if_icmp .ge 72, 3) := by decide +kernel
theorem dX4_tryShouts_19 : decode cX4_tryShouts 19 = .ok (.aload_n 0, 1) := by decide +kernel
theorem dX4_tryShouts_20 : decode cX4_tryShouts 20 = .ok (.getfield 19, 3) := by decide +kernel
theorem dX4_tryShouts_23 : decode cX4_tryShouts 23 = .ok (.iload 4, 2) := by decide +kernel
theorem dX4_tryShouts_25 : decode cX4_tryShouts 25 = .ok (.invokevirtual 102, 3) := by decide +kernel
theorem dX4_tryShouts_28 : decode cX4_tryShouts 28 = .ok (.ifCond .eq 54, 3) := by decide +kernel
theorem dX4_tryShouts_31 : decode cX4_tryShouts 31 = .ok (.iload_n 2, 1) := by decide +kernel
theorem dX4_tryShouts_32 : decode cX4_tryShouts 32 = .ok (.ifCond .ne 40, 3) := by decide +kernel
theorem dX4_tryShouts_35 : decode cX4_tryShouts 35 = .ok (.aload_n 0, 1) := by decide +kernel
theorem dX4_tryShouts_36 : decode cX4_tryShouts 36 = .ok (.getfield 23, 3) := by decide +kernel
theorem dX4_tryShouts_39 : decode cX4_tryShouts 39 = .ok (.iload 4, 2) := by decide +kernel
theorem dX4_tryShouts_41 : decode cX4_tryShouts 41 = .ok (.invokevirtual 53, 3) := by decide +kernel
theorem dX4_tryShouts_44 : decode cX4_tryShouts 44 = .ok (.aload_n 0, 1) := by decide +kernel
theorem dX4_tryShouts_45 : decode cX4_tryShouts 45 = .ok (.getfield 34, 3) := by decide +kernel
theorem dX4_tryShouts_48 : decode cX4_tryShouts 48 = .ok (.iconst 0, 1) := by decide +kernel
theorem dX4_tryShouts_49 : decode cX4_tryShouts 49 = .ok (.aload_n 0, 1) := by decide +kernel
theorem dX4_tryShouts_50 : decode cX4_tryShouts 50 = .ok (.getfield 23, 3) := by decide +kernel
theorem dX4_tryShouts_53 : decode cX4_tryShouts 53 = .ok (.getfield 59, 3) := by decide +kernel
theorem dX4_tryShouts_56 : decode cX4_tryShouts 56 = .ok (.iastore, 1) := by decide +kernel
theorem dX4_tryShouts_57 : decode cX4_tryShouts 57 = .ok (.aload_n 0, 1) := by decide +kernel
theorem dX4_tryShouts_58 : decode cX4_tryShouts 58 = .ok (.iconst 1, 1) := by decide +kernel
theorem dX4_tryShouts_59 : decode cX4_tryShouts 59 = .ok (.iconst (-1), 1) := by decide +kernel
theorem dX4_tryShouts_60 : decode cX4_tryShouts 60 = .ok (.invokevirtual 61, 3) := by decide +kernel
theorem dX4_tryShouts_63 : decode cX4_tryShouts 63 = .ok (.aload_n 0, 1) := by decide +kernel
theorem dX4_tryShouts_64 : decode cX4_tryShouts 64 = .ok (.iload_n 1, 1) := by decide +kernel
theorem dX4_tryShouts_65 : decode cX4_tryShouts 65 = .ok (.iconst 0, 1) := by decide +kernel
theorem dX4_tryShouts_66 : decode cX4_tryShouts 66 = .ok (.invokevirtual 99, 3) := by decide +kernel
theorem dX4_tryShouts_69 : decode cX4_tryShouts 69 = .ok (.istore_n 3, 1) := by decide +kernel
theorem dX4_tryShouts_70 : decode cX4_tryShouts 70 = .ok (.iconst 1, 1) := by decide +kernel
theorem dX4_tryShouts_71 : decode cX4_tryShouts 71 = .ok (.istore_n 2, 1) := by decide +kernel
theorem dX4_tryShouts_72 : decode cX4_tryShouts 72 = .ok (.aload_n 0, 1) := by decide +kernel
theorem dX4_tryShouts_73 : decode cX4_tryShouts 73 = .ok (.getfield 37, 3) := by decide +kernel
theorem dX4_tryShouts_76 : decode cX4_tryShouts 76 = .ok (.iload 4, 2) := by decide +kernel
theorem dX4_tryShouts_78 : decode cX4_tryShouts 78 = .ok (.iconst 1, 1) := by decide +kernel
theorem dX4_tryShouts_79 : decode cX4_tryShouts 79 = .ok (.iadd, 1) := by decide +kernel
theorem dX4_tryShouts_80 : decode cX4_tryShouts 80 = .ok (.iload_n 3, 1) := by decide +kernel
theorem dX4_tryShouts_81 : decode cX4_tryShouts 81 = .ok (.iastore, 1) := by decide +kernel
theorem dX4_tryShouts_82 : decode cX4_tryShouts 82 = .ok (.iinc 4 1, 3) := by decide +kernel
theorem dX4_tryShouts_85 : decode cX4_tryShouts 85 = .ok (.goto (-78), 3) := by decide +kernel
theorem dX4_tryShouts_88 : decode cX4_tryShouts 88 = .ok (.return_, 1) := by decide +kernel
theorem dX4_bestCase_0 : decode cX4_bestCase 0 = .ok (.iconst (-1), 1) := by decide +kernel
theorem dX4_bestCase_1 : decode cX4_bestCase 1 = .ok (.istore_n 1, 1) := by decide +kernel
theorem dX4_bestCase_2 : decode cX4_bestCase 2 = .ok (.iconst 0, 1) := by decide +kernel
theorem dX4_bestCase_3 : decode cX4_bestCase 3 = .ok (.istore_n 2, 1) := by decide +kernel
theorem dX4_bestCase_4 : decode cX4_bestCase 4 = .ok (.iload_n 2, 1) := by decide +kernel
theorem dX4_bestCase_5 : decode cX4_bestCase 5 = .ok (.aload_n 0, 1) := by decide +kernel
theorem dX4_bestCase_6 : decode cX4_bestCase 6 = .ok (.getfield 19, 3) := by decide +kernel
theorem dX4_bestCase_9 : decode cX4_bestCase 9 = .ok (.getfield 87, 3) := by decide +kernel
theorem dX4_bestCase_12 : decode cX4_bestCase 12 = .ok (.if_icmp .gt 41, 3) := by decide +kernel
theorem dX4_bestCase_15 : decode cX4_bestCase 15 = .ok (.aload_n 0, 1) := by decide +kernel
theorem dX4_bestCase_16 : decode cX4_bestCase 16 = .ok (.getfield 37, 3) := by decide +kernel
theorem dX4_bestCase_19 : decode cX4_bestCase 19 = .ok (.iload_n 2, 1) := by decide +kernel
theorem dX4_bestCase_20 : decode cX4_bestCase 20 = .ok (.iaload, 1) := by decide +kernel
theorem dX4_bestCase_21 : decode cX4_bestCase 21 = .ok (.iconst (-1), 1) := by decide +kernel
theorem dX4_bestCase_22 : decode cX4_bestCase 22 = .ok (.if_icmp .eq 25, 3) := by decide +kernel
theorem dX4_bestCase_25 : decode cX4_bestCase 25 = .ok (.iload_n 1, 1) := by decide +kernel
theorem dX4_bestCase_26 : decode cX4_bestCase 26 = .ok (.iconst (-1), 1) := by decide +kernel
theorem dX4_bestCase_27 : decode cX4_bestCase 27 = .ok (.if_icmp .eq 18, 3) := by decide +kernel
theorem dX4_bestCase_30 : decode cX4_bestCase 30 = .ok (.aload_n 0, 1) := by decide +kernel
theorem dX4_bestCase_31 : decode cX4_bestCase 31 = .ok (.getfield 37, 3) := by decide +kernel
theorem dX4_bestCase_34 : decode cX4_bestCase 34 = .ok (.iload_n 2, 1) := by decide +kernel
theorem dX4_bestCase_35 : decode cX4_bestCase 35 = .ok (.iaload, 1) := by decide +kernel
theorem dX4_bestCase_36 : decode cX4_bestCase 36 = .ok (.aload_n 0, 1) := by decide +kernel
theorem dX4_bestCase_37 : decode cX4_bestCase 37 = .ok (.getfield 37, 3) := by decide +kernel
theorem dX4_bestCase_40 : decode cX4_bestCase 40 = .ok (.iload_n 1, 1) := by decide +kernel
theorem dX4_bestCase_41 : decode cX4_bestCase 41 = .ok (.iaload, 1) := by decide +kernel
theorem dX4_bestCase_42 : decode cX4_bestCase 42 = .ok (.if_icmp .ge 5, 3) := by decide +kernel
theorem dX4_bestCase_45 : decode cX4_bestCase 45 = .ok (.iload_n 2, 1) := by decide +kernel
theorem dX4_bestCase_46 : decode cX4_bestCase 46 = .ok (.istore_n 1, 1) := by decide +kernel
theorem dX4_bestCase_47 : decode cX4_bestCase 47 = .ok (.iinc 2 1, 3) := by decide +kernel
theorem dX4_bestCase_50 : decode cX4_bestCase 50 = .ok (.goto (-46), 3) := by decide +kernel
theorem dX4_bestCase_53 : decode cX4_bestCase 53 = .ok (.iload_n 1, 1) := by decide +kernel
theorem dX4_bestCase_54 : decode cX4_bestCase 54 = .ok (.ireturn, 1) := by decide +kernel
theorem dX4_meanByFirst_0 : decode cX4_meanByFirst 0 = .ok (.aload_n 0, 1) := by decide +kernel
theorem dX4_meanByFirst_1 : decode cX4_meanByFirst 1 = .ok (.iload_n 2, 1) := by decide +kernel
theorem dX4_meanByFirst_2 : decode cX4_meanByFirst 2 = .ok (.iconst 0, 1) := by decide +kernel
theorem dX4_meanByFirst_3 : decode cX4_meanByFirst 3 = .ok (.invokevirtual 84, 3) := by decide +kernel
theorem dX4_meanByFirst_6 : decode cX4_meanByFirst 6 = .ok (.istore_n 3, 1) := by decide +kernel
theorem dX4_meanByFirst_7 : decode cX4_meanByFirst 7 = .ok (.iload_n 3, 1) := by decide +kernel
theorem dX4_meanByFirst_8 : decode cX4_meanByFirst 8 = .ok (.iconst (-1), 1) := by decide +kernel
theorem dX4_meanByFirst_9 : decode cX4_meanByFirst 9 = .ok (.if_icmp .ne 5, 3) := by decide +kernel
theorem dX4_meanByFirst_12 : decode cX4_meanByFirst 12 = .ok (.iconst (-1), 1) := by decide +kernel
theorem dX4_meanByFirst_13 : decode cX4_meanByFirst 13 = .ok (.ireturn, 1) := by decide +kernel
theorem dX4_meanByFirst_14 : decode cX4_meanByFirst 14 = .ok (.iconst 0, 1) := by decide +kernel
theorem dX4_meanByFirst_15 : decode cX4_meanByFirst 15 = .ok (.istore 4, 2) := by decide +kernel
theorem dX4_meanByFirst_17 : decode cX4_meanByFirst 17 = .ok (.iload 4, 2) := by decide +kernel
theorem dX4_meanByFirst_19 : decode cX4_meanByFirst 19 = .ok (.aload_n 0, 1) := by decide +kernel
theorem dX4_meanByFirst_20 : decode cX4_meanByFirst 20 = .ok (.getfield 9, 3) := by decide +kernel
theorem dX4_meanByFirst_23 : decode cX4_meanByFirst 23 = .ok (.getfield 106, 3) := by decide +kernel
theorem dX4_meanByFirst_26 : decode cX4_meanByFirst 26 = .ok (.if_icmp .ge 25, 3) := by decide +kernel
theorem dX4_meanByFirst_29 : decode cX4_meanByFirst 29 = .ok (.aload_n 0, 1) := by decide +kernel
theorem dX4_meanByFirst_30 : decode cX4_meanByFirst 30 = .ok (.getfield 23, 3) := by decide +kernel
theorem dX4_meanByFirst_33 : decode cX4_meanByFirst 33 = .ok (.iload 4, 2) := by decide +kernel
theorem dX4_meanByFirst_35 : decode cX4_meanByFirst 35 = .ok (.aload_n 0, 1) := by decide +kernel
theorem dX4_meanByFirst_36 : decode cX4_meanByFirst 36 = .ok (.iload_n 3, 1) := by decide +kernel
theorem dX4_meanByFirst_37 : decode cX4_meanByFirst 37 = .ok (.iload 4, 2) := by decide +kernel
theorem dX4_meanByFirst_39 : decode cX4_meanByFirst 39 = .ok (.invokevirtual 109, 3) := by decide +kernel
theorem dX4_meanByFirst_42 : decode cX4_meanByFirst 42 = .ok (.invokevirtual 112, 3) := by decide +kernel
theorem dX4_meanByFirst_45 : decode cX4_meanByFirst 45 = .ok (.iinc 4 1, 3) := by decide +kernel
theorem dX4_meanByFirst_48 : decode cX4_meanByFirst 48 = .ok (.goto (-31), 3) := by decide +kernel
theorem dX4_meanByFirst_51 : decode cX4_meanByFirst 51 = .ok (.aload_n 0, 1) := by decide +kernel
theorem dX4_meanByFirst_52 : decode cX4_meanByFirst 52 = .ok (.getfield 23, 3) := by decide +kernel
theorem dX4_meanByFirst_55 : decode cX4_meanByFirst 55 = .ok (.iload_n 1, 1) := by decide +kernel
theorem dX4_meanByFirst_56 : decode cX4_meanByFirst 56 = .ok (.invokevirtual 115, 3) := by decide +kernel
theorem dX4_meanByFirst_59 : decode cX4_meanByFirst 59 = .ok (.ireturn, 1) := by decide +kernel
theorem dX4_search_0 : decode cX4_search 0 = .ok (.aload_n 0, 1) := by decide +kernel
theorem dX4_search_1 : decode cX4_search 1 = .ok (.invokevirtual 118, 3) := by decide +kernel
theorem dX4_search_4 : decode cX4_search 4 = .ok (.aload_n 0, 1) := by decide +kernel
theorem dX4_search_5 : decode cX4_search 5 = .ok (.getfield 27, 3) := by decide +kernel
theorem dX4_search_8 : decode cX4_search 8 = .ok (.iconst 1, 1) := by decide +kernel
theorem dX4_search_9 : decode cX4_search 9 = .ok (.iload_n 1, 1) := by decide +kernel
theorem dX4_search_10 : decode cX4_search 10 = .ok (.ishl, 1) := by decide +kernel
theorem dX4_search_11 : decode cX4_search 11 = .ok (.iconst 1, 1) := by decide +kernel
theorem dX4_search_12 : decode cX4_search 12 = .ok (.isub, 1) := by decide +kernel
theorem dX4_search_13 : decode cX4_search 13 = .ok (.invokestatic 74, 3) := by decide +kernel
theorem dX4_search_16 : decode cX4_search 16 = .ok (.iconst 0, 1) := by decide +kernel
theorem dX4_search_17 : decode cX4_search 17 = .ok (.istore_n 3, 1) := by decide +kernel
theorem dX4_search_18 : decode cX4_search 18 = .ok (.iload_n 3, 1) := by decide +kernel
theorem dX4_search_19 : decode cX4_search 19 = .ok (.aload_n 0, 1) := by decide +kernel
theorem dX4_search_20 : decode cX4_search 20 = .ok (.getfield 9, 3) := by decide +kernel
theorem dX4_search_23 : decode cX4_search 23 = .ok (.getfield 106, 3) := by decide +kernel
theorem dX4_search_26 : decode cX4_search 26 = .ok (.if_icmp .ge 71, 3) := by decide +kernel
theorem dX4_search_29 : decode cX4_search 29 = .ok (.aload_n 0, 1) := by decide +kernel
theorem dX4_search_30 : decode cX4_search 30 = .ok (.getfield 23, 3) := by decide +kernel
theorem dX4_search_33 : decode cX4_search 33 = .ok (.invokevirtual 121, 3) := by decide +kernel
theorem dX4_search_36 : decode cX4_search 36 = .ok (.istore 4, 2) := by decide +kernel
theorem dX4_search_38 : decode cX4_search 38 = .ok (.aload_n 0, 1) := by decide +kernel
theorem dX4_search_39 : decode cX4_search 39 = .ok (.getfield 23, 3) := by decide +kernel
theorem dX4_search_42 : decode cX4_search 42 = .ok (.invokevirtual 125, 3) := by decide +kernel
theorem dX4_search_45 : decode cX4_search 45 = .ok (.iconst 0, 1) := by decide +kernel
theorem dX4_search_46 : decode cX4_search 46 = .ok (.istore 5, 2) := by decide +kernel
theorem dX4_search_48 : decode cX4_search 48 = .ok (.iload 5, 2) := by decide +kernel
theorem dX4_search_50 : decode cX4_search 50 = .ok (.iload 4, 2) := by decide +kernel
theorem dX4_search_52 : decode cX4_search 52 = .ok (.if_icmp .ge 39, 3) := by decide +kernel
theorem dX4_search_55 : decode cX4_search 55 = .ok (.aload_n 0, 1) := by decide +kernel
theorem dX4_search_56 : decode cX4_search 56 = .ok (.getfield 23, 3) := by decide +kernel
theorem dX4_search_59 : decode cX4_search 59 = .ok (.invokevirtual 128, 3) := by decide +kernel
theorem dX4_search_62 : decode cX4_search 62 = .ok (.aload_n 0, 1) := by decide +kernel
theorem dX4_search_63 : decode cX4_search 63 = .ok (.getfield 23, 3) := by decide +kernel
theorem dX4_search_66 : decode cX4_search 66 = .ok (.iload_n 3, 1) := by decide +kernel
theorem dX4_search_67 : decode cX4_search 67 = .ok (.invokevirtual 131, 3) := by decide +kernel
theorem dX4_search_70 : decode cX4_search 70 = .ok (.aload_n 0, 1) := by decide +kernel
theorem dX4_search_71 : decode cX4_search 71 = .ok (.iload_n 3, 1) := by decide +kernel
theorem dX4_search_72 : decode cX4_search 72 = .ok (.iload_n 1, 1) := by decide +kernel
theorem dX4_search_73 : decode cX4_search 73 = .ok (.iload_n 2, 1) := by decide +kernel
theorem dX4_search_74 : decode cX4_search 74 = .ok (.invokevirtual 134, 3) := by decide +kernel
theorem dX4_search_77 : decode cX4_search 77 = .ok (.aload_n 0, 1) := by decide +kernel
theorem dX4_search_78 : decode cX4_search 78 = .ok (.getfield 23, 3) := by decide +kernel
theorem dX4_search_81 : decode cX4_search 81 = .ok (.iload_n 3, 1) := by decide +kernel
theorem dX4_search_82 : decode cX4_search 82 = .ok (.invokevirtual 138, 3) := by decide +kernel
theorem dX4_search_85 : decode cX4_search 85 = .ok (.iinc 5 1, 3) := by decide +kernel
theorem dX4_search_88 : decode cX4_search 88 = .ok (.goto (-40), 3) := by decide +kernel
theorem dX4_search_91 : decode cX4_search 91 = .ok (.iinc 3 1, 3) := by decide +kernel
theorem dX4_search_94 : decode cX4_search 94 = .ok (.goto (-76), 3) := by decide +kernel
theorem dX4_search_97 : decode cX4_search 97 = .ok (.return_, 1) := by decide +kernel
theorem dX4_countRows_0 : decode cX4_countRows 0 = .ok (.aload_n 0, 1) := by decide +kernel
theorem dX4_countRows_1 : decode cX4_countRows 1 = .ok (.iconst 1, 1) := by decide +kernel
theorem dX4_countRows_2 : decode cX4_countRows 2 = .ok (.putfield 40, 3) := by decide +kernel
theorem dX4_countRows_5 : decode cX4_countRows 5 = .ok (.iconst 0, 1) := by decide +kernel
theorem dX4_countRows_6 : decode cX4_countRows 6 = .ok (.istore_n 1, 1) := by decide +kernel
theorem dX4_countRows_7 : decode cX4_countRows 7 = .ok (.iload_n 1, 1) := by decide +kernel
theorem dX4_countRows_8 : decode cX4_countRows 8 = .ok (.aload_n 0, 1) := by decide +kernel
theorem dX4_countRows_9 : decode cX4_countRows 9 = .ok (.getfield 9, 3) := by decide +kernel
theorem dX4_countRows_12 : decode cX4_countRows 12 = .ok (.getfield 106, 3) := by decide +kernel
theorem dX4_countRows_15 : decode cX4_countRows 15 = .ok (.if_icmp .ge 35, 3) := by decide +kernel
theorem dX4_countRows_18 : decode cX4_countRows 18 = .ok (.aload_n 0, 1) := by decide +kernel
theorem dX4_countRows_19 : decode cX4_countRows 19 = .ok (.getfield 31, 3) := by decide +kernel
theorem dX4_countRows_22 : decode cX4_countRows 22 = .ok (.iload_n 1, 1) := by decide +kernel
theorem dX4_countRows_23 : decode cX4_countRows 23 = .ok (.aload_n 0, 1) := by decide +kernel
theorem dX4_countRows_24 : decode cX4_countRows 24 = .ok (.getfield 40, 3) := by decide +kernel
theorem dX4_countRows_27 : decode cX4_countRows 27 = .ok (.iastore, 1) := by decide +kernel
theorem dX4_countRows_28 : decode cX4_countRows 28 = .ok (.aload_n 0, 1) := by decide +kernel
theorem dX4_countRows_29 : decode cX4_countRows 29 = .ok (.dup, 1) := by decide +kernel
theorem dX4_countRows_30 : decode cX4_countRows 30 = .ok (.getfield 40, 3) := by decide +kernel
theorem dX4_countRows_33 : decode cX4_countRows 33 = .ok (.aload_n 0, 1) := by decide +kernel
theorem dX4_countRows_34 : decode cX4_countRows 34 = .ok (.getfield 9, 3) := by decide +kernel
theorem dX4_countRows_37 : decode cX4_countRows 37 = .ok (.getfield 92, 3) := by decide +kernel
theorem dX4_countRows_40 : decode cX4_countRows 40 = .ok (.imul, 1) := by decide +kernel
theorem dX4_countRows_41 : decode cX4_countRows 41 = .ok (.putfield 40, 3) := by decide +kernel
theorem dX4_countRows_44 : decode cX4_countRows 44 = .ok (.iinc 1 1, 3) := by decide +kernel
theorem dX4_countRows_47 : decode cX4_countRows 47 = .ok (.goto (-40), 3) := by decide +kernel
theorem dX4_countRows_50 : decode cX4_countRows 50 = .ok (.aload_n 0, 1) := by decide +kernel
theorem dX4_countRows_51 : decode cX4_countRows 51 = .ok (.getfield 27, 3) := by decide +kernel
theorem dX4_countRows_54 : decode cX4_countRows 54 = .ok (.arraylength, 1) := by decide +kernel
theorem dX4_countRows_55 : decode cX4_countRows 55 = .ok (.aload_n 0, 1) := by decide +kernel
theorem dX4_countRows_56 : decode cX4_countRows 56 = .ok (.getfield 40, 3) := by decide +kernel
theorem dX4_countRows_59 : decode cX4_countRows 59 = .ok (.if_icmp .ge 13, 3) := by decide +kernel
theorem dX4_countRows_62 : decode cX4_countRows 62 = .ok (.aload_n 0, 1) := by decide +kernel
theorem dX4_countRows_63 : decode cX4_countRows 63 = .ok (.aload_n 0, 1) := by decide +kernel
theorem dX4_countRows_64 : decode cX4_countRows 64 = .ok (.getfield 40, 3) := by decide +kernel
theorem dX4_countRows_67 : decode cX4_countRows 67 = .ok (.newarray .int, 2) := by decide +kernel
theorem dX4_countRows_69 : decode cX4_countRows 69 = .ok (.putfield 27, 3) := by decide +kernel
theorem dX4_countRows_72 : decode cX4_countRows 72 = .ok (.return_, 1) := by decide +kernel
theorem dX4_strikeCases_0 : decode cX4_strikeCases 0 = .ok (.iload_n 3, 1) := by decide +kernel
theorem dX4_strikeCases_1 : decode cX4_strikeCases 1 = .ok (.iconst (-1), 1) := by decide +kernel
theorem dX4_strikeCases_2 : decode cX4_strikeCases 2 = .ok (.if_icmp .eq 34, 3) := by decide +kernel
theorem dX4_strikeCases_5 : decode cX4_strikeCases 5 = .ok (.iload_n 3, 1) := by decide +kernel
theorem dX4_strikeCases_6 : decode cX4_strikeCases 6 = .ok (.iload_n 1, 1) := by decide +kernel
theorem dX4_strikeCases_7 : decode cX4_strikeCases 7 = .ok (.if_icmp .eq 29, 3) := by decide +kernel
theorem dX4_strikeCases_10 : decode cX4_strikeCases 10 = .ok (.aload_n 0, 1) := by decide +kernel
theorem dX4_strikeCases_11 : decode cX4_strikeCases 11 = .ok (.iload_n 1, 1) := by decide +kernel
theorem dX4_strikeCases_12 : decode cX4_strikeCases 12 = .ok (.iconst 1, 1) := by decide +kernel
theorem dX4_strikeCases_13 : decode cX4_strikeCases 13 = .ok (.iload_n 2, 1) := by decide +kernel
theorem dX4_strikeCases_14 : decode cX4_strikeCases 14 = .ok (.ishl, 1) := by decide +kernel
theorem dX4_strikeCases_15 : decode cX4_strikeCases 15 = .ok (.iconst 1, 1) := by decide +kernel
theorem dX4_strikeCases_16 : decode cX4_strikeCases 16 = .ok (.isub, 1) := by decide +kernel
theorem dX4_strikeCases_17 : decode cX4_strikeCases 17 = .ok (.aload_n 0, 1) := by decide +kernel
theorem dX4_strikeCases_18 : decode cX4_strikeCases 18 = .ok (.getfield 34, 3) := by decide +kernel
theorem dX4_strikeCases_21 : decode cX4_strikeCases 21 = .ok (.iconst 0, 1) := by decide +kernel
theorem dX4_strikeCases_22 : decode cX4_strikeCases 22 = .ok (.iaload, 1) := by decide +kernel
theorem dX4_strikeCases_23 : decode cX4_strikeCases 23 = .ok (.aload_n 0, 1) := by decide +kernel
theorem dX4_strikeCases_24 : decode cX4_strikeCases 24 = .ok (.getfield 15, 3) := by decide +kernel
theorem dX4_strikeCases_27 : decode cX4_strikeCases 27 = .ok (.getfield 65, 3) := by decide +kernel
theorem dX4_strikeCases_30 : decode cX4_strikeCases 30 = .ok (.iload_n 1, 1) := by decide +kernel
theorem dX4_strikeCases_31 : decode cX4_strikeCases 31 = .ok (.iaload, 1) := by decide +kernel
theorem dX4_strikeCases_32 : decode cX4_strikeCases 32 = .ok (.invokevirtual 141, 3) := by decide +kernel
theorem dX4_strikeCases_35 : decode cX4_strikeCases 35 = .ok (.return_, 1) := by decide +kernel
theorem dX4_strikeCases_36 : decode cX4_strikeCases 36 = .ok (.iconst 0, 1) := by decide +kernel
theorem dX4_strikeCases_37 : decode cX4_strikeCases 37 = .ok (.istore 4, 2) := by decide +kernel
theorem dX4_strikeCases_39 : decode cX4_strikeCases 39 = .ok (.iload 4, 2) := by decide +kernel
theorem dX4_strikeCases_41 : decode cX4_strikeCases 41 = .ok (.iload_n 2, 1) := by decide +kernel
theorem dX4_strikeCases_42 : decode cX4_strikeCases 42 = .ok (.if_icmp .ge 46, 3) := by decide +kernel
theorem dX4_strikeCases_45 : decode cX4_strikeCases 45 = .ok (.aload_n 0, 1) := by decide +kernel
theorem dX4_strikeCases_46 : decode cX4_strikeCases 46 = .ok (.iload_n 1, 1) := by decide +kernel
theorem dX4_strikeCases_47 : decode cX4_strikeCases 47 = .ok (.iconst 1, 1) := by decide +kernel
theorem dX4_strikeCases_48 : decode cX4_strikeCases 48 = .ok (.iload 4, 2) := by decide +kernel
theorem dX4_strikeCases_50 : decode cX4_strikeCases 50 = .ok (.ishl, 1) := by decide +kernel
theorem dX4_strikeCases_51 : decode cX4_strikeCases 51 = .ok (.aload_n 0, 1) := by decide +kernel
theorem dX4_strikeCases_52 : decode cX4_strikeCases 52 = .ok (.getfield 34, 3) := by decide +kernel
theorem dX4_strikeCases_55 : decode cX4_strikeCases 55 = .ok (.iload 4, 2) := by decide +kernel
theorem dX4_strikeCases_57 : decode cX4_strikeCases 57 = .ok (.iaload, 1) := by decide +kernel
theorem dX4_strikeCases_58 : decode cX4_strikeCases 58 = .ok (.aload_n 0, 1) := by decide +kernel
theorem dX4_strikeCases_59 : decode cX4_strikeCases 59 = .ok (.getfield 15, 3) := by decide +kernel
theorem dX4_strikeCases_62 : decode cX4_strikeCases 62 = .ok (.getfield 65, 3) := by decide +kernel
theorem dX4_strikeCases_65 : decode cX4_strikeCases 65 = .ok (.iload_n 1, 1) := by decide +kernel
theorem dX4_strikeCases_66 : decode cX4_strikeCases 66 = .ok (.iaload, 1) := by decide +kernel
theorem dX4_strikeCases_67 : decode cX4_strikeCases 67 = .ok (.iload_n 3, 1) := by decide +kernel
theorem dX4_strikeCases_68 : decode cX4_strikeCases 68 = .ok (.iload_n 1, 1) := by decide +kernel
theorem dX4_strikeCases_69 : decode cX4_strikeCases 69 = .ok (.if_icmp .ne 8, 3) := by decide +kernel
theorem dX4_strikeCases_72 : decode cX4_strikeCases 72 = .ok (.iload 4, 2) := by decide +kernel
theorem dX4_strikeCases_74 : decode cX4_strikeCases 74 = .ok (.goto 4, 3) := by decide +kernel
theorem dX4_strikeCases_77 : decode cX4_strikeCases 77 = .ok (.iconst 0, 1) := by decide +kernel
theorem dX4_strikeCases_78 : decode cX4_strikeCases 78 = .ok (.iadd, 1) := by decide +kernel
theorem dX4_strikeCases_79 : decode cX4_strikeCases 79 = .ok (.invokevirtual 141, 3) := by decide +kernel
theorem dX4_strikeCases_82 : decode cX4_strikeCases 82 = .ok (.iinc 4 1, 3) := by decide +kernel
theorem dX4_strikeCases_85 : decode cX4_strikeCases 85 = .ok (.goto (-46), 3) := by decide +kernel
theorem dX4_strikeCases_88 : decode cX4_strikeCases 88 = .ok (.return_, 1) := by decide +kernel
theorem dX4_strike_0 : decode cX4_strike 0 = .ok (.iconst 0, 1) := by decide +kernel
theorem dX4_strike_1 : decode cX4_strike 1 = .ok (.istore 5, 2) := by decide +kernel
theorem dX4_strike_3 : decode cX4_strike 3 = .ok (.iconst 0, 1) := by decide +kernel
theorem dX4_strike_4 : decode cX4_strike 4 = .ok (.istore 6, 2) := by decide +kernel
theorem dX4_strike_6 : decode cX4_strike 6 = .ok (.iload 6, 2) := by decide +kernel
theorem dX4_strike_8 : decode cX4_strike 8 = .ok (.aload_n 0, 1) := by decide +kernel
theorem dX4_strike_9 : decode cX4_strike 9 = .ok (.getfield 9, 3) := by decide +kernel
theorem dX4_strike_12 : decode cX4_strike 12 = .ok (.getfield 106, 3) := by decide +kernel
theorem dX4_strike_15 : decode cX4_strike 15 = .ok (.if_icmp .ge 42, 3) := by decide +kernel
theorem dX4_strike_18 : decode cX4_strike 18 = .ok (.iload 5, 2) := by decide +kernel
theorem dX4_strike_20 : decode cX4_strike 20 = .ok (.iload 6, 2) := by decide +kernel
theorem dX4_strike_22 : decode cX4_strike 22 = .ok (.iload_n 1, 1) := by decide +kernel
theorem dX4_strike_23 : decode cX4_strike 23 = .ok (.if_icmp .ne 7, 3) := by decide +kernel
theorem dX4_strike_26 : decode cX4_strike 26 = .ok (.iconst 0, 1) := by decide +kernel
theorem dX4_strike_27 : decode cX4_strike 27 = .ok (.goto 21, 3) := by decide +kernel
theorem dX4_strike_30 : decode cX4_strike 30 = .ok (.aload_n 0, 1) := by decide +kernel
theorem dX4_strike_31 : decode cX4_strike 31 = .ok (.getfield 23, 3) := by decide +kernel
theorem dX4_strike_34 : decode cX4_strike 34 = .ok (.getfield 145, 3) := by decide +kernel
theorem dX4_strike_37 : decode cX4_strike 37 = .ok (.iload 6, 2) := by decide +kernel
theorem dX4_strike_39 : decode cX4_strike 39 = .ok (.iaload, 1) := by decide +kernel
theorem dX4_strike_40 : decode cX4_strike 40 = .ok (.aload_n 0, 1) := by decide +kernel
theorem dX4_strike_41 : decode cX4_strike 41 = .ok (.getfield 31, 3) := by decide +kernel
theorem dX4_strike_44 : decode cX4_strike 44 = .ok (.iload 6, 2) := by decide +kernel
theorem dX4_strike_46 : decode cX4_strike 46 = .ok (.iaload, 1) := by decide +kernel
theorem dX4_strike_47 : decode cX4_strike 47 = .ok (.imul, 1) := by decide +kernel
theorem dX4_strike_48 : decode cX4_strike 48 = .ok (.iadd, 1) := by decide +kernel
theorem dX4_strike_49 : decode cX4_strike 49 = .ok (.istore 5, 2) := by decide +kernel
theorem dX4_strike_51 : decode cX4_strike 51 = .ok (.iinc 6 1, 3) := by decide +kernel
theorem dX4_strike_54 : decode cX4_strike 54 = .ok (.goto (-48), 3) := by decide +kernel
theorem dX4_strike_57 : decode cX4_strike 57 = .ok (.ldc 150, 2) := by decide +kernel
theorem dX4_strike_59 : decode cX4_strike 59 = .ok (.istore 6, 2) := by decide +kernel
theorem dX4_strike_61 : decode cX4_strike 61 = .ok (.iconst 0, 1) := by decide +kernel
theorem dX4_strike_62 : decode cX4_strike 62 = .ok (.istore 7, 2) := by decide +kernel
theorem dX4_strike_64 : decode cX4_strike 64 = .ok (.iload 7, 2) := by decide +kernel
theorem dX4_strike_66 : decode cX4_strike 66 = .ok (.aload_n 0, 1) := by decide +kernel
theorem dX4_strike_67 : decode cX4_strike 67 = .ok (.getfield 9, 3) := by decide +kernel
theorem dX4_strike_70 : decode cX4_strike 70 = .ok (.getfield 92, 3) := by decide +kernel
theorem dX4_strike_73 : decode cX4_strike 73 = .ok (.if_icmp .ge 49, 3) := by decide +kernel
theorem dX4_strike_76 : decode cX4_strike 76 = .ok (.iload_n 3, 1) := by decide +kernel
theorem dX4_strike_77 : decode cX4_strike 77 = .ok (.iload 7, 2) := by decide +kernel
theorem dX4_strike_79 : decode cX4_strike 79 = .ok (.ishr, 1) := by decide +kernel
theorem dX4_strike_80 : decode cX4_strike 80 = .ok (.iconst 1, 1) := by decide +kernel
theorem dX4_strike_81 : decode cX4_strike 81 = .ok (.iand, 1) := by decide +kernel
theorem dX4_strike_82 : decode cX4_strike 82 = .ok (.ifCond .eq 34, 3) := by decide +kernel
theorem dX4_strike_85 : decode cX4_strike 85 = .ok (.iload 6, 2) := by decide +kernel
theorem dX4_strike_87 : decode cX4_strike 87 = .ok (.aload_n 0, 1) := by decide +kernel
theorem dX4_strike_88 : decode cX4_strike 88 = .ok (.getfield 23, 3) := by decide +kernel
theorem dX4_strike_91 : decode cX4_strike 91 = .ok (.getfield 151, 3) := by decide +kernel
theorem dX4_strike_94 : decode cX4_strike 94 = .ok (.iload 7, 2) := by decide +kernel
theorem dX4_strike_96 : decode cX4_strike 96 = .ok (.iaload, 1) := by decide +kernel
theorem dX4_strike_97 : decode cX4_strike 97 = .ok (.iload 4, 2) := by decide +kernel
theorem dX4_strike_99 : decode cX4_strike 99 = .ok (.aload_n 0, 1) := by decide +kernel
theorem dX4_strike_100 : decode cX4_strike 100 = .ok (.getfield 23, 3) := by decide +kernel
theorem dX4_strike_103 : decode cX4_strike 103 = .ok (.getfield 154, 3) := by decide +kernel
theorem dX4_strike_106 : decode cX4_strike 106 = .ok (.iload 7, 2) := by decide +kernel
theorem dX4_strike_108 : decode cX4_strike 108 = .ok (.iaload, 1) := by decide +kernel
theorem dX4_strike_109 : decode cX4_strike 109 = .ok (.imul, 1) := by decide +kernel
theorem dX4_strike_110 : decode cX4_strike 110 = .ok (.isub, 1) := by decide +kernel
theorem dX4_strike_111 : decode cX4_strike 111 = .ok (.invokestatic 157, 3) := by decide +kernel
theorem dX4_strike_114 : decode cX4_strike 114 = .ok (.istore 6, 2) := by decide +kernel
theorem dX4_strike_116 : decode cX4_strike 116 = .ok (.iinc 7 1, 3) := by decide +kernel
theorem dX4_strike_119 : decode cX4_strike 119 = .ok (.goto (-55), 3) := by decide +kernel
theorem dX4_strike_122 : decode cX4_strike 122 = .ok (.iconst 0, 1) := by decide +kernel
theorem dX4_strike_123 : decode cX4_strike 123 = .ok (.istore 7, 2) := by decide +kernel
theorem dX4_strike_125 : decode cX4_strike 125 = .ok (.iload 7, 2) := by decide +kernel
theorem dX4_strike_127 : decode cX4_strike 127 = .ok (.aload_n 0, 1) := by decide +kernel
theorem dX4_strike_128 : decode cX4_strike 128 = .ok (.getfield 9, 3) := by decide +kernel
theorem dX4_strike_131 : decode cX4_strike 131 = .ok (.getfield 92, 3) := by decide +kernel
theorem dX4_strike_134 : decode cX4_strike 134 = .ok (.if_icmp .ge 96, 3) := by decide +kernel
theorem dX4_strike_137 : decode cX4_strike 137 = .ok (.iload_n 3, 1) := by decide +kernel
theorem dX4_strike_138 : decode cX4_strike 138 = .ok (.iload 7, 2) := by decide +kernel
theorem dX4_strike_140 : decode cX4_strike 140 = .ok (.ishr, 1) := by decide +kernel
theorem dX4_strike_141 : decode cX4_strike 141 = .ok (.iconst 1, 1) := by decide +kernel
theorem dX4_strike_142 : decode cX4_strike 142 = .ok (.iand, 1) := by decide +kernel
theorem dX4_strike_143 : decode cX4_strike 143 = .ok (.ifCond .eq 7, 3) := by decide +kernel
theorem dX4_strike_146 : decode cX4_strike 146 = .ok (.iconst 1, 1) := by decide +kernel
theorem dX4_strike_147 : decode cX4_strike 147 = .ok (.goto 4, 3) := by decide +kernel
theorem dX4_strike_150 : decode cX4_strike 150 = .ok (.iconst 0, 1) := by decide +kernel
theorem dX4_strike_151 : decode cX4_strike 151 = .ok (.istore 8, 2) := by decide +kernel
theorem dX4_strike_153 : decode cX4_strike 153 = .ok (.iload 5, 2) := by decide +kernel
theorem dX4_strike_155 : decode cX4_strike 155 = .ok (.iload 7, 2) := by decide +kernel
theorem dX4_strike_157 : decode cX4_strike 157 = .ok (.aload_n 0, 1) := by decide +kernel
theorem dX4_strike_158 : decode cX4_strike 158 = .ok (.getfield 31, 3) := by decide +kernel
theorem dX4_strike_161 : decode cX4_strike 161 = .ok (.iload_n 1, 1) := by decide +kernel
theorem dX4_strike_162 : decode cX4_strike 162 = .ok (.iaload, 1) := by decide +kernel
theorem dX4_strike_163 : decode cX4_strike 163 = .ok (.imul, 1) := by decide +kernel
theorem dX4_strike_164 : decode cX4_strike 164 = .ok (.iadd, 1) := by decide +kernel
theorem dX4_strike_165 : decode cX4_strike 165 = .ok (.istore 9, 2) := by decide +kernel
theorem dX4_strike_167 : decode cX4_strike 167 = .ok (.iload 9, 2) := by decide +kernel
theorem dX4_strike_169 : decode cX4_strike 169 = .ok (.aload_n 0, 1) := by decide +kernel
theorem dX4_strike_170 : decode cX4_strike 170 = .ok (.getfield 27, 3) := by decide +kernel
theorem dX4_strike_173 : decode cX4_strike 173 = .ok (.arraylength, 1) := by decide +kernel
theorem dX4_strike_174 : decode cX4_strike 174 = .ok (.if_icmp .ge 50, 3) := by decide +kernel
theorem dX4_strike_177 : decode cX4_strike 177 = .ok (.iload 8, 2) := by decide +kernel
theorem dX4_strike_179 : decode cX4_strike 179 = .ok (.ifCond .eq 32, 3) := by decide +kernel
theorem dX4_strike_182 : decode cX4_strike 182 = .ok (.aload_n 0, 1) := by decide +kernel
theorem dX4_strike_183 : decode cX4_strike 183 = .ok (.getfield 23, 3) := by decide +kernel
theorem dX4_strike_186 : decode cX4_strike 186 = .ok (.getfield 151, 3) := by decide +kernel
theorem dX4_strike_189 : decode cX4_strike 189 = .ok (.iload 7, 2) := by decide +kernel
theorem dX4_strike_191 : decode cX4_strike 191 = .ok (.iaload, 1) := by decide +kernel
theorem dX4_strike_192 : decode cX4_strike 192 = .ok (.iload 4, 2) := by decide +kernel
theorem dX4_strike_194 : decode cX4_strike 194 = .ok (.aload_n 0, 1) := by decide +kernel
theorem dX4_strike_195 : decode cX4_strike 195 = .ok (.getfield 23, 3) := by decide +kernel
theorem dX4_strike_198 : decode cX4_strike 198 = .ok (.getfield 154, 3) := by decide +kernel
theorem dX4_strike_201 : decode cX4_strike 201 = .ok (.iload 7, 2) := by decide +kernel
theorem dX4_strike_203 : decode cX4_strike 203 = .ok (.iaload, 1) := by decide +kernel
theorem dX4_strike_204 : decode cX4_strike 204 = .ok (.imul, 1) := by decide +kernel
theorem dX4_strike_205 : decode cX4_strike 205 = .ok (.isub, 1) := by decide +kernel
theorem dX4_strike_206 : decode cX4_strike 206 = .ok (.iload 6, 2) := by decide +kernel
theorem dX4_strike_208 : decode cX4_strike 208 = .ok (.if_icmp .ge 16, 3) := by decide +kernel
theorem dX4_strike_211 : decode cX4_strike 211 = .ok (.aload_n 0, 1) := by decide +kernel
theorem dX4_strike_212 : decode cX4_strike 212 = .ok (.getfield 27, 3) := by decide +kernel
theorem dX4_strike_215 : decode cX4_strike 215 = .ok (.iload 9, 2) := by decide +kernel
theorem dX4_strike_217 : decode cX4_strike 217 = .ok (.dup2, 1) := by decide +kernel
theorem dX4_strike_218 : decode cX4_strike 218 = .ok (.iaload, 1) := by decide +kernel
theorem dX4_strike_219 : decode cX4_strike 219 = .ok (.iload_n 2, 1) := by decide +kernel
theorem dX4_strike_220 : decode cX4_strike 220 = .ok (.iconst (-1), 1) := by decide +kernel
theorem dX4_strike_221 : decode cX4_strike 221 = .ok (.ixor, 1) := by decide +kernel
theorem dX4_strike_222 : decode cX4_strike 222 = .ok (.iand, 1) := by decide +kernel
theorem dX4_strike_223 : decode cX4_strike 223 = .ok (.iastore, 1) := by decide +kernel
theorem dX4_strike_224 : decode cX4_strike 224 = .ok (.iinc 7 1, 3) := by decide +kernel
theorem dX4_strike_227 : decode cX4_strike 227 = .ok (.goto (-102), 3) := by decide +kernel
theorem dX4_strike_230 : decode cX4_strike 230 = .ok (.return_, 1) := by decide +kernel
theorem dX4_howMany_0 : decode cX4_howMany 0 = .ok (.iconst 0, 1) := by decide +kernel
theorem dX4_howMany_1 : decode cX4_howMany 1 = .ok (.istore_n 2, 1) := by decide +kernel
theorem dX4_howMany_2 : decode cX4_howMany 2 = .ok (.iconst 0, 1) := by decide +kernel
theorem dX4_howMany_3 : decode cX4_howMany 3 = .ok (.istore_n 3, 1) := by decide +kernel
theorem dX4_howMany_4 : decode cX4_howMany 4 = .ok (.iload_n 3, 1) := by decide +kernel
theorem dX4_howMany_5 : decode cX4_howMany 5 = .ok (.aload_n 0, 1) := by decide +kernel
theorem dX4_howMany_6 : decode cX4_howMany 6 = .ok (.getfield 40, 3) := by decide +kernel
theorem dX4_howMany_9 : decode cX4_howMany 9 = .ok (.if_icmp .ge 31, 3) := by decide +kernel
theorem dX4_howMany_12 : decode cX4_howMany 12 = .ok (.iload_n 3, 1) := by decide +kernel
theorem dX4_howMany_13 : decode cX4_howMany 13 = .ok (.aload_n 0, 1) := by decide +kernel
theorem dX4_howMany_14 : decode cX4_howMany 14 = .ok (.getfield 27, 3) := by decide +kernel
theorem dX4_howMany_17 : decode cX4_howMany 17 = .ok (.arraylength, 1) := by decide +kernel
theorem dX4_howMany_18 : decode cX4_howMany 18 = .ok (.if_icmp .ge 22, 3) := by decide +kernel
theorem dX4_howMany_21 : decode cX4_howMany 21 = .ok (.iload_n 2, 1) := by decide +kernel
theorem dX4_howMany_22 : decode cX4_howMany 22 = .ok (.aload_n 0, 1) := by decide +kernel
theorem dX4_howMany_23 : decode cX4_howMany 23 = .ok (.getfield 27, 3) := by decide +kernel
theorem dX4_howMany_26 : decode cX4_howMany 26 = .ok (.iload_n 3, 1) := by decide +kernel
theorem dX4_howMany_27 : decode cX4_howMany 27 = .ok (.iaload, 1) := by decide +kernel
theorem dX4_howMany_28 : decode cX4_howMany 28 = .ok (.iload_n 1, 1) := by decide +kernel
theorem dX4_howMany_29 : decode cX4_howMany 29 = .ok (.ishr, 1) := by decide +kernel
theorem dX4_howMany_30 : decode cX4_howMany 30 = .ok (.iconst 1, 1) := by decide +kernel
theorem dX4_howMany_31 : decode cX4_howMany 31 = .ok (.iand, 1) := by decide +kernel
theorem dX4_howMany_32 : decode cX4_howMany 32 = .ok (.iadd, 1) := by decide +kernel
theorem dX4_howMany_33 : decode cX4_howMany 33 = .ok (.istore_n 2, 1) := by decide +kernel
theorem dX4_howMany_34 : decode cX4_howMany 34 = .ok (.iinc 3 1, 3) := by decide +kernel
theorem dX4_howMany_37 : decode cX4_howMany 37 = .ok (.goto (-33), 3) := by decide +kernel
theorem dX4_howMany_40 : decode cX4_howMany 40 = .ok (.iload_n 2, 1) := by decide +kernel
theorem dX4_howMany_41 : decode cX4_howMany 41 = .ok (.ireturn, 1) := by decide +kernel
theorem dX4_place_0 : decode cX4_place 0 = .ok (.iconst 0, 1) := by decide +kernel
theorem dX4_place_1 : decode cX4_place 1 = .ok (.istore_n 3, 1) := by decide +kernel
theorem dX4_place_2 : decode cX4_place 2 = .ok (.iconst 0, 1) := by decide +kernel
theorem dX4_place_3 : decode cX4_place 3 = .ok (.istore 4, 2) := by decide +kernel
theorem dX4_place_5 : decode cX4_place 5 = .ok (.iload 4, 2) := by decide +kernel
theorem dX4_place_7 : decode cX4_place 7 = .ok (.aload_n 0, 1) := by decide +kernel
theorem dX4_place_8 : decode cX4_place 8 = .ok (.getfield 40, 3) := by decide +kernel
theorem dX4_place_11 : decode cX4_place 11 = .ok (.if_icmp .ge 44, 3) := by decide +kernel
theorem dX4_place_14 : decode cX4_place 14 = .ok (.iload 4, 2) := by decide +kernel
theorem dX4_place_16 : decode cX4_place 16 = .ok (.aload_n 0, 1) := by decide +kernel
theorem dX4_place_17 : decode cX4_place 17 = .ok (.getfield 27, 3) := by decide +kernel
theorem dX4_place_20 : decode cX4_place 20 = .ok (.arraylength, 1) := by decide +kernel
theorem dX4_place_21 : decode cX4_place 21 = .ok (.if_icmp .ge 34, 3) := by decide +kernel
theorem dX4_place_24 : decode cX4_place 24 = .ok (.aload_n 0, 1) := by decide +kernel
theorem dX4_place_25 : decode cX4_place 25 = .ok (.getfield 27, 3) := by decide +kernel
theorem dX4_place_28 : decode cX4_place 28 = .ok (.iload 4, 2) := by decide +kernel
theorem dX4_place_30 : decode cX4_place 30 = .ok (.iaload, 1) := by decide +kernel
theorem dX4_place_31 : decode cX4_place 31 = .ok (.iload_n 1, 1) := by decide +kernel
theorem dX4_place_32 : decode cX4_place 32 = .ok (.ishr, 1) := by decide +kernel
theorem dX4_place_33 : decode cX4_place 33 = .ok (.iconst 1, 1) := by decide +kernel
theorem dX4_place_34 : decode cX4_place 34 = .ok (.iand, 1) := by decide +kernel
theorem dX4_place_35 : decode cX4_place 35 = .ok (.ifCond .eq 14, 3) := by decide +kernel
theorem dX4_place_38 : decode cX4_place 38 = .ok (.iload_n 3, 1) := by decide +kernel
theorem dX4_place_39 : decode cX4_place 39 = .ok (.iload_n 2, 1) := by decide +kernel
theorem dX4_place_40 : decode cX4_place 40 = .ok (.if_icmp .ne 6, 3) := by decide +kernel
theorem dX4_place_43 : decode cX4_place 43 = .ok (.iload 4, 2) := by decide +kernel
theorem dX4_place_45 : decode cX4_place 45 = .ok (.ireturn, 1) := by decide +kernel
theorem dX4_place_46 : decode cX4_place 46 = .ok (.iinc 3 1, 3) := by decide +kernel
theorem dX4_place_49 : decode cX4_place 49 = .ok (.iinc 4 1, 3) := by decide +kernel
theorem dX4_place_52 : decode cX4_place 52 = .ok (.goto (-47), 3) := by decide +kernel
theorem dX4_place_55 : decode cX4_place 55 = .ok (.iconst (-1), 1) := by decide +kernel
theorem dX4_place_56 : decode cX4_place 56 = .ok (.ireturn, 1) := by decide +kernel
theorem dX4_stepIn_0 : decode cX4_stepIn 0 = .ok (.aload_n 0, 1) := by decide +kernel
theorem dX4_stepIn_1 : decode cX4_stepIn 1 = .ok (.getfield 31, 3) := by decide +kernel
theorem dX4_stepIn_4 : decode cX4_stepIn 4 = .ok (.iload_n 2, 1) := by decide +kernel
theorem dX4_stepIn_5 : decode cX4_stepIn 5 = .ok (.iaload, 1) := by decide +kernel
theorem dX4_stepIn_6 : decode cX4_stepIn 6 = .ok (.ifCond .le 32, 3) := by decide +kernel
theorem dX4_stepIn_9 : decode cX4_stepIn 9 = .ok (.aload_n 0, 1) := by decide +kernel
theorem dX4_stepIn_10 : decode cX4_stepIn 10 = .ok (.getfield 9, 3) := by decide +kernel
theorem dX4_stepIn_13 : decode cX4_stepIn 13 = .ok (.getfield 92, 3) := by decide +kernel
theorem dX4_stepIn_16 : decode cX4_stepIn 16 = .ok (.ifCond .le 22, 3) := by decide +kernel
theorem dX4_stepIn_19 : decode cX4_stepIn 19 = .ok (.iload_n 1, 1) := by decide +kernel
theorem dX4_stepIn_20 : decode cX4_stepIn 20 = .ok (.aload_n 0, 1) := by decide +kernel
theorem dX4_stepIn_21 : decode cX4_stepIn 21 = .ok (.getfield 31, 3) := by decide +kernel
theorem dX4_stepIn_24 : decode cX4_stepIn 24 = .ok (.iload_n 2, 1) := by decide +kernel
theorem dX4_stepIn_25 : decode cX4_stepIn 25 = .ok (.iaload, 1) := by decide +kernel
theorem dX4_stepIn_26 : decode cX4_stepIn 26 = .ok (.idiv, 1) := by decide +kernel
theorem dX4_stepIn_27 : decode cX4_stepIn 27 = .ok (.aload_n 0, 1) := by decide +kernel
theorem dX4_stepIn_28 : decode cX4_stepIn 28 = .ok (.getfield 9, 3) := by decide +kernel
theorem dX4_stepIn_31 : decode cX4_stepIn 31 = .ok (.getfield 92, 3) := by decide +kernel
theorem dX4_stepIn_34 : decode cX4_stepIn 34 = .ok (.irem, 1) := by decide +kernel
theorem dX4_stepIn_35 : decode cX4_stepIn 35 = .ok (.goto 4, 3) := by decide +kernel
theorem dX4_stepIn_38 : decode cX4_stepIn 38 = .ok (.iconst 0, 1) := by decide +kernel
theorem dX4_stepIn_39 : decode cX4_stepIn 39 = .ok (.ireturn, 1) := by decide +kernel
theorem dX4_codeOf_0 : decode cX4_codeOf 0 = .ok (.iload_n 1, 1) := by decide +kernel
theorem dX4_codeOf_1 : decode cX4_codeOf 1 = .ok (.iconst (-1), 1) := by decide +kernel
theorem dX4_codeOf_2 : decode cX4_codeOf 2 = .ok (.if_icmp .ne 5, 3) := by decide +kernel
theorem dX4_codeOf_5 : decode cX4_codeOf 5 = .ok (.iconst (-1), 1) := by decide +kernel
theorem dX4_codeOf_6 : decode cX4_codeOf 6 = .ok (.ireturn, 1) := by decide +kernel
theorem dX4_codeOf_7 : decode cX4_codeOf 7 = .ok (.iconst 0, 1) := by decide +kernel
theorem dX4_codeOf_8 : decode cX4_codeOf 8 = .ok (.istore_n 2, 1) := by decide +kernel
theorem dX4_codeOf_9 : decode cX4_codeOf 9 = .ok (.iconst 0, 1) := by decide +kernel
theorem dX4_codeOf_10 : decode cX4_codeOf 10 = .ok (.istore_n 3, 1) := by decide +kernel
theorem dX4_codeOf_11 : decode cX4_codeOf 11 = .ok (.iload_n 3, 1) := by decide +kernel
theorem dX4_codeOf_12 : decode cX4_codeOf 12 = .ok (.aload_n 0, 1) := by decide +kernel
theorem dX4_codeOf_13 : decode cX4_codeOf 13 = .ok (.getfield 9, 3) := by decide +kernel
theorem dX4_codeOf_16 : decode cX4_codeOf 16 = .ok (.getfield 106, 3) := by decide +kernel
theorem dX4_codeOf_19 : decode cX4_codeOf 19 = .ok (.if_icmp .ge 22, 3) := by decide +kernel
theorem dX4_codeOf_22 : decode cX4_codeOf 22 = .ok (.iload_n 2, 1) := by decide +kernel
theorem dX4_codeOf_23 : decode cX4_codeOf 23 = .ok (.aload_n 0, 1) := by decide +kernel
theorem dX4_codeOf_24 : decode cX4_codeOf 24 = .ok (.iload_n 1, 1) := by decide +kernel
theorem dX4_codeOf_25 : decode cX4_codeOf 25 = .ok (.iload_n 3, 1) := by decide +kernel
theorem dX4_codeOf_26 : decode cX4_codeOf 26 = .ok (.invokevirtual 109, 3) := by decide +kernel
theorem dX4_codeOf_29 : decode cX4_codeOf 29 = .ok (.iconst 3, 1) := by decide +kernel
theorem dX4_codeOf_30 : decode cX4_codeOf 30 = .ok (.iload_n 3, 1) := by decide +kernel
theorem dX4_codeOf_31 : decode cX4_codeOf 31 = .ok (.imul, 1) := by decide +kernel
theorem dX4_codeOf_32 : decode cX4_codeOf 32 = .ok (.ishl, 1) := by decide +kernel
theorem dX4_codeOf_33 : decode cX4_codeOf 33 = .ok (.iadd, 1) := by decide +kernel
theorem dX4_codeOf_34 : decode cX4_codeOf 34 = .ok (.istore_n 2, 1) := by decide +kernel
theorem dX4_codeOf_35 : decode cX4_codeOf 35 = .ok (.iinc 3 1, 3) := by decide +kernel
theorem dX4_codeOf_38 : decode cX4_codeOf 38 = .ok (.goto (-27), 3) := by decide +kernel
theorem dX4_codeOf_41 : decode cX4_codeOf 41 = .ok (.iload_n 2, 1) := by decide +kernel
theorem dX4_codeOf_42 : decode cX4_codeOf 42 = .ok (.ireturn, 1) := by decide +kernel
theorem dX5_init_0 : decode cX5_init 0 = .ok (.aload_n 0, 1) := by decide +kernel
theorem dX5_init_1 : decode cX5_init 1 = .ok (.invokespecial 3, 3) := by decide +kernel
theorem dX5_init_4 : decode cX5_init 4 = .ok (.aload_n 0, 1) := by decide +kernel
theorem dX5_init_5 : decode cX5_init 5 = .ok (.iconst 4, 1) := by decide +kernel
theorem dX5_init_6 : decode cX5_init 6 = .ok (.newarray .int, 2) := by decide +kernel
theorem dX5_init_8 : decode cX5_init 8 = .ok (.putfield 9, 3) := by decide +kernel
theorem dX5_init_11 : decode cX5_init 11 = .ok (.aload_n 0, 1) := by decide +kernel
theorem dX5_init_12 : decode cX5_init 12 = .ok (.bipush 32, 2) := by decide +kernel
theorem dX5_init_14 : decode cX5_init 14 = .ok (.newarray .int, 2) := by decide +kernel
theorem dX5_init_16 : decode cX5_init 16 = .ok (.putfield 15, 3) := by decide +kernel
theorem dX5_init_19 : decode cX5_init 19 = .ok (.aload_n 0, 1) := by decide +kernel
theorem dX5_init_20 : decode cX5_init 20 = .ok (.iconst 4, 1) := by decide +kernel
theorem dX5_init_21 : decode cX5_init 21 = .ok (.newarray .int, 2) := by decide +kernel
theorem dX5_init_23 : decode cX5_init 23 = .ok (.putfield 18, 3) := by decide +kernel
theorem dX5_init_26 : decode cX5_init 26 = .ok (.aload_n 0, 1) := by decide +kernel
theorem dX5_init_27 : decode cX5_init 27 = .ok (.iconst 0, 1) := by decide +kernel
theorem dX5_init_28 : decode cX5_init 28 = .ok (.putfield 21, 3) := by decide +kernel
theorem dX5_init_31 : decode cX5_init 31 = .ok (.aload_n 0, 1) := by decide +kernel
theorem dX5_init_32 : decode cX5_init 32 = .ok (.iconst (-1), 1) := by decide +kernel
theorem dX5_init_33 : decode cX5_init 33 = .ok (.putfield 25, 3) := by decide +kernel
theorem dX5_init_36 : decode cX5_init 36 = .ok (.return_, 1) := by decide +kernel
theorem dX5_begin_0 : decode cX5_begin 0 = .ok (.aload_n 0, 1) := by decide +kernel
theorem dX5_begin_1 : decode cX5_begin 1 = .ok (.getfield 9, 3) := by decide +kernel
theorem dX5_begin_4 : decode cX5_begin 4 = .ok (.iconst 0, 1) := by decide +kernel
theorem dX5_begin_5 : decode cX5_begin 5 = .ok (.invokestatic 28, 3) := by decide +kernel
theorem dX5_begin_8 : decode cX5_begin 8 = .ok (.aload_n 0, 1) := by decide +kernel
theorem dX5_begin_9 : decode cX5_begin 9 = .ok (.getfield 15, 3) := by decide +kernel
theorem dX5_begin_12 : decode cX5_begin 12 = .ok (.iconst 0, 1) := by decide +kernel
theorem dX5_begin_13 : decode cX5_begin 13 = .ok (.invokestatic 28, 3) := by decide +kernel
theorem dX5_begin_16 : decode cX5_begin 16 = .ok (.aload_n 1, 1) := by decide +kernel
theorem dX5_begin_17 : decode cX5_begin 17 = .ok (.getfield 34, 3) := by decide +kernel
theorem dX5_begin_20 : decode cX5_begin 20 = .ok (.iconst 0, 1) := by decide +kernel
theorem dX5_begin_21 : decode cX5_begin 21 = .ok (.aload_n 0, 1) := by decide +kernel
theorem dX5_begin_22 : decode cX5_begin 22 = .ok (.getfield 18, 3) := by decide +kernel
theorem dX5_begin_25 : decode cX5_begin 25 = .ok (.iconst 0, 1) := by decide +kernel
theorem dX5_begin_26 : decode cX5_begin 26 = .ok (.iconst 4, 1) := by decide +kernel
theorem dX5_begin_27 : decode cX5_begin 27 = .ok (.invokestatic 37, 3) := by decide +kernel
theorem dX5_begin_30 : decode cX5_begin 30 = .ok (.aload_n 0, 1) := by decide +kernel
theorem dX5_begin_31 : decode cX5_begin 31 = .ok (.iconst 0, 1) := by decide +kernel
theorem dX5_begin_32 : decode cX5_begin 32 = .ok (.putfield 21, 3) := by decide +kernel
theorem dX5_begin_35 : decode cX5_begin 35 = .ok (.aload_n 0, 1) := by decide +kernel
theorem dX5_begin_36 : decode cX5_begin 36 = .ok (.iconst (-1), 1) := by decide +kernel
theorem dX5_begin_37 : decode cX5_begin 37 = .ok (.putfield 25, 3) := by decide +kernel
theorem dX5_begin_40 : decode cX5_begin 40 = .ok (.return_, 1) := by decide +kernel
theorem dX5_copyFrom_0 : decode cX5_copyFrom 0 = .ok (.aload_n 1, 1) := by decide +kernel
theorem dX5_copyFrom_1 : decode cX5_copyFrom 1 = .ok (.getfield 9, 3) := by decide +kernel
theorem dX5_copyFrom_4 : decode cX5_copyFrom 4 = .ok (.iconst 0, 1) := by decide +kernel
theorem dX5_copyFrom_5 : decode cX5_copyFrom 5 = .ok (.aload_n 0, 1) := by decide +kernel
theorem dX5_copyFrom_6 : decode cX5_copyFrom 6 = .ok (.getfield 9, 3) := by decide +kernel
theorem dX5_copyFrom_9 : decode cX5_copyFrom 9 = .ok (.iconst 0, 1) := by decide +kernel
theorem dX5_copyFrom_10 : decode cX5_copyFrom 10 = .ok (.aload_n 0, 1) := by decide +kernel
theorem dX5_copyFrom_11 : decode cX5_copyFrom 11 = .ok (.getfield 9, 3) := by decide +kernel
theorem dX5_copyFrom_14 : decode cX5_copyFrom 14 = .ok (.arraylength, 1) := by decide +kernel
theorem dX5_copyFrom_15 : decode cX5_copyFrom 15 = .ok (.invokestatic 37, 3) := by decide +kernel
theorem dX5_copyFrom_18 : decode cX5_copyFrom 18 = .ok (.aload_n 1, 1) := by decide +kernel
theorem dX5_copyFrom_19 : decode cX5_copyFrom 19 = .ok (.getfield 15, 3) := by decide +kernel
theorem dX5_copyFrom_22 : decode cX5_copyFrom 22 = .ok (.iconst 0, 1) := by decide +kernel
theorem dX5_copyFrom_23 : decode cX5_copyFrom 23 = .ok (.aload_n 0, 1) := by decide +kernel
theorem dX5_copyFrom_24 : decode cX5_copyFrom 24 = .ok (.getfield 15, 3) := by decide +kernel
theorem dX5_copyFrom_27 : decode cX5_copyFrom 27 = .ok (.iconst 0, 1) := by decide +kernel
theorem dX5_copyFrom_28 : decode cX5_copyFrom 28 = .ok (.aload_n 0, 1) := by decide +kernel
theorem dX5_copyFrom_29 : decode cX5_copyFrom 29 = .ok (.getfield 15, 3) := by decide +kernel
theorem dX5_copyFrom_32 : decode cX5_copyFrom 32 = .ok (.arraylength, 1) := by decide +kernel
theorem dX5_copyFrom_33 : decode cX5_copyFrom 33 = .ok (.invokestatic 37, 3) := by decide +kernel
theorem dX5_copyFrom_36 : decode cX5_copyFrom 36 = .ok (.aload_n 1, 1) := by decide +kernel
theorem dX5_copyFrom_37 : decode cX5_copyFrom 37 = .ok (.getfield 18, 3) := by decide +kernel
theorem dX5_copyFrom_40 : decode cX5_copyFrom 40 = .ok (.iconst 0, 1) := by decide +kernel
theorem dX5_copyFrom_41 : decode cX5_copyFrom 41 = .ok (.aload_n 0, 1) := by decide +kernel
theorem dX5_copyFrom_42 : decode cX5_copyFrom 42 = .ok (.getfield 18, 3) := by decide +kernel
theorem dX5_copyFrom_45 : decode cX5_copyFrom 45 = .ok (.iconst 0, 1) := by decide +kernel
theorem dX5_copyFrom_46 : decode cX5_copyFrom 46 = .ok (.aload_n 0, 1) := by decide +kernel
theorem dX5_copyFrom_47 : decode cX5_copyFrom 47 = .ok (.getfield 18, 3) := by decide +kernel
theorem dX5_copyFrom_50 : decode cX5_copyFrom 50 = .ok (.arraylength, 1) := by decide +kernel
theorem dX5_copyFrom_51 : decode cX5_copyFrom 51 = .ok (.invokestatic 37, 3) := by decide +kernel
theorem dX5_copyFrom_54 : decode cX5_copyFrom 54 = .ok (.aload_n 0, 1) := by decide +kernel
theorem dX5_copyFrom_55 : decode cX5_copyFrom 55 = .ok (.aload_n 1, 1) := by decide +kernel
theorem dX5_copyFrom_56 : decode cX5_copyFrom 56 = .ok (.getfield 21, 3) := by decide +kernel
theorem dX5_copyFrom_59 : decode cX5_copyFrom 59 = .ok (.putfield 21, 3) := by decide +kernel
theorem dX5_copyFrom_62 : decode cX5_copyFrom 62 = .ok (.aload_n 0, 1) := by decide +kernel
theorem dX5_copyFrom_63 : decode cX5_copyFrom 63 = .ok (.aload_n 1, 1) := by decide +kernel
theorem dX5_copyFrom_64 : decode cX5_copyFrom 64 = .ok (.getfield 25, 3) := by decide +kernel
theorem dX5_copyFrom_67 : decode cX5_copyFrom 67 = .ok (.putfield 25, 3) := by decide +kernel
theorem dX5_copyFrom_70 : decode cX5_copyFrom 70 = .ok (.return_, 1) := by decide +kernel
theorem dX5_tellAnew_0 : decode cX5_tellAnew 0 = .ok (.aload_n 0, 1) := by decide +kernel
theorem dX5_tellAnew_1 : decode cX5_tellAnew 1 = .ok (.getfield 9, 3) := by decide +kernel
theorem dX5_tellAnew_4 : decode cX5_tellAnew 4 = .ok (.iload_n 1, 1) := by decide +kernel
theorem dX5_tellAnew_5 : decode cX5_tellAnew 5 = .ok (.iload_n 2, 1) := by decide +kernel
theorem dX5_tellAnew_6 : decode cX5_tellAnew 6 = .ok (.iastore, 1) := by decide +kernel
theorem dX5_tellAnew_7 : decode cX5_tellAnew 7 = .ok (.iconst 0, 1) := by decide +kernel
theorem dX5_tellAnew_8 : decode cX5_tellAnew 8 = .ok (.istore_n 3, 1) := by decide +kernel
theorem dX5_tellAnew_9 : decode cX5_tellAnew 9 = .ok (.iload_n 3, 1) := by decide +kernel
theorem dX5_tellAnew_10 : decode cX5_tellAnew 10 = .ok (.bipush 8, 2) := by decide +kernel
theorem dX5_tellAnew_12 : decode cX5_tellAnew 12 = .ok (.if_icmp .ge 21, 3) := by decide +kernel
theorem dX5_tellAnew_15 : decode cX5_tellAnew 15 = .ok (.aload_n 0, 1) := by decide +kernel
theorem dX5_tellAnew_16 : decode cX5_tellAnew 16 = .ok (.getfield 15, 3) := by decide +kernel
theorem dX5_tellAnew_19 : decode cX5_tellAnew 19 = .ok (.iload_n 1, 1) := by decide +kernel
theorem dX5_tellAnew_20 : decode cX5_tellAnew 20 = .ok (.bipush 8, 2) := by decide +kernel
theorem dX5_tellAnew_22 : decode cX5_tellAnew 22 = .ok (.imul, 1) := by decide +kernel
theorem dX5_tellAnew_23 : decode cX5_tellAnew 23 = .ok (.iload_n 3, 1) := by decide +kernel
theorem dX5_tellAnew_24 : decode cX5_tellAnew 24 = .ok (.iadd, 1) := by decide +kernel
theorem dX5_tellAnew_25 : decode cX5_tellAnew 25 = .ok (.iconst 0, 1) := by decide +kernel
theorem dX5_tellAnew_26 : decode cX5_tellAnew 26 = .ok (.iastore, 1) := by decide +kernel
theorem dX5_tellAnew_27 : decode cX5_tellAnew 27 = .ok (.iinc 3 1, 3) := by decide +kernel
theorem dX5_tellAnew_30 : decode cX5_tellAnew 30 = .ok (.goto (-21), 3) := by decide +kernel
theorem dX5_tellAnew_33 : decode cX5_tellAnew 33 = .ok (.return_, 1) := by decide +kernel
theorem dX5_promises_0 : decode cX5_promises 0 = .ok (.aload_n 0, 1) := by decide +kernel
theorem dX5_promises_1 : decode cX5_promises 1 = .ok (.getfield 21, 3) := by decide +kernel
theorem dX5_promises_4 : decode cX5_promises 4 = .ok (.iload_n 1, 1) := by decide +kernel
theorem dX5_promises_5 : decode cX5_promises 5 = .ok (.ishr, 1) := by decide +kernel
theorem dX5_promises_6 : decode cX5_promises 6 = .ok (.iconst 1, 1) := by decide +kernel
theorem dX5_promises_7 : decode cX5_promises 7 = .ok (.iand, 1) := by decide +kernel
theorem dX5_promises_8 : decode cX5_promises 8 = .ok (.ifCond .eq 7, 3) := by decide +kernel
theorem dX5_promises_11 : decode cX5_promises 11 = .ok (.iconst 1, 1) := by decide +kernel
theorem dX5_promises_12 : decode cX5_promises 12 = .ok (.goto 4, 3) := by decide +kernel
theorem dX5_promises_15 : decode cX5_promises 15 = .ok (.iconst 0, 1) := by decide +kernel
theorem dX5_promises_16 : decode cX5_promises 16 = .ok (.ireturn, 1) := by decide +kernel
theorem dX6_init_0 : decode cX6_init 0 = .ok (.aload_n 0, 1) := by decide +kernel
theorem dX6_init_1 : decode cX6_init 1 = .ok (.invokespecial 3, 3) := by decide +kernel
theorem dX6_init_4 : decode cX6_init 4 = .ok (.aload_n 0, 1) := by decide +kernel
theorem dX6_init_5 : decode cX6_init 5 = .ok (.iconst 4, 1) := by decide +kernel
theorem dX6_init_6 : decode cX6_init 6 = .ok (.newarray .long, 2) := by decide +kernel
theorem dX6_init_8 : decode cX6_init 8 = .ok (.putfield 9, 3) := by decide +kernel
theorem dX6_init_11 : decode cX6_init 11 = .ok (.aload_n 0, 1) := by decide +kernel
theorem dX6_init_12 : decode cX6_init 12 = .ok (.iconst 4, 1) := by decide +kernel
theorem dX6_init_13 : decode cX6_init 13 = .ok (.newarray .int, 2) := by decide +kernel
theorem dX6_init_15 : decode cX6_init 15 = .ok (.putfield 15, 3) := by decide +kernel
theorem dX6_init_18 : decode cX6_init 18 = .ok (.aload_n 0, 1) := by decide +kernel
theorem dX6_init_19 : decode cX6_init 19 = .ok (.bipush 12, 2) := by decide +kernel
theorem dX6_init_21 : decode cX6_init 21 = .ok (.newarray .int, 2) := by decide +kernel
theorem dX6_init_23 : decode cX6_init 23 = .ok (.putfield 19, 3) := by decide +kernel
theorem dX6_init_26 : decode cX6_init 26 = .ok (.aload_n 0, 1) := by decide +kernel
theorem dX6_init_27 : decode cX6_init 27 = .ok (.bipush 12, 2) := by decide +kernel
theorem dX6_init_29 : decode cX6_init 29 = .ok (.newarray .int, 2) := by decide +kernel
theorem dX6_init_31 : decode cX6_init 31 = .ok (.putfield 22, 3) := by decide +kernel
theorem dX6_init_34 : decode cX6_init 34 = .ok (.aload_n 0, 1) := by decide +kernel
theorem dX6_init_35 : decode cX6_init 35 = .ok (.bipush 12, 2) := by decide +kernel
theorem dX6_init_37 : decode cX6_init 37 = .ok (.newarray .int, 2) := by decide +kernel
theorem dX6_init_39 : decode cX6_init 39 = .ok (.putfield 25, 3) := by decide +kernel
theorem dX6_init_42 : decode cX6_init 42 = .ok (.aload_n 0, 1) := by decide +kernel
theorem dX6_init_43 : decode cX6_init 43 = .ok (.bipush 12, 2) := by decide +kernel
theorem dX6_init_45 : decode cX6_init 45 = .ok (.newarray .int, 2) := by decide +kernel
theorem dX6_init_47 : decode cX6_init 47 = .ok (.putfield 28, 3) := by decide +kernel
theorem dX6_init_50 : decode cX6_init 50 = .ok (.aload_n 0, 1) := by decide +kernel
theorem dX6_init_51 : decode cX6_init 51 = .ok (.bipush 12, 2) := by decide +kernel
theorem dX6_init_53 : decode cX6_init 53 = .ok (.newarray .int, 2) := by decide +kernel
theorem dX6_init_55 : decode cX6_init 55 = .ok (.putfield 31, 3) := by decide +kernel
theorem dX6_init_58 : decode cX6_init 58 = .ok (.aload_n 0, 1) := by decide +kernel
theorem dX6_init_59 : decode cX6_init 59 = .ok (.invokevirtual 34, 3) := by decide +kernel
theorem dX6_init_62 : decode cX6_init 62 = .ok (.return_, 1) := by decide +kernel
theorem dX6_empty_0 : decode cX6_empty 0 = .ok (.aload_n 0, 1) := by decide +kernel
theorem dX6_empty_1 : decode cX6_empty 1 = .ok (.iconst 0, 1) := by decide +kernel
theorem dX6_empty_2 : decode cX6_empty 2 = .ok (.putfield 37, 3) := by decide +kernel
theorem dX6_empty_5 : decode cX6_empty 5 = .ok (.aload_n 0, 1) := by decide +kernel
theorem dX6_empty_6 : decode cX6_empty 6 = .ok (.iconst 0, 1) := by decide +kernel
theorem dX6_empty_7 : decode cX6_empty 7 = .ok (.putfield 41, 3) := by decide +kernel
theorem dX6_empty_10 : decode cX6_empty 10 = .ok (.aload_n 0, 1) := by decide +kernel
theorem dX6_empty_11 : decode cX6_empty 11 = .ok (.iconst 4, 1) := by decide +kernel
theorem dX6_empty_12 : decode cX6_empty 12 = .ok (.putfield 44, 3) := by decide +kernel
theorem dX6_empty_15 : decode cX6_empty 15 = .ok (.aload_n 0, 1) := by decide +kernel
theorem dX6_empty_16 : decode cX6_empty 16 = .ok (.iconst 5, 1) := by decide +kernel
theorem dX6_empty_17 : decode cX6_empty 17 = .ok (.putfield 47, 3) := by decide +kernel
theorem dX6_empty_20 : decode cX6_empty 20 = .ok (.aload_n 0, 1) := by decide +kernel
theorem dX6_empty_21 : decode cX6_empty 21 = .ok (.iconst 5, 1) := by decide +kernel
theorem dX6_empty_22 : decode cX6_empty 22 = .ok (.putfield 50, 3) := by decide +kernel
theorem dX6_empty_25 : decode cX6_empty 25 = .ok (.aload_n 0, 1) := by decide +kernel
theorem dX6_empty_26 : decode cX6_empty 26 = .ok (.iconst 0, 1) := by decide +kernel
theorem dX6_empty_27 : decode cX6_empty 27 = .ok (.putfield 53, 3) := by decide +kernel
theorem dX6_empty_30 : decode cX6_empty 30 = .ok (.aload_n 0, 1) := by decide +kernel
theorem dX6_empty_31 : decode cX6_empty 31 = .ok (.iconst 0, 1) := by decide +kernel
theorem dX6_empty_32 : decode cX6_empty 32 = .ok (.putfield 56, 3) := by decide +kernel
theorem dX6_empty_35 : decode cX6_empty 35 = .ok (.aload_n 0, 1) := by decide +kernel
theorem dX6_empty_36 : decode cX6_empty 36 = .ok (.iconst 0, 1) := by decide +kernel
theorem dX6_empty_37 : decode cX6_empty 37 = .ok (.putfield 59, 3) := by decide +kernel
theorem dX6_empty_40 : decode cX6_empty 40 = .ok (.return_, 1) := by decide +kernel
theorem dX6_copyFrom_0 : decode cX6_copyFrom 0 = .ok (.aload_n 0, 1) := by decide +kernel
theorem dX6_copyFrom_1 : decode cX6_copyFrom 1 = .ok (.aload_n 1, 1) := by decide +kernel
theorem dX6_copyFrom_2 : decode cX6_copyFrom 2 = .ok (.getfield 37, 3) := by decide +kernel
theorem dX6_copyFrom_5 : decode cX6_copyFrom 5 = .ok (.putfield 37, 3) := by decide +kernel
theorem dX6_copyFrom_8 : decode cX6_copyFrom 8 = .ok (.aload_n 0, 1) := by decide +kernel
theorem dX6_copyFrom_9 : decode cX6_copyFrom 9 = .ok (.aload_n 1, 1) := by decide +kernel
theorem dX6_copyFrom_10 : decode cX6_copyFrom 10 = .ok (.getfield 41, 3) := by decide +kernel
theorem dX6_copyFrom_13 : decode cX6_copyFrom 13 = .ok (.putfield 41, 3) := by decide +kernel
theorem dX6_copyFrom_16 : decode cX6_copyFrom 16 = .ok (.aload_n 0, 1) := by decide +kernel
theorem dX6_copyFrom_17 : decode cX6_copyFrom 17 = .ok (.aload_n 1, 1) := by decide +kernel
theorem dX6_copyFrom_18 : decode cX6_copyFrom 18 = .ok (.getfield 44, 3) := by decide +kernel
theorem dX6_copyFrom_21 : decode cX6_copyFrom 21 = .ok (.putfield 44, 3) := by decide +kernel
theorem dX6_copyFrom_24 : decode cX6_copyFrom 24 = .ok (.aload_n 0, 1) := by decide +kernel
theorem dX6_copyFrom_25 : decode cX6_copyFrom 25 = .ok (.aload_n 1, 1) := by decide +kernel
theorem dX6_copyFrom_26 : decode cX6_copyFrom 26 = .ok (.getfield 47, 3) := by decide +kernel
theorem dX6_copyFrom_29 : decode cX6_copyFrom 29 = .ok (.putfield 47, 3) := by decide +kernel
theorem dX6_copyFrom_32 : decode cX6_copyFrom 32 = .ok (.aload_n 0, 1) := by decide +kernel
theorem dX6_copyFrom_33 : decode cX6_copyFrom 33 = .ok (.aload_n 1, 1) := by decide +kernel
theorem dX6_copyFrom_34 : decode cX6_copyFrom 34 = .ok (.getfield 50, 3) := by decide +kernel
theorem dX6_copyFrom_37 : decode cX6_copyFrom 37 = .ok (.putfield 50, 3) := by decide +kernel
theorem dX6_copyFrom_40 : decode cX6_copyFrom 40 = .ok (.aload_n 0, 1) := by decide +kernel
theorem dX6_copyFrom_41 : decode cX6_copyFrom 41 = .ok (.aload_n 1, 1) := by decide +kernel
theorem dX6_copyFrom_42 : decode cX6_copyFrom 42 = .ok (.getfield 53, 3) := by decide +kernel
theorem dX6_copyFrom_45 : decode cX6_copyFrom 45 = .ok (.putfield 53, 3) := by decide +kernel
theorem dX6_copyFrom_48 : decode cX6_copyFrom 48 = .ok (.aload_n 0, 1) := by decide +kernel
theorem dX6_copyFrom_49 : decode cX6_copyFrom 49 = .ok (.aload_n 1, 1) := by decide +kernel
theorem dX6_copyFrom_50 : decode cX6_copyFrom 50 = .ok (.getfield 56, 3) := by decide +kernel
theorem dX6_copyFrom_53 : decode cX6_copyFrom 53 = .ok (.putfield 56, 3) := by decide +kernel
theorem dX6_copyFrom_56 : decode cX6_copyFrom 56 = .ok (.aload_n 0, 1) := by decide +kernel
theorem dX6_copyFrom_57 : decode cX6_copyFrom 57 = .ok (.aload_n 1, 1) := by decide +kernel
theorem dX6_copyFrom_58 : decode cX6_copyFrom 58 = .ok (.getfield 59, 3) := by decide +kernel
theorem dX6_copyFrom_61 : decode cX6_copyFrom 61 = .ok (.putfield 59, 3) := by decide +kernel
theorem dX6_copyFrom_64 : decode cX6_copyFrom 64 = .ok (.aload_n 1, 1) := by decide +kernel
theorem dX6_copyFrom_65 : decode cX6_copyFrom 65 = .ok (.getfield 15, 3) := by decide +kernel
theorem dX6_copyFrom_68 : decode cX6_copyFrom 68 = .ok (.iconst 0, 1) := by decide +kernel
theorem dX6_copyFrom_69 : decode cX6_copyFrom 69 = .ok (.aload_n 0, 1) := by decide +kernel
theorem dX6_copyFrom_70 : decode cX6_copyFrom 70 = .ok (.getfield 15, 3) := by decide +kernel
theorem dX6_copyFrom_73 : decode cX6_copyFrom 73 = .ok (.iconst 0, 1) := by decide +kernel
theorem dX6_copyFrom_74 : decode cX6_copyFrom 74 = .ok (.iconst 4, 1) := by decide +kernel
theorem dX6_copyFrom_75 : decode cX6_copyFrom 75 = .ok (.invokestatic 62, 3) := by decide +kernel
theorem dX6_copyFrom_78 : decode cX6_copyFrom 78 = .ok (.aload_n 1, 1) := by decide +kernel
theorem dX6_copyFrom_79 : decode cX6_copyFrom 79 = .ok (.getfield 19, 3) := by decide +kernel
theorem dX6_copyFrom_82 : decode cX6_copyFrom 82 = .ok (.iconst 0, 1) := by decide +kernel
theorem dX6_copyFrom_83 : decode cX6_copyFrom 83 = .ok (.aload_n 0, 1) := by decide +kernel
theorem dX6_copyFrom_84 : decode cX6_copyFrom 84 = .ok (.getfield 19, 3) := by decide +kernel
theorem dX6_copyFrom_87 : decode cX6_copyFrom 87 = .ok (.iconst 0, 1) := by decide +kernel
theorem dX6_copyFrom_88 : decode cX6_copyFrom 88 = .ok (.bipush 12, 2) := by decide +kernel
theorem dX6_copyFrom_90 : decode cX6_copyFrom 90 = .ok (.invokestatic 62, 3) := by decide +kernel
theorem dX6_copyFrom_93 : decode cX6_copyFrom 93 = .ok (.aload_n 1, 1) := by decide +kernel
theorem dX6_copyFrom_94 : decode cX6_copyFrom 94 = .ok (.getfield 22, 3) := by decide +kernel
theorem dX6_copyFrom_97 : decode cX6_copyFrom 97 = .ok (.iconst 0, 1) := by decide +kernel
theorem dX6_copyFrom_98 : decode cX6_copyFrom 98 = .ok (.aload_n 0, 1) := by decide +kernel
theorem dX6_copyFrom_99 : decode cX6_copyFrom 99 = .ok (.getfield 22, 3) := by decide +kernel
theorem dX6_copyFrom_102 : decode cX6_copyFrom 102 = .ok (.iconst 0, 1) := by decide +kernel
theorem dX6_copyFrom_103 : decode cX6_copyFrom 103 = .ok (.bipush 12, 2) := by decide +kernel
theorem dX6_copyFrom_105 : decode cX6_copyFrom 105 = .ok (.invokestatic 62, 3) := by decide +kernel
theorem dX6_copyFrom_108 : decode cX6_copyFrom 108 = .ok (.aload_n 1, 1) := by decide +kernel
theorem dX6_copyFrom_109 : decode cX6_copyFrom 109 = .ok (.getfield 25, 3) := by decide +kernel
theorem dX6_copyFrom_112 : decode cX6_copyFrom 112 = .ok (.iconst 0, 1) := by decide +kernel
theorem dX6_copyFrom_113 : decode cX6_copyFrom 113 = .ok (.aload_n 0, 1) := by decide +kernel
theorem dX6_copyFrom_114 : decode cX6_copyFrom 114 = .ok (.getfield 25, 3) := by decide +kernel
theorem dX6_copyFrom_117 : decode cX6_copyFrom 117 = .ok (.iconst 0, 1) := by decide +kernel
theorem dX6_copyFrom_118 : decode cX6_copyFrom 118 = .ok (.bipush 12, 2) := by decide +kernel
theorem dX6_copyFrom_120 : decode cX6_copyFrom 120 = .ok (.invokestatic 62, 3) := by decide +kernel
theorem dX6_copyFrom_123 : decode cX6_copyFrom 123 = .ok (.aload_n 1, 1) := by decide +kernel
theorem dX6_copyFrom_124 : decode cX6_copyFrom 124 = .ok (.getfield 28, 3) := by decide +kernel
theorem dX6_copyFrom_127 : decode cX6_copyFrom 127 = .ok (.iconst 0, 1) := by decide +kernel
theorem dX6_copyFrom_128 : decode cX6_copyFrom 128 = .ok (.aload_n 0, 1) := by decide +kernel
theorem dX6_copyFrom_129 : decode cX6_copyFrom 129 = .ok (.getfield 28, 3) := by decide +kernel
theorem dX6_copyFrom_132 : decode cX6_copyFrom 132 = .ok (.iconst 0, 1) := by decide +kernel
theorem dX6_copyFrom_133 : decode cX6_copyFrom 133 = .ok (.bipush 12, 2) := by decide +kernel
theorem dX6_copyFrom_135 : decode cX6_copyFrom 135 = .ok (.invokestatic 62, 3) := by decide +kernel
theorem dX6_copyFrom_138 : decode cX6_copyFrom 138 = .ok (.aload_n 0, 1) := by decide +kernel
theorem dX6_copyFrom_139 : decode cX6_copyFrom 139 = .ok (.invokevirtual 68, 3) := by decide +kernel
theorem dX6_copyFrom_142 : decode cX6_copyFrom 142 = .ok (.return_, 1) := by decide +kernel
theorem dX6_shutDoors_0 : decode cX6_shutDoors 0 = .ok (.aload_n 0, 1) := by decide +kernel
theorem dX6_shutDoors_1 : decode cX6_shutDoors 1 = .ok (.getfield 25, 3) := by decide +kernel
theorem dX6_shutDoors_4 : decode cX6_shutDoors 4 = .ok (.iconst 0, 1) := by decide +kernel
theorem dX6_shutDoors_5 : decode cX6_shutDoors 5 = .ok (.aload_n 0, 1) := by decide +kernel
theorem dX6_shutDoors_6 : decode cX6_shutDoors 6 = .ok (.getfield 31, 3) := by decide +kernel
theorem dX6_shutDoors_9 : decode cX6_shutDoors 9 = .ok (.iconst 0, 1) := by decide +kernel
theorem dX6_shutDoors_10 : decode cX6_shutDoors 10 = .ok (.bipush 12, 2) := by decide +kernel
theorem dX6_shutDoors_12 : decode cX6_shutDoors 12 = .ok (.invokestatic 62, 3) := by decide +kernel
theorem dX6_shutDoors_15 : decode cX6_shutDoors 15 = .ok (.return_, 1) := by decide +kernel
theorem dX6_addBaker_0 : decode cX6_addBaker 0 = .ok (.aload_n 0, 1) := by decide +kernel
theorem dX6_addBaker_1 : decode cX6_addBaker 1 = .ok (.getfield 37, 3) := by decide +kernel
theorem dX6_addBaker_4 : decode cX6_addBaker 4 = .ok (.iconst 4, 1) := by decide +kernel
theorem dX6_addBaker_5 : decode cX6_addBaker 5 = .ok (.if_icmp .ge 33, 3) := by decide +kernel
theorem dX6_addBaker_8 : decode cX6_addBaker 8 = .ok (.aload_n 0, 1) := by decide +kernel
theorem dX6_addBaker_9 : decode cX6_addBaker 9 = .ok (.getfield 9, 3) := by decide +kernel
theorem dX6_addBaker_12 : decode cX6_addBaker 12 = .ok (.aload_n 0, 1) := by decide +kernel
theorem dX6_addBaker_13 : decode cX6_addBaker 13 = .ok (.getfield 37, 3) := by decide +kernel
theorem dX6_addBaker_16 : decode cX6_addBaker 16 = .ok (.lload_n 1, 1) := by decide +kernel
theorem dX6_addBaker_17 : decode cX6_addBaker 17 = .ok (.lastore, 1) := by decide +kernel
theorem dX6_addBaker_18 : decode cX6_addBaker 18 = .ok (.aload_n 0, 1) := by decide +kernel
theorem dX6_addBaker_19 : decode cX6_addBaker 19 = .ok (.getfield 15, 3) := by decide +kernel
theorem dX6_addBaker_22 : decode cX6_addBaker 22 = .ok (.aload_n 0, 1) := by decide +kernel
theorem dX6_addBaker_23 : decode cX6_addBaker 23 = .ok (.getfield 37, 3) := by decide +kernel
theorem dX6_addBaker_26 : decode cX6_addBaker 26 = .ok (.iload_n 3, 1) := by decide +kernel
theorem dX6_addBaker_27 : decode cX6_addBaker 27 = .ok (.iastore, 1) := by decide +kernel
theorem dX6_addBaker_28 : decode cX6_addBaker 28 = .ok (.aload_n 0, 1) := by decide +kernel
theorem dX6_addBaker_29 : decode cX6_addBaker 29 = .ok (.dup, 1) := by decide +kernel
theorem dX6_addBaker_30 : decode cX6_addBaker 30 = .ok (.getfield 37, 3) := by decide +kernel
theorem dX6_addBaker_33 : decode cX6_addBaker 33 = .ok (.iconst 1, 1) := by decide +kernel
theorem dX6_addBaker_34 : decode cX6_addBaker 34 = .ok (.iadd, 1) := by decide +kernel
theorem dX6_addBaker_35 : decode cX6_addBaker 35 = .ok (.putfield 37, 3) := by decide +kernel
theorem dX6_addBaker_38 : decode cX6_addBaker 38 = .ok (.return_, 1) := by decide +kernel
theorem dX6_addSort_0 : decode cX6_addSort 0 = .ok (.aload_n 0, 1) := by decide +kernel
theorem dX6_addSort_1 : decode cX6_addSort 1 = .ok (.getfield 41, 3) := by decide +kernel
theorem dX6_addSort_4 : decode cX6_addSort 4 = .ok (.bipush 12, 2) := by decide +kernel
theorem dX6_addSort_6 : decode cX6_addSort 6 = .ok (.if_icmp .ge 54, 3) := by decide +kernel
theorem dX6_addSort_9 : decode cX6_addSort 9 = .ok (.aload_n 0, 1) := by decide +kernel
theorem dX6_addSort_10 : decode cX6_addSort 10 = .ok (.getfield 19, 3) := by decide +kernel
theorem dX6_addSort_13 : decode cX6_addSort 13 = .ok (.aload_n 0, 1) := by decide +kernel
theorem dX6_addSort_14 : decode cX6_addSort 14 = .ok (.getfield 41, 3) := by decide +kernel
theorem dX6_addSort_17 : decode cX6_addSort 17 = .ok (.iload_n 1, 1) := by decide +kernel
theorem dX6_addSort_18 : decode cX6_addSort 18 = .ok (.iastore, 1) := by decide +kernel
theorem dX6_addSort_19 : decode cX6_addSort 19 = .ok (.aload_n 0, 1) := by decide +kernel
theorem dX6_addSort_20 : decode cX6_addSort 20 = .ok (.getfield 22, 3) := by decide +kernel
theorem dX6_addSort_23 : decode cX6_addSort 23 = .ok (.aload_n 0, 1) := by decide +kernel
theorem dX6_addSort_24 : decode cX6_addSort 24 = .ok (.getfield 41, 3) := by decide +kernel
theorem dX6_addSort_27 : decode cX6_addSort 27 = .ok (.iload_n 2, 1) := by decide +kernel
theorem dX6_addSort_28 : decode cX6_addSort 28 = .ok (.iastore, 1) := by decide +kernel
theorem dX6_addSort_29 : decode cX6_addSort 29 = .ok (.aload_n 0, 1) := by decide +kernel
theorem dX6_addSort_30 : decode cX6_addSort 30 = .ok (.getfield 25, 3) := by decide +kernel
theorem dX6_addSort_33 : decode cX6_addSort 33 = .ok (.aload_n 0, 1) := by decide +kernel
theorem dX6_addSort_34 : decode cX6_addSort 34 = .ok (.getfield 41, 3) := by decide +kernel
theorem dX6_addSort_37 : decode cX6_addSort 37 = .ok (.iload_n 3, 1) := by decide +kernel
theorem dX6_addSort_38 : decode cX6_addSort 38 = .ok (.iastore, 1) := by decide +kernel
theorem dX6_addSort_39 : decode cX6_addSort 39 = .ok (.aload_n 0, 1) := by decide +kernel
theorem dX6_addSort_40 : decode cX6_addSort 40 = .ok (.getfield 28, 3) := by decide +kernel
theorem dX6_addSort_43 : decode cX6_addSort 43 = .ok (.aload_n 0, 1) := by decide +kernel
theorem dX6_addSort_44 : decode cX6_addSort 44 = .ok (.getfield 41, 3) := by decide +kernel
theorem dX6_addSort_47 : decode cX6_addSort 47 = .ok (.iload 4, 2) := by decide +kernel
theorem dX6_addSort_49 : decode cX6_addSort 49 = .ok (.iastore, 1) := by decide +kernel
theorem dX6_addSort_50 : decode cX6_addSort 50 = .ok (.aload_n 0, 1) := by decide +kernel
theorem dX6_addSort_51 : decode cX6_addSort 51 = .ok (.dup, 1) := by decide +kernel
theorem dX6_addSort_52 : decode cX6_addSort 52 = .ok (.getfield 41, 3) := by decide +kernel
theorem dX6_addSort_55 : decode cX6_addSort 55 = .ok (.iconst 1, 1) := by decide +kernel
theorem dX6_addSort_56 : decode cX6_addSort 56 = .ok (.iadd, 1) := by decide +kernel
theorem dX6_addSort_57 : decode cX6_addSort 57 = .ok (.putfield 41, 3) := by decide +kernel
theorem dX6_addSort_60 : decode cX6_addSort 60 = .ok (.return_, 1) := by decide +kernel
theorem dX6_hasBaker_0 : decode cX6_hasBaker 0 = .ok (.iload_n 1, 1) := by decide +kernel
theorem dX6_hasBaker_1 : decode cX6_hasBaker 1 = .ok (.ifCond .lt 15, 3) := by decide +kernel
theorem dX6_hasBaker_4 : decode cX6_hasBaker 4 = .ok (.iload_n 1, 1) := by decide +kernel
theorem dX6_hasBaker_5 : decode cX6_hasBaker 5 = .ok (.aload_n 0, 1) := by decide +kernel
theorem dX6_hasBaker_6 : decode cX6_hasBaker 6 = .ok (.getfield 37, 3) := by decide +kernel
theorem dX6_hasBaker_9 : decode cX6_hasBaker 9 = .ok (.if_icmp .ge 7, 3) := by decide +kernel
theorem dX6_hasBaker_12 : decode cX6_hasBaker 12 = .ok (.iconst 1, 1) := by decide +kernel
theorem dX6_hasBaker_13 : decode cX6_hasBaker 13 = .ok (.goto 4, 3) := by decide +kernel
theorem dX6_hasBaker_16 : decode cX6_hasBaker 16 = .ok (.iconst 0, 1) := by decide +kernel
theorem dX6_hasBaker_17 : decode cX6_hasBaker 17 = .ok (.ireturn, 1) := by decide +kernel
theorem dX6_hasStep_0 : decode cX6_hasStep 0 = .ok (.iload_n 1, 1) := by decide +kernel
theorem dX6_hasStep_1 : decode cX6_hasStep 1 = .ok (.ifCond .lt 15, 3) := by decide +kernel
theorem dX6_hasStep_4 : decode cX6_hasStep 4 = .ok (.iload_n 1, 1) := by decide +kernel
theorem dX6_hasStep_5 : decode cX6_hasStep 5 = .ok (.aload_n 0, 1) := by decide +kernel
theorem dX6_hasStep_6 : decode cX6_hasStep 6 = .ok (.getfield 44, 3) := by decide +kernel
theorem dX6_hasStep_9 : decode cX6_hasStep 9 = .ok (.if_icmp .ge 7, 3) := by decide +kernel
theorem dX6_hasStep_12 : decode cX6_hasStep 12 = .ok (.iconst 1, 1) := by decide +kernel
theorem dX6_hasStep_13 : decode cX6_hasStep 13 = .ok (.goto 4, 3) := by decide +kernel
theorem dX6_hasStep_16 : decode cX6_hasStep 16 = .ok (.iconst 0, 1) := by decide +kernel
theorem dX6_hasStep_17 : decode cX6_hasStep 17 = .ok (.ireturn, 1) := by decide +kernel
theorem dX6_hasSort_0 : decode cX6_hasSort 0 = .ok (.iload_n 1, 1) := by decide +kernel
theorem dX6_hasSort_1 : decode cX6_hasSort 1 = .ok (.ifCond .lt 15, 3) := by decide +kernel
theorem dX6_hasSort_4 : decode cX6_hasSort 4 = .ok (.iload_n 1, 1) := by decide +kernel
theorem dX6_hasSort_5 : decode cX6_hasSort 5 = .ok (.aload_n 0, 1) := by decide +kernel
theorem dX6_hasSort_6 : decode cX6_hasSort 6 = .ok (.getfield 41, 3) := by decide +kernel
theorem dX6_hasSort_9 : decode cX6_hasSort 9 = .ok (.if_icmp .ge 7, 3) := by decide +kernel
theorem dX6_hasSort_12 : decode cX6_hasSort 12 = .ok (.iconst 1, 1) := by decide +kernel
theorem dX6_hasSort_13 : decode cX6_hasSort 13 = .ok (.goto 4, 3) := by decide +kernel
theorem dX6_hasSort_16 : decode cX6_hasSort 16 = .ok (.iconst 0, 1) := by decide +kernel
theorem dX6_hasSort_17 : decode cX6_hasSort 17 = .ok (.ireturn, 1) := by decide +kernel
theorem dX6_isWomen_0 : decode cX6_isWomen 0 = .ok (.aload_n 0, 1) := by decide +kernel
theorem dX6_isWomen_1 : decode cX6_isWomen 1 = .ok (.iload_n 1, 1) := by decide +kernel
theorem dX6_isWomen_2 : decode cX6_isWomen 2 = .ok (.invokevirtual 71, 3) := by decide +kernel
theorem dX6_isWomen_5 : decode cX6_isWomen 5 = .ok (.ifCond .eq 16, 3) := by decide +kernel
theorem dX6_isWomen_8 : decode cX6_isWomen 8 = .ok (.aload_n 0, 1) := by decide +kernel
theorem dX6_isWomen_9 : decode cX6_isWomen 9 = .ok (.getfield 19, 3) := by decide +kernel
theorem dX6_isWomen_12 : decode cX6_isWomen 12 = .ok (.iload_n 1, 1) := by decide +kernel
theorem dX6_isWomen_13 : decode cX6_isWomen 13 = .ok (.iaload, 1) := by decide +kernel
theorem dX6_isWomen_14 : decode cX6_isWomen 14 = .ok (.ifCond .ne 7, 3) := by decide +kernel
theorem dX6_isWomen_17 : decode cX6_isWomen 17 = .ok (.iconst 1, 1) := by decide +kernel
theorem dX6_isWomen_18 : decode cX6_isWomen 18 = .ok (.goto 4, 3) := by decide +kernel
theorem dX6_isWomen_21 : decode cX6_isWomen 21 = .ok (.iconst 0, 1) := by decide +kernel
theorem dX6_isWomen_22 : decode cX6_isWomen 22 = .ok (.ireturn, 1) := by decide +kernel
theorem dX6_asks_0 : decode cX6_asks 0 = .ok (.aload_n 0, 1) := by decide +kernel
theorem dX6_asks_1 : decode cX6_asks 1 = .ok (.iload_n 1, 1) := by decide +kernel
theorem dX6_asks_2 : decode cX6_asks 2 = .ok (.invokevirtual 71, 3) := by decide +kernel
theorem dX6_asks_5 : decode cX6_asks 5 = .ok (.ifCond .eq 20, 3) := by decide +kernel
theorem dX6_asks_8 : decode cX6_asks 8 = .ok (.aload_n 0, 1) := by decide +kernel
theorem dX6_asks_9 : decode cX6_asks 9 = .ok (.getfield 31, 3) := by decide +kernel
theorem dX6_asks_12 : decode cX6_asks 12 = .ok (.iload_n 1, 1) := by decide +kernel
theorem dX6_asks_13 : decode cX6_asks 13 = .ok (.iaload, 1) := by decide +kernel
theorem dX6_asks_14 : decode cX6_asks 14 = .ok (.iload_n 2, 1) := by decide +kernel
theorem dX6_asks_15 : decode cX6_asks 15 = .ok (.ishr, 1) := by decide +kernel
theorem dX6_asks_16 : decode cX6_asks 16 = .ok (.iconst 1, 1) := by decide +kernel
theorem dX6_asks_17 : decode cX6_asks 17 = .ok (.iand, 1) := by decide +kernel
theorem dX6_asks_18 : decode cX6_asks 18 = .ok (.ifCond .eq 7, 3) := by decide +kernel
theorem dX6_asks_21 : decode cX6_asks 21 = .ok (.iconst 1, 1) := by decide +kernel
theorem dX6_asks_22 : decode cX6_asks 22 = .ok (.goto 4, 3) := by decide +kernel
theorem dX6_asks_25 : decode cX6_asks 25 = .ok (.iconst 0, 1) := by decide +kernel
theorem dX6_asks_26 : decode cX6_asks 26 = .ok (.ireturn, 1) := by decide +kernel
theorem dX6_everyone_0 : decode cX6_everyone 0 = .ok (.iconst 1, 1) := by decide +kernel
theorem dX6_everyone_1 : decode cX6_everyone 1 = .ok (.aload_n 0, 1) := by decide +kernel
theorem dX6_everyone_2 : decode cX6_everyone 2 = .ok (.getfield 37, 3) := by decide +kernel
theorem dX6_everyone_5 : decode cX6_everyone 5 = .ok (.ishl, 1) := by decide +kernel
theorem dX6_everyone_6 : decode cX6_everyone 6 = .ok (.iconst 1, 1) := by decide +kernel
theorem dX6_everyone_7 : decode cX6_everyone 7 = .ok (.isub, 1) := by decide +kernel
theorem dX6_everyone_8 : decode cX6_everyone 8 = .ok (.ireturn, 1) := by decide +kernel
theorem dX6_price_0 : decode cX6_price 0 = .ok (.aload_n 0, 1) := by decide +kernel
theorem dX6_price_1 : decode cX6_price 1 = .ok (.getfield 47, 3) := by decide +kernel
theorem dX6_price_4 : decode cX6_price 4 = .ok (.iload_n 1, 1) := by decide +kernel
theorem dX6_price_5 : decode cX6_price 5 = .ok (.aload_n 0, 1) := by decide +kernel
theorem dX6_price_6 : decode cX6_price 6 = .ok (.getfield 50, 3) := by decide +kernel
theorem dX6_price_9 : decode cX6_price 9 = .ok (.imul, 1) := by decide +kernel
theorem dX6_price_10 : decode cX6_price 10 = .ok (.iadd, 1) := by decide +kernel
theorem dX6_price_11 : decode cX6_price 11 = .ok (.ireturn, 1) := by decide +kernel
theorem dX6_toldOfSort_0 : decode cX6_toldOfSort 0 = .ok (.aload_n 0, 1) := by decide +kernel
theorem dX6_toldOfSort_1 : decode cX6_toldOfSort 1 = .ok (.iload_n 1, 1) := by decide +kernel
theorem dX6_toldOfSort_2 : decode cX6_toldOfSort 2 = .ok (.invokevirtual 71, 3) := by decide +kernel
theorem dX6_toldOfSort_5 : decode cX6_toldOfSort 5 = .ok (.ifCond .ne 5, 3) := by decide +kernel
theorem dX6_toldOfSort_8 : decode cX6_toldOfSort 8 = .ok (.iconst (-1), 1) := by decide +kernel
theorem dX6_toldOfSort_9 : decode cX6_toldOfSort 9 = .ok (.ireturn, 1) := by decide +kernel
theorem dX6_toldOfSort_10 : decode cX6_toldOfSort 10 = .ok (.iload_n 2, 1) := by decide +kernel
theorem dX6_toldOfSort_11 : decode cX6_toldOfSort 11 = .ok (.tableswitch 46 0 2 #[25, 32, 39], 25) := by decide +kernel
theorem dX6_toldOfSort_36 : decode cX6_toldOfSort 36 = .ok (.aload_n 0, 1) := by decide +kernel
theorem dX6_toldOfSort_37 : decode cX6_toldOfSort 37 = .ok (.getfield 19, 3) := by decide +kernel
theorem dX6_toldOfSort_40 : decode cX6_toldOfSort 40 = .ok (.iload_n 1, 1) := by decide +kernel
theorem dX6_toldOfSort_41 : decode cX6_toldOfSort 41 = .ok (.iaload, 1) := by decide +kernel
theorem dX6_toldOfSort_42 : decode cX6_toldOfSort 42 = .ok (.ireturn, 1) := by decide +kernel
theorem dX6_toldOfSort_43 : decode cX6_toldOfSort 43 = .ok (.aload_n 0, 1) := by decide +kernel
theorem dX6_toldOfSort_44 : decode cX6_toldOfSort 44 = .ok (.getfield 22, 3) := by decide +kernel
theorem dX6_toldOfSort_47 : decode cX6_toldOfSort 47 = .ok (.iload_n 1, 1) := by decide +kernel
theorem dX6_toldOfSort_48 : decode cX6_toldOfSort 48 = .ok (.iaload, 1) := by decide +kernel
theorem dX6_toldOfSort_49 : decode cX6_toldOfSort 49 = .ok (.ireturn, 1) := by decide +kernel
theorem dX6_toldOfSort_50 : decode cX6_toldOfSort 50 = .ok (.aload_n 0, 1) := by decide +kernel
theorem dX6_toldOfSort_51 : decode cX6_toldOfSort 51 = .ok (.getfield 25, 3) := by decide +kernel
theorem dX6_toldOfSort_54 : decode cX6_toldOfSort 54 = .ok (.iload_n 1, 1) := by decide +kernel
theorem dX6_toldOfSort_55 : decode cX6_toldOfSort 55 = .ok (.iaload, 1) := by decide +kernel
theorem dX6_toldOfSort_56 : decode cX6_toldOfSort 56 = .ok (.ireturn, 1) := by decide +kernel
theorem dX6_toldOfSort_57 : decode cX6_toldOfSort 57 = .ok (.aload_n 0, 1) := by decide +kernel
theorem dX6_toldOfSort_58 : decode cX6_toldOfSort 58 = .ok (.getfield 28, 3) := by decide +kernel
theorem dX6_toldOfSort_61 : decode cX6_toldOfSort 61 = .ok (.iload_n 1, 1) := by decide +kernel
theorem dX6_toldOfSort_62 : decode cX6_toldOfSort 62 = .ok (.iaload, 1) := by decide +kernel
theorem dX6_toldOfSort_63 : decode cX6_toldOfSort 63 = .ok (.ireturn, 1) := by decide +kernel
theorem dX6_setsInAll_0 : decode cX6_setsInAll 0 = .ok (.aload_n 0, 1) := by decide +kernel
theorem dX6_setsInAll_1 : decode cX6_setsInAll 1 = .ok (.getfield 19, 3) := by decide +kernel
theorem dX6_setsInAll_4 : decode cX6_setsInAll 4 = .ok (.iload_n 1, 1) := by decide +kernel
theorem dX6_setsInAll_5 : decode cX6_setsInAll 5 = .ok (.iaload, 1) := by decide +kernel
theorem dX6_setsInAll_6 : decode cX6_setsInAll 6 = .ok (.iconst 1, 1) := by decide +kernel
theorem dX6_setsInAll_7 : decode cX6_setsInAll 7 = .ok (.if_icmp .eq 5, 3) := by decide +kernel
theorem dX6_setsInAll_10 : decode cX6_setsInAll 10 = .ok (.iconst 1, 1) := by decide +kernel
theorem dX6_setsInAll_11 : decode cX6_setsInAll 11 = .ok (.ireturn, 1) := by decide +kernel
theorem dX6_setsInAll_12 : decode cX6_setsInAll 12 = .ok (.iconst 0, 1) := by decide +kernel
theorem dX6_setsInAll_13 : decode cX6_setsInAll 13 = .ok (.istore_n 2, 1) := by decide +kernel
theorem dX6_setsInAll_14 : decode cX6_setsInAll 14 = .ok (.iconst 0, 1) := by decide +kernel
theorem dX6_setsInAll_15 : decode cX6_setsInAll 15 = .ok (.istore_n 3, 1) := by decide +kernel
theorem dX6_setsInAll_16 : decode cX6_setsInAll 16 = .ok (.iload_n 3, 1) := by decide +kernel
theorem dX6_setsInAll_17 : decode cX6_setsInAll 17 = .ok (.iconst 1, 1) := by decide +kernel
theorem dX6_setsInAll_18 : decode cX6_setsInAll 18 = .ok (.aload_n 0, 1) := by decide +kernel
theorem dX6_setsInAll_19 : decode cX6_setsInAll 19 = .ok (.getfield 37, 3) := by decide +kernel
theorem dX6_setsInAll_22 : decode cX6_setsInAll 22 = .ok (.ishl, 1) := by decide +kernel
theorem dX6_setsInAll_23 : decode cX6_setsInAll 23 = .ok (.if_icmp .ge 25, 3) := by decide +kernel
theorem dX6_setsInAll_26 : decode cX6_setsInAll 26 = .ok (.iload_n 3, 1) := by decide +kernel
theorem dX6_setsInAll_27 : decode cX6_setsInAll 27 = .ok (.invokestatic 75, 3) := by decide +kernel
theorem dX6_setsInAll_30 : decode cX6_setsInAll 30 = .ok (.aload_n 0, 1) := by decide +kernel
theorem dX6_setsInAll_31 : decode cX6_setsInAll 31 = .ok (.getfield 25, 3) := by decide +kernel
theorem dX6_setsInAll_34 : decode cX6_setsInAll 34 = .ok (.iload_n 1, 1) := by decide +kernel
theorem dX6_setsInAll_35 : decode cX6_setsInAll 35 = .ok (.iaload, 1) := by decide +kernel
theorem dX6_setsInAll_36 : decode cX6_setsInAll 36 = .ok (.if_icmp .ne 6, 3) := by decide +kernel
theorem dX6_setsInAll_39 : decode cX6_setsInAll 39 = .ok (.iinc 2 1, 3) := by decide +kernel
theorem dX6_setsInAll_42 : decode cX6_setsInAll 42 = .ok (.iinc 3 1, 3) := by decide +kernel
theorem dX6_setsInAll_45 : decode cX6_setsInAll 45 = .ok (.goto (-29), 3) := by decide +kernel
theorem dX6_setsInAll_48 : decode cX6_setsInAll 48 = .ok (.iload_n 2, 1) := by decide +kernel
theorem dX6_setsInAll_49 : decode cX6_setsInAll 49 = .ok (.ireturn, 1) := by decide +kernel
theorem dX6_setsLike_0 : decode cX6_setsLike 0 = .ok (.iload_n 3, 1) := by decide +kernel
theorem dX6_setsLike_1 : decode cX6_setsLike 1 = .ok (.ifCond .eq 21, 3) := by decide +kernel
theorem dX6_setsLike_4 : decode cX6_setsLike 4 = .ok (.iload_n 2, 1) := by decide +kernel
theorem dX6_setsLike_5 : decode cX6_setsLike 5 = .ok (.aload_n 0, 1) := by decide +kernel
theorem dX6_setsLike_6 : decode cX6_setsLike 6 = .ok (.invokevirtual 81, 3) := by decide +kernel
theorem dX6_setsLike_9 : decode cX6_setsLike 9 = .ok (.if_icmp .ne 11, 3) := by decide +kernel
theorem dX6_setsLike_12 : decode cX6_setsLike 12 = .ok (.aload_n 0, 1) := by decide +kernel
theorem dX6_setsLike_13 : decode cX6_setsLike 13 = .ok (.iload_n 1, 1) := by decide +kernel
theorem dX6_setsLike_14 : decode cX6_setsLike 14 = .ok (.invokevirtual 85, 3) := by decide +kernel
theorem dX6_setsLike_17 : decode cX6_setsLike 17 = .ok (.goto 4, 3) := by decide +kernel
theorem dX6_setsLike_20 : decode cX6_setsLike 20 = .ok (.iconst 0, 1) := by decide +kernel
theorem dX6_setsLike_21 : decode cX6_setsLike 21 = .ok (.ireturn, 1) := by decide +kernel
theorem dX6_setsLike_22 : decode cX6_setsLike 22 = .ok (.aload_n 0, 1) := by decide +kernel
theorem dX6_setsLike_23 : decode cX6_setsLike 23 = .ok (.getfield 19, 3) := by decide +kernel
theorem dX6_setsLike_26 : decode cX6_setsLike 26 = .ok (.iload_n 1, 1) := by decide +kernel
theorem dX6_setsLike_27 : decode cX6_setsLike 27 = .ok (.iaload, 1) := by decide +kernel
theorem dX6_setsLike_28 : decode cX6_setsLike 28 = .ok (.ifCond .ne 23, 3) := by decide +kernel
theorem dX6_setsLike_31 : decode cX6_setsLike 31 = .ok (.iload_n 2, 1) := by decide +kernel
theorem dX6_setsLike_32 : decode cX6_setsLike 32 = .ok (.aload_n 0, 1) := by decide +kernel
theorem dX6_setsLike_33 : decode cX6_setsLike 33 = .ok (.getfield 31, 3) := by decide +kernel
theorem dX6_setsLike_36 : decode cX6_setsLike 36 = .ok (.iload_n 1, 1) := by decide +kernel
theorem dX6_setsLike_37 : decode cX6_setsLike 37 = .ok (.iaload, 1) := by decide +kernel
theorem dX6_setsLike_38 : decode cX6_setsLike 38 = .ok (.if_icmp .ne 7, 3) := by decide +kernel
theorem dX6_setsLike_41 : decode cX6_setsLike 41 = .ok (.iconst 1, 1) := by decide +kernel
theorem dX6_setsLike_42 : decode cX6_setsLike 42 = .ok (.goto 4, 3) := by decide +kernel
theorem dX6_setsLike_45 : decode cX6_setsLike 45 = .ok (.iconst 0, 1) := by decide +kernel
theorem dX6_setsLike_46 : decode cX6_setsLike 46 = .ok (.istore 4, 2) := by decide +kernel
theorem dX6_setsLike_48 : decode cX6_setsLike 48 = .ok (.goto 51, 3) := by decide +kernel
theorem dX6_setsLike_51 : decode cX6_setsLike 51 = .ok (.aload_n 0, 1) := by decide +kernel
theorem dX6_setsLike_52 : decode cX6_setsLike 52 = .ok (.getfield 19, 3) := by decide +kernel
theorem dX6_setsLike_55 : decode cX6_setsLike 55 = .ok (.iload_n 1, 1) := by decide +kernel
theorem dX6_setsLike_56 : decode cX6_setsLike 56 = .ok (.iaload, 1) := by decide +kernel
theorem dX6_setsLike_57 : decode cX6_setsLike 57 = .ok (.iconst 1, 1) := by decide +kernel
theorem dX6_setsLike_58 : decode cX6_setsLike 58 = .ok (.if_icmp .ne 26, 3) := by decide +kernel
theorem dX6_setsLike_61 : decode cX6_setsLike 61 = .ok (.iload_n 2, 1) := by decide +kernel
theorem dX6_setsLike_62 : decode cX6_setsLike 62 = .ok (.invokestatic 75, 3) := by decide +kernel
theorem dX6_setsLike_65 : decode cX6_setsLike 65 = .ok (.aload_n 0, 1) := by decide +kernel
theorem dX6_setsLike_66 : decode cX6_setsLike 66 = .ok (.getfield 25, 3) := by decide +kernel
theorem dX6_setsLike_69 : decode cX6_setsLike 69 = .ok (.iload_n 1, 1) := by decide +kernel
theorem dX6_setsLike_70 : decode cX6_setsLike 70 = .ok (.iaload, 1) := by decide +kernel
theorem dX6_setsLike_71 : decode cX6_setsLike 71 = .ok (.if_icmp .ne 7, 3) := by decide +kernel
theorem dX6_setsLike_74 : decode cX6_setsLike 74 = .ok (.iconst 1, 1) := by decide +kernel
theorem dX6_setsLike_75 : decode cX6_setsLike 75 = .ok (.goto 4, 3) := by decide +kernel
theorem dX6_setsLike_78 : decode cX6_setsLike 78 = .ok (.iconst 0, 1) := by decide +kernel
theorem dX6_setsLike_79 : decode cX6_setsLike 79 = .ok (.istore 4, 2) := by decide +kernel
theorem dX6_setsLike_81 : decode cX6_setsLike 81 = .ok (.goto 18, 3) := by decide +kernel
theorem dX6_setsLike_84 : decode cX6_setsLike 84 = .ok (.iload_n 2, 1) := by decide +kernel
theorem dX6_setsLike_85 : decode cX6_setsLike 85 = .ok (.aload_n 0, 1) := by decide +kernel
theorem dX6_setsLike_86 : decode cX6_setsLike 86 = .ok (.getfield 56, 3) := by decide +kernel
theorem dX6_setsLike_89 : decode cX6_setsLike 89 = .ok (.if_icmp .ne 7, 3) := by decide +kernel
theorem dX6_setsLike_92 : decode cX6_setsLike 92 = .ok (.iconst 1, 1) := by decide +kernel
theorem dX6_setsLike_93 : decode cX6_setsLike 93 = .ok (.goto 4, 3) := by decide +kernel
theorem dX6_setsLike_96 : decode cX6_setsLike 96 = .ok (.iconst 0, 1) := by decide +kernel
theorem dX6_setsLike_97 : decode cX6_setsLike 97 = .ok (.istore 4, 2) := by decide +kernel
theorem dX6_setsLike_99 : decode cX6_setsLike 99 = .ok (.iload 4, 2) := by decide +kernel
theorem dX6_setsLike_101 : decode cX6_setsLike 101 = .ok (.ifCond .eq 7, 3) := by decide +kernel
theorem dX6_setsLike_104 : decode cX6_setsLike 104 = .ok (.iconst 1, 1) := by decide +kernel
theorem dX6_setsLike_105 : decode cX6_setsLike 105 = .ok (.goto 4, 3) := by decide +kernel
theorem dX6_setsLike_108 : decode cX6_setsLike 108 = .ok (.iconst 0, 1) := by decide +kernel
theorem dX6_setsLike_109 : decode cX6_setsLike 109 = .ok (.ireturn, 1) := by decide +kernel
theorem dX6_womenInAll_0 : decode cX6_womenInAll 0 = .ok (.iconst 0, 1) := by decide +kernel
theorem dX6_womenInAll_1 : decode cX6_womenInAll 1 = .ok (.istore_n 1, 1) := by decide +kernel
theorem dX6_womenInAll_2 : decode cX6_womenInAll 2 = .ok (.iconst 0, 1) := by decide +kernel
theorem dX6_womenInAll_3 : decode cX6_womenInAll 3 = .ok (.istore_n 2, 1) := by decide +kernel
theorem dX6_womenInAll_4 : decode cX6_womenInAll 4 = .ok (.iload_n 2, 1) := by decide +kernel
theorem dX6_womenInAll_5 : decode cX6_womenInAll 5 = .ok (.aload_n 0, 1) := by decide +kernel
theorem dX6_womenInAll_6 : decode cX6_womenInAll 6 = .ok (.getfield 41, 3) := by decide +kernel
theorem dX6_womenInAll_9 : decode cX6_womenInAll 9 = .ok (.if_icmp .ge 24, 3) := by decide +kernel
theorem dX6_womenInAll_12 : decode cX6_womenInAll 12 = .ok (.iload_n 1, 1) := by decide +kernel
theorem dX6_womenInAll_13 : decode cX6_womenInAll 13 = .ok (.aload_n 0, 1) := by decide +kernel
theorem dX6_womenInAll_14 : decode cX6_womenInAll 14 = .ok (.getfield 22, 3) := by decide +kernel
theorem dX6_womenInAll_17 : decode cX6_womenInAll 17 = .ok (.iload_n 2, 1) := by decide +kernel
theorem dX6_womenInAll_18 : decode cX6_womenInAll 18 = .ok (.iaload, 1) := by decide +kernel
theorem dX6_womenInAll_19 : decode cX6_womenInAll 19 = .ok (.aload_n 0, 1) := by decide +kernel
theorem dX6_womenInAll_20 : decode cX6_womenInAll 20 = .ok (.iload_n 2, 1) := by decide +kernel
theorem dX6_womenInAll_21 : decode cX6_womenInAll 21 = .ok (.invokevirtual 85, 3) := by decide +kernel
theorem dX6_womenInAll_24 : decode cX6_womenInAll 24 = .ok (.imul, 1) := by decide +kernel
theorem dX6_womenInAll_25 : decode cX6_womenInAll 25 = .ok (.iadd, 1) := by decide +kernel
theorem dX6_womenInAll_26 : decode cX6_womenInAll 26 = .ok (.istore_n 1, 1) := by decide +kernel
theorem dX6_womenInAll_27 : decode cX6_womenInAll 27 = .ok (.iinc 2 1, 3) := by decide +kernel
theorem dX6_womenInAll_30 : decode cX6_womenInAll 30 = .ok (.goto (-26), 3) := by decide +kernel
theorem dX6_womenInAll_33 : decode cX6_womenInAll 33 = .ok (.iload_n 1, 1) := by decide +kernel
theorem dX6_womenInAll_34 : decode cX6_womenInAll 34 = .ok (.ireturn, 1) := by decide +kernel

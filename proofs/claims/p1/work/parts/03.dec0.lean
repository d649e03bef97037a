theorem dX0_init_0 : decode cX0_init 0 = .ok (.aload_n 0, 1) := by decide +kernel
theorem dX0_init_1 : decode cX0_init 1 = .ok (.invokespecial 5, 3) := by decide +kernel
theorem dX0_init_4 : decode cX0_init 4 = .ok (.aload_n 0, 1) := by decide +kernel
theorem dX0_init_5 : decode cX0_init 5 = .ok (.iconst 3, 1) := by decide +kernel
theorem dX0_init_6 : decode cX0_init 6 = .ok (.newarray .int, 2) := by decide +kernel
theorem dX0_init_8 : decode cX0_init 8 = .ok (.putfield 11, 3) := by decide +kernel
theorem dX0_init_11 : decode cX0_init 11 = .ok (.aload_n 0, 1) := by decide +kernel
theorem dX0_init_12 : decode cX0_init 12 = .ok (.iconst 3, 1) := by decide +kernel
theorem dX0_init_13 : decode cX0_init 13 = .ok (.newarray .int, 2) := by decide +kernel
theorem dX0_init_15 : decode cX0_init 15 = .ok (.putfield 15, 3) := by decide +kernel
theorem dX0_init_18 : decode cX0_init 18 = .ok (.aload_n 0, 1) := by decide +kernel
theorem dX0_init_19 : decode cX0_init 19 = .ok (.iconst 3, 1) := by decide +kernel
theorem dX0_init_20 : decode cX0_init 20 = .ok (.newarray .int, 2) := by decide +kernel
theorem dX0_init_22 : decode cX0_init 22 = .ok (.putfield 18, 3) := by decide +kernel
theorem dX0_init_25 : decode cX0_init 25 = .ok (.aload_n 0, 1) := by decide +kernel
theorem dX0_init_26 : decode cX0_init 26 = .ok (.iconst 3, 1) := by decide +kernel
theorem dX0_init_27 : decode cX0_init 27 = .ok (.newarray .int, 2) := by decide +kernel
theorem dX0_init_29 : decode cX0_init 29 = .ok (.putfield 21, 3) := by decide +kernel
theorem dX0_init_32 : decode cX0_init 32 = .ok (.aload_n 0, 1) := by decide +kernel
theorem dX0_init_33 : decode cX0_init 33 = .ok (.sipush 441, 3) := by decide +kernel
theorem dX0_init_36 : decode cX0_init 36 = .ok (.newarray .int, 2) := by decide +kernel
theorem dX0_init_38 : decode cX0_init 38 = .ok (.putfield 24, 3) := by decide +kernel
theorem dX0_init_41 : decode cX0_init 41 = .ok (.aload_n 0, 1) := by decide +kernel
theorem dX0_init_42 : decode cX0_init 42 = .ok (.sipush 441, 3) := by decide +kernel
theorem dX0_init_45 : decode cX0_init 45 = .ok (.newarray .int, 2) := by decide +kernel
theorem dX0_init_47 : decode cX0_init 47 = .ok (.putfield 27, 3) := by decide +kernel
theorem dX0_init_50 : decode cX0_init 50 = .ok (.return_, 1) := by decide +kernel
theorem dX1_init_0 : decode cX1_init 0 = .ok (.aload_n 0, 1) := by decide +kernel
theorem dX1_init_1 : decode cX1_init 1 = .ok (.invokespecial 3, 3) := by decide +kernel
theorem dX1_init_4 : decode cX1_init 4 = .ok (.aload_n 0, 1) := by decide +kernel
theorem dX1_init_5 : decode cX1_init 5 = .ok (.bipush 6, 2) := by decide +kernel
theorem dX1_init_7 : decode cX1_init 7 = .ok (.newarray .int, 2) := by decide +kernel
theorem dX1_init_9 : decode cX1_init 9 = .ok (.putfield 9, 3) := by decide +kernel
theorem dX1_init_12 : decode cX1_init 12 = .ok (.aload_n 0, 1) := by decide +kernel
theorem dX1_init_13 : decode cX1_init 13 = .ok (.bipush 6, 2) := by decide +kernel
theorem dX1_init_15 : decode cX1_init 15 = .ok (.newarray .int, 2) := by decide +kernel
theorem dX1_init_17 : decode cX1_init 17 = .ok (.putfield 15, 3) := by decide +kernel
theorem dX1_init_20 : decode cX1_init 20 = .ok (.return_, 1) := by decide +kernel
theorem dX2_init_0 : decode cX2_init 0 = .ok (.aload_n 0, 1) := by decide +kernel
theorem dX2_init_1 : decode cX2_init 1 = .ok (.invokespecial 3, 3) := by decide +kernel
theorem dX2_init_4 : decode cX2_init 4 = .ok (.aload_n 0, 1) := by decide +kernel
theorem dX2_init_5 : decode cX2_init 5 = .ok (.sipush 12000, 3) := by decide +kernel
theorem dX2_init_8 : decode cX2_init 8 = .ok (.newarray .int, 2) := by decide +kernel
theorem dX2_init_10 : decode cX2_init 10 = .ok (.putfield 9, 3) := by decide +kernel
theorem dX2_init_13 : decode cX2_init 13 = .ok (.aload_n 0, 1) := by decide +kernel
theorem dX2_init_14 : decode cX2_init 14 = .ok (.sipush 2000, 3) := by decide +kernel
theorem dX2_init_17 : decode cX2_init 17 = .ok (.newarray .long, 2) := by decide +kernel
theorem dX2_init_19 : decode cX2_init 19 = .ok (.putfield 15, 3) := by decide +kernel
theorem dX2_init_22 : decode cX2_init 22 = .ok (.aload_n 0, 1) := by decide +kernel
theorem dX2_init_23 : decode cX2_init 23 = .ok (.sipush 2000, 3) := by decide +kernel
theorem dX2_init_26 : decode cX2_init 26 = .ok (.newarray .boolean, 2) := by decide +kernel
theorem dX2_init_28 : decode cX2_init 28 = .ok (.putfield 19, 3) := by decide +kernel
theorem dX2_init_31 : decode cX2_init 31 = .ok (.return_, 1) := by decide +kernel
theorem dX2_gather_0 : decode cX2_gather 0 = .ok (.aload_n 0, 1) := by decide +kernel
theorem dX2_gather_1 : decode cX2_gather 1 = .ok (.iconst 0, 1) := by decide +kernel
theorem dX2_gather_2 : decode cX2_gather 2 = .ok (.putfield 23, 3) := by decide +kernel
theorem dX2_gather_5 : decode cX2_gather 5 = .ok (.aload_n 1, 1) := by decide +kernel
theorem dX2_gather_6 : decode cX2_gather 6 = .ok (.iload_n 2, 1) := by decide +kernel
theorem dX2_gather_7 : decode cX2_gather 7 = .ok (.invokevirtual 27, 3) := by decide +kernel
theorem dX2_gather_10 : decode cX2_gather 10 = .ok (.ifCond .ne 5, 3) := by decide +kernel
theorem dX2_gather_15 : decode cX2_gather 15 = .ok (.iconst 0, 1) := by decide +kernel
theorem dX2_gather_16 : decode cX2_gather 16 = .ok (.istore_n 3, 1) := by decide +kernel
theorem dX2_gather_17 : decode cX2_gather 17 = .ok (.iload_n 3, 1) := by decide +kernel
theorem dX2_gather_18 : decode cX2_gather 18 = .ok (.ldc 33, 2) := by decide +kernel
theorem dX2_gather_20 : decode cX2_gather 20 = .ok (.if_icmp .ge 59, 3) := by decide +kernel
theorem dX2_gather_23 : decode cX2_gather 23 = .ok (.aload_n 1, 1) := by decide +kernel
theorem dX2_gather_24 : decode cX2_gather 24 = .ok (.invokevirtual 34, 3) := by decide +kernel
theorem dX2_gather_27 : decode cX2_gather 27 = .ok (.ifCond .eq 52, 3) := by decide +kernel
theorem dX2_gather_30 : decode cX2_gather 30 = .ok (.aload_n 0, 1) := by decide +kernel
theorem dX2_gather_31 : decode cX2_gather 31 = .ok (.getfield 23, 3) := by decide +kernel
theorem dX2_gather_34 : decode cX2_gather 34 = .ok (.sipush 2000, 3) := by decide +kernel
theorem dX2_gather_37 : decode cX2_gather 37 = .ok (.if_icmp .lt 5, 3) := by decide +kernel
theorem dX2_gather_42 : decode cX2_gather 42 = .ok (.aload_n 1, 1) := by decide +kernel
theorem dX2_gather_43 : decode cX2_gather 43 = .ok (.getfield 38, 3) := by decide +kernel
theorem dX2_gather_46 : decode cX2_gather 46 = .ok (.iconst 0, 1) := by decide +kernel
theorem dX2_gather_47 : decode cX2_gather 47 = .ok (.aload_n 0, 1) := by decide +kernel
theorem dX2_gather_48 : decode cX2_gather 48 = .ok (.getfield 9, 3) := by decide +kernel
theorem dX2_gather_51 : decode cX2_gather 51 = .ok (.aload_n 0, 1) := by decide +kernel
theorem dX2_gather_52 : decode cX2_gather 52 = .ok (.getfield 23, 3) := by decide +kernel
theorem dX2_gather_55 : decode cX2_gather 55 = .ok (.bipush 6, 2) := by decide +kernel
theorem dX2_gather_57 : decode cX2_gather 57 = .ok (.imul, 1) := by decide +kernel
theorem dX2_gather_58 : decode cX2_gather 58 = .ok (.bipush 6, 2) := by decide +kernel
theorem dX2_gather_60 : decode cX2_gather 60 = .ok (.invokestatic 41, 3) := by decide +kernel
theorem dX2_gather_63 : decode cX2_gather 63 = .ok (.aload_n 0, 1) := by decide +kernel
theorem dX2_gather_64 : decode cX2_gather 64 = .ok (.dup, 1) := by decide +kernel
theorem dX2_gather_65 : decode cX2_gather 65 = .ok (.getfield 23, 3) := by decide +kernel
theorem dX2_gather_68 : decode cX2_gather 68 = .ok (.iconst 1, 1) := by decide +kernel
theorem dX2_gather_69 : decode cX2_gather 69 = .ok (.iadd, 1) := by decide +kernel
theorem dX2_gather_70 : decode cX2_gather 70 = .ok (.putfield 23, 3) := by decide +kernel
theorem dX2_gather_73 : decode cX2_gather 73 = .ok (.iinc 3 1, 3) := by decide +kernel
theorem dX2_gather_76 : decode cX2_gather 76 = .ok (.goto (-59), 3) := by decide +kernel
theorem dX2_gather_79 : decode cX2_gather 79 = .ok (.iconst 1, 1) := by decide +kernel
theorem dX2_gather_80 : decode cX2_gather 80 = .ok (.ireturn, 1) := by decide +kernel
theorem dX2_ageOf_0 : decode cX2_ageOf 0 = .ok (.aload_n 0, 1) := by decide +kernel
theorem dX2_ageOf_1 : decode cX2_ageOf 1 = .ok (.getfield 9, 3) := by decide +kernel
theorem dX2_ageOf_4 : decode cX2_ageOf 4 = .ok (.iload_n 1, 1) := by decide +kernel
theorem dX2_ageOf_5 : decode cX2_ageOf 5 = .ok (.bipush 6, 2) := by decide +kernel
theorem dX2_ageOf_7 : decode cX2_ageOf 7 = .ok (.imul, 1) := by decide +kernel
theorem dX2_ageOf_8 : decode cX2_ageOf 8 = .ok (.iload_n 2, 1) := by decide +kernel
theorem dX2_ageOf_9 : decode cX2_ageOf 9 = .ok (.iadd, 1) := by decide +kernel
theorem dX2_ageOf_10 : decode cX2_ageOf 10 = .ok (.iaload, 1) := by decide +kernel
theorem dX2_ageOf_11 : decode cX2_ageOf 11 = .ok (.ireturn, 1) := by decide +kernel
theorem dX3_init_0 : decode cX3_init 0 = .ok (.aload_n 0, 1) := by decide +kernel
theorem dX3_init_1 : decode cX3_init 1 = .ok (.invokespecial 3, 3) := by decide +kernel
theorem dX3_init_4 : decode cX3_init 4 = .ok (.aload_n 0, 1) := by decide +kernel
theorem dX3_init_5 : decode cX3_init 5 = .ok (.sipush 1024, 3) := by decide +kernel
theorem dX3_init_8 : decode cX3_init 8 = .ok (.newarray .int, 2) := by decide +kernel
theorem dX3_init_10 : decode cX3_init 10 = .ok (.putfield 9, 3) := by decide +kernel
theorem dX3_init_13 : decode cX3_init 13 = .ok (.return_, 1) := by decide +kernel
theorem dX3_forget_0 : decode cX3_forget 0 = .ok (.aload_n 0, 1) := by decide +kernel
theorem dX3_forget_1 : decode cX3_forget 1 = .ok (.iconst 0, 1) := by decide +kernel
theorem dX3_forget_2 : decode cX3_forget 2 = .ok (.putfield 15, 3) := by decide +kernel
theorem dX3_forget_5 : decode cX3_forget 5 = .ok (.return_, 1) := by decide +kernel
theorem dX3_isCounted_0 : decode cX3_isCounted 0 = .ok (.aload_n 0, 1) := by decide +kernel
theorem dX3_isCounted_1 : decode cX3_isCounted 1 = .ok (.getfield 15, 3) := by decide +kernel
theorem dX3_isCounted_4 : decode cX3_isCounted 4 = .ok (.ifCond .ne 27, 3) := by decide +kernel
theorem dX3_isCounted_7 : decode cX3_isCounted 7 = .ok (.aload_n 1, 1) := by decide +kernel
theorem dX3_isCounted_8 : decode cX3_isCounted 8 = .ok (.aload_n 1, 1) := by decide +kernel
theorem dX3_isCounted_9 : decode cX3_isCounted 9 = .ok (.getfield 19, 3) := by decide +kernel
theorem dX3_isCounted_12 : decode cX3_isCounted 12 = .ok (.invokevirtual 25, 3) := by decide +kernel
theorem dX3_isCounted_15 : decode cX3_isCounted 15 = .ok (.invokevirtual 31, 3) := by decide +kernel
theorem dX3_isCounted_18 : decode cX3_isCounted 18 = .ok (.ifCond .eq 13, 3) := by decide +kernel
theorem dX3_isCounted_21 : decode cX3_isCounted 21 = .ok (.aload_n 0, 1) := by decide +kernel
theorem dX3_isCounted_22 : decode cX3_isCounted 22 = .ok (.aload_n 1, 1) := by decide +kernel
theorem dX3_isCounted_23 : decode cX3_isCounted 23 = .ok (.invokevirtual 35, 3) := by decide +kernel
theorem dX3_isCounted_26 : decode cX3_isCounted 26 = .ok (.aload_n 0, 1) := by decide +kernel
theorem dX3_isCounted_27 : decode cX3_isCounted 27 = .ok (.iconst 1, 1) := by decide +kernel
theorem dX3_isCounted_28 : decode cX3_isCounted 28 = .ok (.putfield 15, 3) := by decide +kernel
theorem dX3_isCounted_31 : decode cX3_isCounted 31 = .ok (.aload_n 0, 1) := by decide +kernel
theorem dX3_isCounted_32 : decode cX3_isCounted 32 = .ok (.getfield 15, 3) := by decide +kernel
theorem dX3_isCounted_35 : decode cX3_isCounted 35 = .ok (.ireturn, 1) := by decide +kernel
theorem dX3_countAll_0 : decode cX3_countAll 0 = .ok (.aload_n 0, 1) := by decide +kernel
theorem dX3_countAll_1 : decode cX3_countAll 1 = .ok (.getfield 9, 3) := by decide +kernel
theorem dX3_countAll_4 : decode cX3_countAll 4 = .ok (.iconst 0, 1) := by decide +kernel
theorem dX3_countAll_5 : decode cX3_countAll 5 = .ok (.invokestatic 39, 3) := by decide +kernel
theorem dX3_countAll_8 : decode cX3_countAll 8 = .ok (.iconst 0, 1) := by decide +kernel
theorem dX3_countAll_9 : decode cX3_countAll 9 = .ok (.istore_n 2, 1) := by decide +kernel
theorem dX3_countAll_10 : decode cX3_countAll 10 = .ok (.iload_n 2, 1) := by decide +kernel
theorem dX3_countAll_11 : decode cX3_countAll 11 = .ok (.ldc 45, 2) := by decide +kernel
theorem dX3_countAll_13 : decode cX3_countAll 13 = .ok (.if_icmp .ge 29, 3) := by decide +kernel
theorem dX3_countAll_16 : decode cX3_countAll 16 = .ok (.aload_n 1, 1) := by decide +kernel
theorem dX3_countAll_17 : decode cX3_countAll 17 = .ok (.invokevirtual 46, 3) := by decide +kernel
theorem dX3_countAll_20 : decode cX3_countAll 20 = .ok (.ifCond .eq 22, 3) := by decide +kernel
theorem dX3_countAll_23 : decode cX3_countAll 23 = .ok (.aload_n 0, 1) := by decide +kernel
theorem dX3_countAll_24 : decode cX3_countAll 24 = .ok (.getfield 9, 3) := by decide +kernel
theorem dX3_countAll_27 : decode cX3_countAll 27 = .ok (.aload_n 1, 1) := by decide +kernel
theorem dX3_countAll_28 : decode cX3_countAll 28 = .ok (.invokevirtual 50, 3) := by decide +kernel
theorem dX3_countAll_31 : decode cX3_countAll 31 = .ok (.dup2, 1) := by decide +kernel
theorem dX3_countAll_32 : decode cX3_countAll 32 = .ok (.iaload, 1) := by decide +kernel
theorem dX3_countAll_33 : decode cX3_countAll 33 = .ok (.iconst 1, 1) := by decide +kernel
theorem dX3_countAll_34 : decode cX3_countAll 34 = .ok (.iadd, 1) := by decide +kernel
theorem dX3_countAll_35 : decode cX3_countAll 35 = .ok (.iastore, 1) := by decide +kernel
theorem dX3_countAll_36 : decode cX3_countAll 36 = .ok (.iinc 2 1, 3) := by decide +kernel
theorem dX3_countAll_39 : decode cX3_countAll 39 = .ok (.goto (-29), 3) := by decide +kernel
theorem dX3_countAll_42 : decode cX3_countAll 42 = .ok (.iconst 0, 1) := by decide +kernel
theorem dX3_countAll_43 : decode cX3_countAll 43 = .ok (.istore_n 2, 1) := by decide +kernel
theorem dX3_countAll_44 : decode cX3_countAll 44 = .ok (.iload_n 2, 1) := by decide +kernel
theorem dX3_countAll_45 : decode cX3_countAll 45 = .ok (.bipush 10, 2) := by decide +kernel
theorem dX3_countAll_47 : decode cX3_countAll 47 = .ok (.if_icmp .ge 56, 3) := by decide +kernel
theorem dX3_countAll_50 : decode cX3_countAll 50 = .ok (.iconst 1, 1) := by decide +kernel
theorem dX3_countAll_51 : decode cX3_countAll 51 = .ok (.iload_n 2, 1) := by decide +kernel
theorem dX3_countAll_52 : decode cX3_countAll 52 = .ok (.ishl, 1) := by decide +kernel
theorem dX3_countAll_53 : decode cX3_countAll 53 = .ok (.istore_n 3, 1) := by decide +kernel
theorem dX3_countAll_54 : decode cX3_countAll 54 = .ok (.iconst 0, 1) := by decide +kernel
theorem dX3_countAll_55 : decode cX3_countAll 55 = .ok (.istore 4, 2) := by decide +kernel
theorem dX3_countAll_57 : decode cX3_countAll 57 = .ok (.iload 4, 2) := by decide +kernel
theorem dX3_countAll_59 : decode cX3_countAll 59 = .ok (.sipush 1024, 3) := by decide +kernel
theorem dX3_countAll_62 : decode cX3_countAll 62 = .ok (.if_icmp .ge 35, 3) := by decide +kernel
theorem dX3_countAll_65 : decode cX3_countAll 65 = .ok (.iload 4, 2) := by decide +kernel
theorem dX3_countAll_67 : decode cX3_countAll 67 = .ok (.iload_n 3, 1) := by decide +kernel
theorem dX3_countAll_68 : decode cX3_countAll 68 = .ok (.iand, 1) := by decide +kernel
theorem dX3_countAll_69 : decode cX3_countAll 69 = .ok (.ifCond .ne 22, 3) := by decide +kernel
theorem dX3_countAll_72 : decode cX3_countAll 72 = .ok (.aload_n 0, 1) := by decide +kernel
theorem dX3_countAll_73 : decode cX3_countAll 73 = .ok (.getfield 9, 3) := by decide +kernel
theorem dX3_countAll_76 : decode cX3_countAll 76 = .ok (.iload 4, 2) := by decide +kernel
theorem dX3_countAll_78 : decode cX3_countAll 78 = .ok (.dup2, 1) := by decide +kernel
theorem dX3_countAll_79 : decode cX3_countAll 79 = .ok (.iaload, 1) := by decide +kernel
theorem dX3_countAll_80 : decode cX3_countAll 80 = .ok (.aload_n 0, 1) := by decide +kernel
theorem dX3_countAll_81 : decode cX3_countAll 81 = .ok (.getfield 9, 3) := by decide +kernel
theorem dX3_countAll_84 : decode cX3_countAll 84 = .ok (.iload 4, 2) := by decide +kernel
theorem dX3_countAll_86 : decode cX3_countAll 86 = .ok (.iload_n 3, 1) := by decide +kernel
theorem dX3_countAll_87 : decode cX3_countAll 87 = .ok (.ior, 1) := by decide +kernel
theorem dX3_countAll_88 : decode cX3_countAll 88 = .ok (.iaload, 1) := by decide +kernel
theorem dX3_countAll_89 : decode cX3_countAll 89 = .ok (.iadd, 1) := by decide +kernel
theorem dX3_countAll_90 : decode cX3_countAll 90 = .ok (.iastore, 1) := by decide +kernel
theorem dX3_countAll_91 : decode cX3_countAll 91 = .ok (.iinc 4 1, 3) := by decide +kernel
theorem dX3_countAll_94 : decode cX3_countAll 94 = .ok (.goto (-37), 3) := by decide +kernel
theorem dX3_countAll_97 : decode cX3_countAll 97 = .ok (.iinc 2 1, 3) := by decide +kernel
theorem dX3_countAll_100 : decode cX3_countAll 100 = .ok (.goto (-56), 3) := by decide +kernel
theorem dX3_countAll_103 : decode cX3_countAll 103 = .ok (.return_, 1) := by decide +kernel
theorem dX3_of_0 : decode cX3_of 0 = .ok (.iload_n 1, 1) := by decide +kernel
theorem dX3_of_1 : decode cX3_of 1 = .ok (.ifCond .lt 19, 3) := by decide +kernel
theorem dX3_of_4 : decode cX3_of 4 = .ok (.iload_n 1, 1) := by decide +kernel
theorem dX3_of_5 : decode cX3_of 5 = .ok (.sipush 1024, 3) := by decide +kernel
theorem dX3_of_8 : decode cX3_of 8 = .ok (.if_icmp .ge 12, 3) := by decide +kernel
theorem dX3_of_11 : decode cX3_of 11 = .ok (.aload_n 0, 1) := by decide +kernel
theorem dX3_of_12 : decode cX3_of 12 = .ok (.getfield 9, 3) := by decide +kernel
theorem dX3_of_15 : decode cX3_of 15 = .ok (.iload_n 1, 1) := by decide +kernel
theorem dX3_of_16 : decode cX3_of 16 = .ok (.iaload, 1) := by decide +kernel
theorem dX3_of_17 : decode cX3_of 17 = .ok (.goto 4, 3) := by decide +kernel
theorem dX3_of_20 : decode cX3_of 20 = .ok (.iconst 0, 1) := by decide +kernel
theorem dX3_of_21 : decode cX3_of 21 = .ok (.ireturn, 1) := by decide +kernel
theorem dX3_allButOne_0 : decode cX3_allButOne 0 = .ok (.aload_n 0, 1) := by decide +kernel
theorem dX3_allButOne_1 : decode cX3_allButOne 1 = .ok (.iload_n 1, 1) := by decide +kernel
theorem dX3_allButOne_2 : decode cX3_allButOne 2 = .ok (.invokevirtual 53, 3) := by decide +kernel
theorem dX3_allButOne_5 : decode cX3_allButOne 5 = .ok (.istore_n 2, 1) := by decide +kernel
theorem dX3_allButOne_6 : decode cX3_allButOne 6 = .ok (.iload_n 2, 1) := by decide +kernel
theorem dX3_allButOne_7 : decode cX3_allButOne 7 = .ok (.istore_n 3, 1) := by decide +kernel
theorem dX3_allButOne_8 : decode cX3_allButOne 8 = .ok (.iconst 0, 1) := by decide +kernel
theorem dX3_allButOne_9 : decode cX3_allButOne 9 = .ok (.istore 4, 2) := by decide +kernel
theorem dX3_allButOne_11 : decode cX3_allButOne 11 = .ok (.iload 4, 2) := by decide +kernel
theorem dX3_allButOne_13 : decode cX3_allButOne 13 = .ok (.bipush 10, 2) := by decide +kernel
theorem dX3_allButOne_15 : decode cX3_allButOne 15 = .ok (.if_icmp .ge 35, 3) := by decide +kernel
theorem dX3_allButOne_18 : decode cX3_allButOne 18 = .ok (.iload_n 1, 1) := by decide +kernel
theorem dX3_allButOne_19 : decode cX3_allButOne 19 = .ok (.iload 4, 2) := by decide +kernel
theorem dX3_allButOne_21 : decode cX3_allButOne 21 = .ok (.ishr, 1) := by decide +kernel
theorem dX3_allButOne_22 : decode cX3_allButOne 22 = .ok (.iconst 1, 1) := by decide +kernel
theorem dX3_allButOne_23 : decode cX3_allButOne 23 = .ok (.iand, 1) := by decide +kernel
theorem dX3_allButOne_24 : decode cX3_allButOne 24 = .ok (.ifCond .eq 20, 3) := by decide +kernel
theorem dX3_allButOne_44 : decode cX3_allButOne 44 = .ok (.iinc 4 1, 3) := by decide +kernel
theorem dX3_allButOne_47 : decode cX3_allButOne 47 = .ok (.goto (-36), 3) := by decide +kernel
theorem dX3_allButOne_50 : decode cX3_allButOne 50 = .ok (.iload_n 3, 1) := by decide +kernel
theorem dX3_allButOne_51 : decode cX3_allButOne 51 = .ok (.ireturn, 1) := by decide +kernel
theorem dX4_init_0 : decode cX4_init 0 = .ok (.aload_n 0, 1) := by decide +kernel
theorem dX4_init_1 : decode cX4_init 1 = .ok (.invokespecial 3, 3) := by decide +kernel
theorem dX4_init_4 : decode cX4_init 4 = .ok (.aload_n 0, 1) := by decide +kernel
theorem dX4_init_5 : decode cX4_init 5 = .ok (.bipush 6, 2) := by decide +kernel
theorem dX4_init_7 : decode cX4_init 7 = .ok (.newarray .int, 2) := by decide +kernel
theorem dX4_init_9 : decode cX4_init 9 = .ok (.putfield 9, 3) := by decide +kernel
theorem dX4_init_12 : decode cX4_init 12 = .ok (.aload_n 0, 1) := by decide +kernel
theorem dX4_init_13 : decode cX4_init 13 = .ok (.bipush 6, 2) := by decide +kernel
theorem dX4_init_15 : decode cX4_init 15 = .ok (.newarray .int, 2) := by decide +kernel
theorem dX4_init_17 : decode cX4_init 17 = .ok (.putfield 15, 3) := by decide +kernel
theorem dX4_init_20 : decode cX4_init 20 = .ok (.aload_n 0, 1) := by decide +kernel
theorem dX4_init_21 : decode cX4_init 21 = .ok (.bipush 6, 2) := by decide +kernel
theorem dX4_init_23 : decode cX4_init 23 = .ok (.newarray .int, 2) := by decide +kernel
theorem dX4_init_25 : decode cX4_init 25 = .ok (.putfield 18, 3) := by decide +kernel
theorem dX4_init_28 : decode cX4_init 28 = .ok (.return_, 1) := by decide +kernel
theorem dX5_init_0 : decode cX5_init 0 = .ok (.aload_n 0, 1) := by decide +kernel
theorem dX5_init_1 : decode cX5_init 1 = .ok (.invokespecial 3, 3) := by decide +kernel
theorem dX5_init_4 : decode cX5_init 4 = .ok (.aload_n 0, 1) := by decide +kernel
theorem dX5_init_5 : decode cX5_init 5 = .ok (.bipush 6, 2) := by decide +kernel
theorem dX5_init_7 : decode cX5_init 7 = .ok (.newarray .int, 2) := by decide +kernel
theorem dX5_init_9 : decode cX5_init 9 = .ok (.putfield 9, 3) := by decide +kernel
theorem dX5_init_12 : decode cX5_init 12 = .ok (.return_, 1) := by decide +kernel
theorem dX5_become_0 : decode cX5_become 0 = .ok (.aload_n 1, 1) := by decide +kernel
theorem dX5_become_1 : decode cX5_become 1 = .ok (.getfield 9, 3) := by decide +kernel
theorem dX5_become_4 : decode cX5_become 4 = .ok (.iconst 0, 1) := by decide +kernel
theorem dX5_become_5 : decode cX5_become 5 = .ok (.aload_n 0, 1) := by decide +kernel
theorem dX5_become_6 : decode cX5_become 6 = .ok (.getfield 9, 3) := by decide +kernel
theorem dX5_become_9 : decode cX5_become 9 = .ok (.iconst 0, 1) := by decide +kernel
theorem dX5_become_10 : decode cX5_become 10 = .ok (.bipush 6, 2) := by decide +kernel
theorem dX5_become_12 : decode cX5_become 12 = .ok (.invokestatic 15, 3) := by decide +kernel
theorem dX5_become_15 : decode cX5_become 15 = .ok (.aload_n 0, 1) := by decide +kernel
theorem dX5_become_16 : decode cX5_become 16 = .ok (.aload_n 1, 1) := by decide +kernel
theorem dX5_become_17 : decode cX5_become 17 = .ok (.getfield 21, 3) := by decide +kernel
theorem dX5_become_20 : decode cX5_become 20 = .ok (.putfield 21, 3) := by decide +kernel
theorem dX5_become_23 : decode cX5_become 23 = .ok (.aload_n 0, 1) := by decide +kernel
theorem dX5_become_24 : decode cX5_become 24 = .ok (.aload_n 1, 1) := by decide +kernel
theorem dX5_become_25 : decode cX5_become 25 = .ok (.getfield 25, 3) := by decide +kernel
theorem dX5_become_28 : decode cX5_become 28 = .ok (.putfield 25, 3) := by decide +kernel
theorem dX5_become_31 : decode cX5_become 31 = .ok (.aload_n 0, 1) := by decide +kernel
theorem dX5_become_32 : decode cX5_become 32 = .ok (.aload_n 1, 1) := by decide +kernel
theorem dX5_become_33 : decode cX5_become 33 = .ok (.getfield 28, 3) := by decide +kernel
theorem dX5_become_36 : decode cX5_become 36 = .ok (.putfield 28, 3) := by decide +kernel
theorem dX5_become_39 : decode cX5_become 39 = .ok (.aload_n 0, 1) := by decide +kernel
theorem dX5_become_40 : decode cX5_become 40 = .ok (.aload_n 1, 1) := by decide +kernel
theorem dX5_become_41 : decode cX5_become 41 = .ok (.getfield 31, 3) := by decide +kernel
theorem dX5_become_44 : decode cX5_become 44 = .ok (.putfield 31, 3) := by decide +kernel
theorem dX5_become_47 : decode cX5_become 47 = .ok (.aload_n 0, 1) := by decide +kernel
theorem dX5_become_48 : decode cX5_become 48 = .ok (.aload_n 1, 1) := by decide +kernel
theorem dX5_become_49 : decode cX5_become 49 = .ok (.getfield 34, 3) := by decide +kernel
theorem dX5_become_52 : decode cX5_become 52 = .ok (.putfield 34, 3) := by decide +kernel
theorem dX5_become_55 : decode cX5_become 55 = .ok (.aload_n 0, 1) := by decide +kernel
theorem dX5_become_56 : decode cX5_become 56 = .ok (.aload_n 1, 1) := by decide +kernel
theorem dX5_become_57 : decode cX5_become 57 = .ok (.getfield 37, 3) := by decide +kernel
theorem dX5_become_60 : decode cX5_become 60 = .ok (.putfield 37, 3) := by decide +kernel
theorem dX5_become_63 : decode cX5_become 63 = .ok (.return_, 1) := by decide +kernel
theorem dX6_init_0 : decode cX6_init 0 = .ok (.aload_n 0, 1) := by decide +kernel
theorem dX6_init_1 : decode cX6_init 1 = .ok (.invokespecial 3, 3) := by decide +kernel
theorem dX6_init_4 : decode cX6_init 4 = .ok (.aload_n 0, 1) := by decide +kernel
theorem dX6_init_5 : decode cX6_init 5 = .ok (.bipush 7, 2) := by decide +kernel
theorem dX6_init_7 : decode cX6_init 7 = .ok (.bipush 7, 2) := by decide +kernel
theorem dX6_init_9 : decode cX6_init 9 = .ok (.multianewarray 11 2, 4) := by decide +kernel
theorem dX6_init_13 : decode cX6_init 13 = .ok (.putfield 13, 3) := by decide +kernel
theorem dX6_init_16 : decode cX6_init 16 = .ok (.aload_n 0, 1) := by decide +kernel
theorem dX6_init_17 : decode cX6_init 17 = .ok (.bipush 7, 2) := by decide +kernel
theorem dX6_init_19 : decode cX6_init 19 = .ok (.bipush 7, 2) := by decide +kernel
theorem dX6_init_21 : decode cX6_init 21 = .ok (.multianewarray 11 2, 4) := by decide +kernel
theorem dX6_init_25 : decode cX6_init 25 = .ok (.putfield 16, 3) := by decide +kernel
theorem dX6_init_28 : decode cX6_init 28 = .ok (.aload_n 0, 1) := by decide +kernel
theorem dX6_init_29 : decode cX6_init 29 = .ok (.bipush 7, 2) := by decide +kernel
theorem dX6_init_31 : decode cX6_init 31 = .ok (.bipush 7, 2) := by decide +kernel
theorem dX6_init_33 : decode cX6_init 33 = .ok (.multianewarray 11 2, 4) := by decide +kernel
theorem dX6_init_37 : decode cX6_init 37 = .ok (.putfield 19, 3) := by decide +kernel
theorem dX6_init_40 : decode cX6_init 40 = .ok (.aload_n 0, 1) := by decide +kernel
theorem dX6_init_41 : decode cX6_init 41 = .ok (.bipush 7, 2) := by decide +kernel
theorem dX6_init_43 : decode cX6_init 43 = .ok (.newarray .int, 2) := by decide +kernel
theorem dX6_init_45 : decode cX6_init 45 = .ok (.putfield 22, 3) := by decide +kernel
theorem dX6_init_48 : decode cX6_init 48 = .ok (.aload_n 0, 1) := by decide +kernel
theorem dX6_init_49 : decode cX6_init 49 = .ok (.aload_n 1, 1) := by decide +kernel
theorem dX6_init_50 : decode cX6_init 50 = .ok (.putfield 26, 3) := by decide +kernel
theorem dX6_init_53 : decode cX6_init 53 = .ok (.return_, 1) := by decide +kernel
theorem dX7_init_0 : decode cX7_init 0 = .ok (.aload_n 0, 1) := by decide +kernel
theorem dX7_init_1 : decode cX7_init 1 = .ok (.invokespecial 3, 3) := by decide +kernel
theorem dX7_init_4 : decode cX7_init 4 = .ok (.aload_n 0, 1) := by decide +kernel
theorem dX7_init_5 : decode cX7_init 5 = .ok (.bipush 6, 2) := by decide +kernel
theorem dX7_init_7 : decode cX7_init 7 = .ok (.newarray .int, 2) := by decide +kernel
theorem dX7_init_9 : decode cX7_init 9 = .ok (.putfield 9, 3) := by decide +kernel
theorem dX7_init_12 : decode cX7_init 12 = .ok (.aload_n 0, 1) := by decide +kernel
theorem dX7_init_13 : decode cX7_init 13 = .ok (.bipush 10, 2) := by decide +kernel
theorem dX7_init_15 : decode cX7_init 15 = .ok (.newarray .int, 2) := by decide +kernel
theorem dX7_init_17 : decode cX7_init 17 = .ok (.putfield 15, 3) := by decide +kernel
theorem dX7_init_20 : decode cX7_init 20 = .ok (.aload_n 0, 1) := by decide +kernel
theorem dX7_init_21 : decode cX7_init 21 = .ok (.bipush 10, 2) := by decide +kernel
theorem dX7_init_23 : decode cX7_init 23 = .ok (.newarray .int, 2) := by decide +kernel
theorem dX7_init_25 : decode cX7_init 25 = .ok (.putfield 18, 3) := by decide +kernel
theorem dX7_init_28 : decode cX7_init 28 = .ok (.aload_n 0, 1) := by decide +kernel
theorem dX7_init_29 : decode cX7_init 29 = .ok (.aload_n 1, 1) := by decide +kernel
theorem dX7_init_30 : decode cX7_init 30 = .ok (.putfield 21, 3) := by decide +kernel
theorem dX7_init_33 : decode cX7_init 33 = .ok (.return_, 1) := by decide +kernel
theorem dX7_start_0 : decode cX7_start 0 = .ok (.aload_n 0, 1) := by decide +kernel
theorem dX7_start_1 : decode cX7_start 1 = .ok (.getfield 21, 3) := by decide +kernel
theorem dX7_start_4 : decode cX7_start 4 = .ok (.invokevirtual 25, 3) := by decide +kernel
theorem dX7_start_7 : decode cX7_start 7 = .ok (.lstore_n 2, 1) := by decide +kernel
theorem dX7_start_8 : decode cX7_start 8 = .ok (.lload_n 2, 1) := by decide +kernel
theorem dX7_start_9 : decode cX7_start 9 = .ok (.ldc2_w 31, 3) := by decide +kernel
theorem dX7_start_12 : decode cX7_start 12 = .ok (.lcmp, 1) := by decide +kernel
theorem dX7_start_13 : decode cX7_start 13 = .ok (.ifCond .le 5, 3) := by decide +kernel
theorem dX7_start_18 : decode cX7_start 18 = .ok (.aload_n 0, 1) := by decide +kernel
theorem dX7_start_19 : decode cX7_start 19 = .ok (.lload_n 2, 1) := by decide +kernel
theorem dX7_start_20 : decode cX7_start 20 = .ok (.l2i, 1) := by decide +kernel
theorem dX7_start_21 : decode cX7_start 21 = .ok (.putfield 33, 3) := by decide +kernel
theorem dX7_start_24 : decode cX7_start 24 = .ok (.aload_n 0, 1) := by decide +kernel
theorem dX7_start_25 : decode cX7_start 25 = .ok (.iconst 0, 1) := by decide +kernel
theorem dX7_start_26 : decode cX7_start 26 = .ok (.putfield 37, 3) := by decide +kernel
theorem dX7_start_29 : decode cX7_start 29 = .ok (.iconst 0, 1) := by decide +kernel
theorem dX7_start_30 : decode cX7_start 30 = .ok (.istore 4, 2) := by decide +kernel
theorem dX7_start_32 : decode cX7_start 32 = .ok (.iload 4, 2) := by decide +kernel
theorem dX7_start_34 : decode cX7_start 34 = .ok (.bipush 6, 2) := by decide +kernel
theorem dX7_start_36 : decode cX7_start 36 = .ok (.if_icmp .ge 42, 3) := by decide +kernel
theorem dX7_start_39 : decode cX7_start 39 = .ok (.aload_n 0, 1) := by decide +kernel
theorem dX7_start_40 : decode cX7_start 40 = .ok (.getfield 9, 3) := by decide +kernel
theorem dX7_start_43 : decode cX7_start 43 = .ok (.iload 4, 2) := by decide +kernel
theorem dX7_start_45 : decode cX7_start 45 = .ok (.aload_n 0, 1) := by decide +kernel
theorem dX7_start_46 : decode cX7_start 46 = .ok (.getfield 21, 3) := by decide +kernel
theorem dX7_start_49 : decode cX7_start 49 = .ok (.iload 4, 2) := by decide +kernel
theorem dX7_start_51 : decode cX7_start 51 = .ok (.invokevirtual 40, 3) := by decide +kernel
theorem dX7_start_54 : decode cX7_start 54 = .ok (.ifCond .eq 16, 3) := by decide +kernel
theorem dX7_start_70 : decode cX7_start 70 = .ok (.iconst 0, 1) := by decide +kernel
theorem dX7_start_71 : decode cX7_start 71 = .ok (.iastore, 1) := by decide +kernel
theorem dX7_start_72 : decode cX7_start 72 = .ok (.iinc 4 1, 3) := by decide +kernel
theorem dX7_start_75 : decode cX7_start 75 = .ok (.goto (-43), 3) := by decide +kernel
theorem dX7_start_78 : decode cX7_start 78 = .ok (.aload_n 0, 1) := by decide +kernel
theorem dX7_start_79 : decode cX7_start 79 = .ok (.iconst 0, 1) := by decide +kernel
theorem dX7_start_80 : decode cX7_start 80 = .ok (.putfield 47, 3) := by decide +kernel
theorem dX7_start_83 : decode cX7_start 83 = .ok (.iconst 0, 1) := by decide +kernel
theorem dX7_start_84 : decode cX7_start 84 = .ok (.istore 4, 2) := by decide +kernel
theorem dX7_start_86 : decode cX7_start 86 = .ok (.iload 4, 2) := by decide +kernel
theorem dX7_start_88 : decode cX7_start 88 = .ok (.bipush 10, 2) := by decide +kernel
theorem dX7_start_90 : decode cX7_start 90 = .ok (.if_icmp .ge 65, 3) := by decide +kernel
theorem dX7_start_93 : decode cX7_start 93 = .ok (.iload_n 1, 1) := by decide +kernel
theorem dX7_start_94 : decode cX7_start 94 = .ok (.iload 4, 2) := by decide +kernel
theorem dX7_start_96 : decode cX7_start 96 = .ok (.ishr, 1) := by decide +kernel
theorem dX7_start_97 : decode cX7_start 97 = .ok (.iconst 1, 1) := by decide +kernel
theorem dX7_start_98 : decode cX7_start 98 = .ok (.iand, 1) := by decide +kernel
theorem dX7_start_99 : decode cX7_start 99 = .ok (.ifCond .eq 50, 3) := by decide +kernel
theorem dX7_start_149 : decode cX7_start 149 = .ok (.iinc 4 1, 3) := by decide +kernel
theorem dX7_start_152 : decode cX7_start 152 = .ok (.goto (-66), 3) := by decide +kernel
theorem dX7_start_155 : decode cX7_start 155 = .ok (.iconst 1, 1) := by decide +kernel
theorem dX7_start_156 : decode cX7_start 156 = .ok (.ireturn, 1) := by decide +kernel
theorem dX7_seek_0 : decode cX7_seek 0 = .ok (.aload_n 0, 1) := by decide +kernel
theorem dX7_seek_1 : decode cX7_seek 1 = .ok (.iload_n 1, 1) := by decide +kernel
theorem dX7_seek_2 : decode cX7_seek 2 = .ok (.invokevirtual 60, 3) := by decide +kernel
theorem dX7_seek_5 : decode cX7_seek 5 = .ok (.ifCond .ne 6, 3) := by decide +kernel
theorem dX7_seek_11 : decode cX7_seek 11 = .ok (.aload_n 0, 1) := by decide +kernel
theorem dX7_seek_12 : decode cX7_seek 12 = .ok (.invokevirtual 63, 3) := by decide +kernel
theorem dX7_seek_15 : decode cX7_seek 15 = .ok (.ifCond .eq 7, 3) := by decide +kernel
theorem dX7_seek_18 : decode cX7_seek 18 = .ok (.iconst 0, 1) := by decide +kernel
theorem dX7_seek_19 : decode cX7_seek 19 = .ok (.goto 5, 3) := by decide +kernel
theorem dX7_seek_24 : decode cX7_seek 24 = .ok (.ireturn, 1) := by decide +kernel
theorem dX7_next_0 : decode cX7_next 0 = .ok (.iconst 0, 1) := by decide +kernel
theorem dX7_next_1 : decode cX7_next 1 = .ok (.istore_n 1, 1) := by decide +kernel
theorem dX7_next_2 : decode cX7_next 2 = .ok (.iload_n 1, 1) := by decide +kernel
theorem dX7_next_3 : decode cX7_next 3 = .ok (.ldc 67, 2) := by decide +kernel
theorem dX7_next_5 : decode cX7_next 5 = .ok (.if_icmp .ge 25, 3) := by decide +kernel
theorem dX7_next_8 : decode cX7_next 8 = .ok (.aload_n 0, 1) := by decide +kernel
theorem dX7_next_9 : decode cX7_next 9 = .ok (.invokevirtual 68, 3) := by decide +kernel
theorem dX7_next_12 : decode cX7_next 12 = .ok (.ifCond .eq 18, 3) := by decide +kernel
theorem dX7_next_15 : decode cX7_next 15 = .ok (.aload_n 0, 1) := by decide +kernel
theorem dX7_next_16 : decode cX7_next 16 = .ok (.invokevirtual 71, 3) := by decide +kernel
theorem dX7_next_19 : decode cX7_next 19 = .ok (.ifCond .eq 5, 3) := by decide +kernel
theorem dX7_next_22 : decode cX7_next 22 = .ok (.iconst 1, 1) := by decide +kernel
theorem dX7_next_23 : decode cX7_next 23 = .ok (.ireturn, 1) := by decide +kernel
theorem dX7_next_30 : decode cX7_next 30 = .ok (.iconst 0, 1) := by decide +kernel
theorem dX7_next_31 : decode cX7_next 31 = .ok (.ireturn, 1) := by decide +kernel
theorem dX7_move_0 : decode cX7_move 0 = .ok (.aload_n 0, 1) := by decide +kernel
theorem dX7_move_1 : decode cX7_move 1 = .ok (.getfield 37, 3) := by decide +kernel
theorem dX7_move_4 : decode cX7_move 4 = .ok (.aload_n 0, 1) := by decide +kernel
theorem dX7_move_5 : decode cX7_move 5 = .ok (.getfield 33, 3) := by decide +kernel
theorem dX7_move_8 : decode cX7_move 8 = .ok (.if_icmp .lt 5, 3) := by decide +kernel
theorem dX7_move_11 : decode cX7_move 11 = .ok (.iconst 0, 1) := by decide +kernel
theorem dX7_move_12 : decode cX7_move 12 = .ok (.ireturn, 1) := by decide +kernel
theorem dX7_move_13 : decode cX7_move 13 = .ok (.aload_n 0, 1) := by decide +kernel
theorem dX7_move_14 : decode cX7_move 14 = .ok (.getfield 37, 3) := by decide +kernel
theorem dX7_move_17 : decode cX7_move 17 = .ok (.ifCond .le 7, 3) := by decide +kernel
theorem dX7_move_24 : decode cX7_move 24 = .ok (.aload_n 0, 1) := by decide +kernel
theorem dX7_move_25 : decode cX7_move 25 = .ok (.dup, 1) := by decide +kernel
theorem dX7_move_26 : decode cX7_move 26 = .ok (.getfield 37, 3) := by decide +kernel
theorem dX7_move_29 : decode cX7_move 29 = .ok (.iconst 1, 1) := by decide +kernel
theorem dX7_move_30 : decode cX7_move 30 = .ok (.iadd, 1) := by decide +kernel
theorem dX7_move_31 : decode cX7_move 31 = .ok (.putfield 37, 3) := by decide +kernel
theorem dX7_move_34 : decode cX7_move 34 = .ok (.iconst 1, 1) := by decide +kernel
theorem dX7_move_35 : decode cX7_move 35 = .ok (.ireturn, 1) := by decide +kernel
theorem dX7_allHold_0 : decode cX7_allHold 0 = .ok (.iconst 0, 1) := by decide +kernel
theorem dX7_allHold_1 : decode cX7_allHold 1 = .ok (.istore_n 1, 1) := by decide +kernel
theorem dX7_allHold_2 : decode cX7_allHold 2 = .ok (.iload_n 1, 1) := by decide +kernel
theorem dX7_allHold_3 : decode cX7_allHold 3 = .ok (.aload_n 0, 1) := by decide +kernel
theorem dX7_allHold_4 : decode cX7_allHold 4 = .ok (.getfield 47, 3) := by decide +kernel
theorem dX7_allHold_7 : decode cX7_allHold 7 = .ok (.if_icmp .ge 37, 3) := by decide +kernel
theorem dX7_allHold_44 : decode cX7_allHold 44 = .ok (.iconst 1, 1) := by decide +kernel
theorem dX7_allHold_45 : decode cX7_allHold 45 = .ok (.ireturn, 1) := by decide +kernel
theorem dX7_holding_0 : decode cX7_holding 0 = .ok (.iconst 0, 1) := by decide +kernel
theorem dX7_holding_1 : decode cX7_holding 1 = .ok (.istore_n 1, 1) := by decide +kernel
theorem dX7_holding_2 : decode cX7_holding 2 = .ok (.iconst 0, 1) := by decide +kernel
theorem dX7_holding_3 : decode cX7_holding 3 = .ok (.istore_n 2, 1) := by decide +kernel
theorem dX7_holding_4 : decode cX7_holding 4 = .ok (.iload_n 2, 1) := by decide +kernel
theorem dX7_holding_5 : decode cX7_holding 5 = .ok (.aload_n 0, 1) := by decide +kernel
theorem dX7_holding_6 : decode cX7_holding 6 = .ok (.getfield 47, 3) := by decide +kernel
theorem dX7_holding_9 : decode cX7_holding 9 = .ok (.if_icmp .ge 46, 3) := by decide +kernel
theorem dX7_holding_55 : decode cX7_holding 55 = .ok (.iload_n 1, 1) := by decide +kernel
theorem dX7_holding_56 : decode cX7_holding 56 = .ok (.ireturn, 1) := by decide +kernel
theorem dX7_offByOne_0 : decode cX7_offByOne 0 = .ok (.iconst 0, 1) := by decide +kernel
theorem dX7_offByOne_1 : decode cX7_offByOne 1 = .ok (.istore_n 1, 1) := by decide +kernel
theorem dX7_offByOne_2 : decode cX7_offByOne 2 = .ok (.iconst 0, 1) := by decide +kernel
theorem dX7_offByOne_3 : decode cX7_offByOne 3 = .ok (.istore_n 2, 1) := by decide +kernel
theorem dX7_offByOne_4 : decode cX7_offByOne 4 = .ok (.iload_n 2, 1) := by decide +kernel
theorem dX7_offByOne_5 : decode cX7_offByOne 5 = .ok (.aload_n 0, 1) := by decide +kernel
theorem dX7_offByOne_6 : decode cX7_offByOne 6 = .ok (.getfield 47, 3) := by decide +kernel
theorem dX7_offByOne_9 : decode cX7_offByOne 9 = .ok (.if_icmp .ge 77, 3) := by decide +kernel
theorem dX7_offByOne_86 : decode cX7_offByOne 86 = .ok (.iload_n 1, 1) := by decide +kernel
theorem dX7_offByOne_87 : decode cX7_offByOne 87 = .ok (.ireturn, 1) := by decide +kernel
theorem dX8_init_0 : decode cX8_init 0 = .ok (.aload_n 0, 1) := by decide +kernel
theorem dX8_init_1 : decode cX8_init 1 = .ok (.invokespecial 3, 3) := by decide +kernel
theorem dX8_init_4 : decode cX8_init 4 = .ok (.aload_n 0, 1) := by decide +kernel
theorem dX8_init_5 : decode cX8_init 5 = .ok (.bipush 6, 2) := by decide +kernel
theorem dX8_init_7 : decode cX8_init 7 = .ok (.newarray .int, 2) := by decide +kernel
theorem dX8_init_9 : decode cX8_init 9 = .ok (.putfield 9, 3) := by decide +kernel
theorem dX8_init_12 : decode cX8_init 12 = .ok (.return_, 1) := by decide +kernel
theorem dX8_find_0 : decode cX8_find 0 = .ok (.aload_n 0, 1) := by decide +kernel
theorem dX8_find_1 : decode cX8_find 1 = .ok (.bipush 61, 2) := by decide +kernel
theorem dX8_find_3 : decode cX8_find 3 = .ok (.putfield 15, 3) := by decide +kernel
theorem dX8_find_6 : decode cX8_find 6 = .ok (.iconst 0, 1) := by decide +kernel
theorem dX8_find_7 : decode cX8_find 7 = .ok (.istore_n 3, 1) := by decide +kernel
theorem dX8_find_8 : decode cX8_find 8 = .ok (.iload_n 3, 1) := by decide +kernel
theorem dX8_find_9 : decode cX8_find 9 = .ok (.bipush 6, 2) := by decide +kernel
theorem dX8_find_11 : decode cX8_find 11 = .ok (.if_icmp .ge 27, 3) := by decide +kernel
theorem dX8_find_14 : decode cX8_find 14 = .ok (.aload_n 0, 1) := by decide +kernel
theorem dX8_find_15 : decode cX8_find 15 = .ok (.getfield 9, 3) := by decide +kernel
theorem dX8_find_18 : decode cX8_find 18 = .ok (.iload_n 3, 1) := by decide +kernel
theorem dX8_find_19 : decode cX8_find 19 = .ok (.aload_n 1, 1) := by decide +kernel
theorem dX8_find_20 : decode cX8_find 20 = .ok (.iconst 0, 1) := by decide +kernel
theorem dX8_find_21 : decode cX8_find 21 = .ok (.iload_n 3, 1) := by decide +kernel
theorem dX8_find_22 : decode cX8_find 22 = .ok (.invokevirtual 19, 3) := by decide +kernel
theorem dX8_find_25 : decode cX8_find 25 = .ok (.aload_n 2, 1) := by decide +kernel
theorem dX8_find_26 : decode cX8_find 26 = .ok (.iload_n 3, 1) := by decide +kernel
theorem dX8_find_27 : decode cX8_find 27 = .ok (.invokevirtual 25, 3) := by decide +kernel
theorem dX8_find_30 : decode cX8_find 30 = .ok (.iadd, 1) := by decide +kernel
theorem dX8_find_31 : decode cX8_find 31 = .ok (.iastore, 1) := by decide +kernel
theorem dX8_find_32 : decode cX8_find 32 = .ok (.iinc 3 1, 3) := by decide +kernel
theorem dX8_find_35 : decode cX8_find 35 = .ok (.goto (-27), 3) := by decide +kernel
theorem dX8_find_38 : decode cX8_find 38 = .ok (.iconst 0, 1) := by decide +kernel
theorem dX8_find_39 : decode cX8_find 39 = .ok (.istore_n 3, 1) := by decide +kernel
theorem dX8_find_40 : decode cX8_find 40 = .ok (.iload_n 3, 1) := by decide +kernel
theorem dX8_find_41 : decode cX8_find 41 = .ok (.bipush 6, 2) := by decide +kernel
theorem dX8_find_43 : decode cX8_find 43 = .ok (.if_icmp .ge 32, 3) := by decide +kernel
theorem dX8_find_46 : decode cX8_find 46 = .ok (.aload_n 2, 1) := by decide +kernel
theorem dX8_find_47 : decode cX8_find 47 = .ok (.iload_n 3, 1) := by decide +kernel
theorem dX8_find_48 : decode cX8_find 48 = .ok (.invokevirtual 31, 3) := by decide +kernel
theorem dX8_find_51 : decode cX8_find 51 = .ok (.ifCond .eq 18, 3) := by decide +kernel
theorem dX8_find_69 : decode cX8_find 69 = .ok (.iinc 3 1, 3) := by decide +kernel
theorem dX8_find_72 : decode cX8_find 72 = .ok (.goto (-32), 3) := by decide +kernel
theorem dX8_find_75 : decode cX8_find 75 = .ok (.aload_n 0, 1) := by decide +kernel
theorem dX8_find_76 : decode cX8_find 76 = .ok (.aload_n 1, 1) := by decide +kernel
theorem dX8_find_77 : decode cX8_find 77 = .ok (.aload_n 2, 1) := by decide +kernel
theorem dX8_find_78 : decode cX8_find 78 = .ok (.iconst 1, 1) := by decide +kernel
theorem dX8_find_79 : decode cX8_find 79 = .ok (.invokevirtual 39, 3) := by decide +kernel
theorem dX8_find_82 : decode cX8_find 82 = .ok (.aload_n 0, 1) := by decide +kernel
theorem dX8_find_83 : decode cX8_find 83 = .ok (.aload_n 1, 1) := by decide +kernel
theorem dX8_find_84 : decode cX8_find 84 = .ok (.aload_n 2, 1) := by decide +kernel
theorem dX8_find_85 : decode cX8_find 85 = .ok (.iconst 2, 1) := by decide +kernel
theorem dX8_find_86 : decode cX8_find 86 = .ok (.invokevirtual 39, 3) := by decide +kernel
theorem dX8_find_89 : decode cX8_find 89 = .ok (.aload_n 0, 1) := by decide +kernel
theorem dX8_find_90 : decode cX8_find 90 = .ok (.getfield 15, 3) := by decide +kernel
theorem dX8_find_93 : decode cX8_find 93 = .ok (.bipush 60, 2) := by decide +kernel
theorem dX8_find_95 : decode cX8_find 95 = .ok (.if_icmp .gt 7, 3) := by decide +kernel
theorem dX8_find_102 : decode cX8_find 102 = .ok (.iconst 0, 1) := by decide +kernel
theorem dX8_find_103 : decode cX8_find 103 = .ok (.ireturn, 1) := by decide +kernel
theorem dX8_offerPairs_0 : decode cX8_offerPairs 0 = .ok (.iconst 0, 1) := by decide +kernel
theorem dX8_offerPairs_1 : decode cX8_offerPairs 1 = .ok (.istore 4, 2) := by decide +kernel
theorem dX8_offerPairs_3 : decode cX8_offerPairs 3 = .ok (.iload 4, 2) := by decide +kernel
theorem dX8_offerPairs_5 : decode cX8_offerPairs 5 = .ok (.bipush 6, 2) := by decide +kernel
theorem dX8_offerPairs_7 : decode cX8_offerPairs 7 = .ok (.if_icmp .ge 88, 3) := by decide +kernel
theorem dX8_offerPairs_10 : decode cX8_offerPairs 10 = .ok (.iconst 0, 1) := by decide +kernel
theorem dX8_offerPairs_11 : decode cX8_offerPairs 11 = .ok (.istore 5, 2) := by decide +kernel
theorem dX8_offerPairs_13 : decode cX8_offerPairs 13 = .ok (.iload 5, 2) := by decide +kernel
theorem dX8_offerPairs_15 : decode cX8_offerPairs 15 = .ok (.bipush 6, 2) := by decide +kernel
theorem dX8_offerPairs_17 : decode cX8_offerPairs 17 = .ok (.if_icmp .ge 72, 3) := by decide +kernel
theorem dX8_offerPairs_20 : decode cX8_offerPairs 20 = .ok (.iload_n 3, 1) := by decide +kernel
theorem dX8_offerPairs_21 : decode cX8_offerPairs 21 = .ok (.aload_n 0, 1) := by decide +kernel
theorem dX8_offerPairs_22 : decode cX8_offerPairs 22 = .ok (.getfield 9, 3) := by decide +kernel
theorem dX8_offerPairs_25 : decode cX8_offerPairs 25 = .ok (.iload 4, 2) := by decide +kernel
theorem dX8_offerPairs_27 : decode cX8_offerPairs 27 = .ok (.iaload, 1) := by decide +kernel
theorem dX8_offerPairs_28 : decode cX8_offerPairs 28 = .ok (.aload_n 0, 1) := by decide +kernel
theorem dX8_offerPairs_29 : decode cX8_offerPairs 29 = .ok (.getfield 9, 3) := by decide +kernel
theorem dX8_offerPairs_32 : decode cX8_offerPairs 32 = .ok (.iload 5, 2) := by decide +kernel
theorem dX8_offerPairs_34 : decode cX8_offerPairs 34 = .ok (.iaload, 1) := by decide +kernel
theorem dX8_offerPairs_35 : decode cX8_offerPairs 35 = .ok (.invokestatic 43, 3) := by decide +kernel
theorem dX8_offerPairs_38 : decode cX8_offerPairs 38 = .ok (.istore 6, 2) := by decide +kernel
theorem dX8_offerPairs_40 : decode cX8_offerPairs 40 = .ok (.aload_n 2, 1) := by decide +kernel
theorem dX8_offerPairs_41 : decode cX8_offerPairs 41 = .ok (.iload 4, 2) := by decide +kernel
theorem dX8_offerPairs_43 : decode cX8_offerPairs 43 = .ok (.invokevirtual 31, 3) := by decide +kernel
theorem dX8_offerPairs_46 : decode cX8_offerPairs 46 = .ok (.ifCond .eq 37, 3) := by decide +kernel
theorem dX8_offerPairs_83 : decode cX8_offerPairs 83 = .ok (.iinc 5 1, 3) := by decide +kernel
theorem dX8_offerPairs_86 : decode cX8_offerPairs 86 = .ok (.goto (-73), 3) := by decide +kernel
theorem dX8_offerPairs_89 : decode cX8_offerPairs 89 = .ok (.iinc 4 1, 3) := by decide +kernel
theorem dX8_offerPairs_92 : decode cX8_offerPairs 92 = .ok (.goto (-89), 3) := by decide +kernel
theorem dX8_offerPairs_95 : decode cX8_offerPairs 95 = .ok (.return_, 1) := by decide +kernel
theorem dX8_numberBetween_0 : decode cX8_numberBetween 0 = .ok (.iload_n 0, 1) := by decide +kernel
theorem dX8_numberBetween_1 : decode cX8_numberBetween 1 = .ok (.iconst 1, 1) := by decide +kernel
theorem dX8_numberBetween_2 : decode cX8_numberBetween 2 = .ok (.if_icmp .ne 16, 3) := by decide +kernel
theorem dX8_numberBetween_5 : decode cX8_numberBetween 5 = .ok (.iload_n 1, 1) := by decide +kernel
theorem dX8_numberBetween_6 : decode cX8_numberBetween 6 = .ok (.iload_n 2, 1) := by decide +kernel
theorem dX8_numberBetween_7 : decode cX8_numberBetween 7 = .ok (.if_icmp .le 9, 3) := by decide +kernel
theorem dX8_numberBetween_10 : decode cX8_numberBetween 10 = .ok (.iload_n 1, 1) := by decide +kernel
theorem dX8_numberBetween_11 : decode cX8_numberBetween 11 = .ok (.iload_n 2, 1) := by decide +kernel
theorem dX8_numberBetween_12 : decode cX8_numberBetween 12 = .ok (.isub, 1) := by decide +kernel
theorem dX8_numberBetween_13 : decode cX8_numberBetween 13 = .ok (.goto 4, 3) := by decide +kernel
theorem dX8_numberBetween_16 : decode cX8_numberBetween 16 = .ok (.iconst (-1), 1) := by decide +kernel
theorem dX8_numberBetween_17 : decode cX8_numberBetween 17 = .ok (.ireturn, 1) := by decide +kernel
theorem dX8_numberBetween_18 : decode cX8_numberBetween 18 = .ok (.iload_n 2, 1) := by decide +kernel
theorem dX8_numberBetween_19 : decode cX8_numberBetween 19 = .ok (.ifCond .le 9, 3) := by decide +kernel
theorem dX8_numberBetween_22 : decode cX8_numberBetween 22 = .ok (.iload_n 1, 1) := by decide +kernel
theorem dX8_numberBetween_23 : decode cX8_numberBetween 23 = .ok (.iload_n 2, 1) := by decide +kernel
theorem dX8_numberBetween_24 : decode cX8_numberBetween 24 = .ok (.irem, 1) := by decide +kernel
theorem dX8_numberBetween_25 : decode cX8_numberBetween 25 = .ok (.ifCond .eq 5, 3) := by decide +kernel
theorem dX8_numberBetween_28 : decode cX8_numberBetween 28 = .ok (.iconst (-1), 1) := by decide +kernel
theorem dX8_numberBetween_29 : decode cX8_numberBetween 29 = .ok (.ireturn, 1) := by decide +kernel
theorem dX8_numberBetween_30 : decode cX8_numberBetween 30 = .ok (.iload_n 1, 1) := by decide +kernel
theorem dX8_numberBetween_31 : decode cX8_numberBetween 31 = .ok (.iload_n 2, 1) := by decide +kernel
theorem dX8_numberBetween_32 : decode cX8_numberBetween 32 = .ok (.idiv, 1) := by decide +kernel
theorem dX8_numberBetween_33 : decode cX8_numberBetween 33 = .ok (.istore_n 3, 1) := by decide +kernel
theorem dX8_numberBetween_34 : decode cX8_numberBetween 34 = .ok (.iload_n 3, 1) := by decide +kernel
theorem dX8_numberBetween_35 : decode cX8_numberBetween 35 = .ok (.iconst 2, 1) := by decide +kernel
theorem dX8_numberBetween_36 : decode cX8_numberBetween 36 = .ok (.if_icmp .lt 13, 3) := by decide +kernel
theorem dX8_numberBetween_39 : decode cX8_numberBetween 39 = .ok (.iload_n 3, 1) := by decide +kernel
theorem dX8_numberBetween_40 : decode cX8_numberBetween 40 = .ok (.bipush 99, 2) := by decide +kernel
theorem dX8_numberBetween_42 : decode cX8_numberBetween 42 = .ok (.if_icmp .gt 7, 3) := by decide +kernel
theorem dX8_numberBetween_45 : decode cX8_numberBetween 45 = .ok (.iload_n 3, 1) := by decide +kernel
theorem dX8_numberBetween_46 : decode cX8_numberBetween 46 = .ok (.goto 4, 3) := by decide +kernel
theorem dX8_numberBetween_49 : decode cX8_numberBetween 49 = .ok (.iconst (-1), 1) := by decide +kernel
theorem dX8_numberBetween_50 : decode cX8_numberBetween 50 = .ok (.ireturn, 1) := by decide +kernel
theorem dX9_init_0 : decode cX9_init 0 = .ok (.aload_n 0, 1) := by decide +kernel
theorem dX9_init_1 : decode cX9_init 1 = .ok (.invokespecial 3, 3) := by decide +kernel
theorem dX9_init_4 : decode cX9_init 4 = .ok (.aload_n 0, 1) := by decide +kernel
theorem dX9_init_5 : decode cX9_init 5 = .ok (.bipush 6, 2) := by decide +kernel
theorem dX9_init_7 : decode cX9_init 7 = .ok (.newarray .int, 2) := by decide +kernel
theorem dX9_init_9 : decode cX9_init 9 = .ok (.putfield 9, 3) := by decide +kernel
theorem dX9_init_12 : decode cX9_init 12 = .ok (.aload_n 0, 1) := by decide +kernel
theorem dX9_init_13 : decode cX9_init 13 = .ok (.bipush 6, 2) := by decide +kernel
theorem dX9_init_15 : decode cX9_init 15 = .ok (.newarray .int, 2) := by decide +kernel
theorem dX9_init_17 : decode cX9_init 17 = .ok (.putfield 15, 3) := by decide +kernel
theorem dX9_init_20 : decode cX9_init 20 = .ok (.aload_n 0, 1) := by decide +kernel
theorem dX9_init_21 : decode cX9_init 21 = .ok (.bipush 6, 2) := by decide +kernel
theorem dX9_init_23 : decode cX9_init 23 = .ok (.newarray .int, 2) := by decide +kernel
theorem dX9_init_25 : decode cX9_init 25 = .ok (.putfield 18, 3) := by decide +kernel
theorem dX9_init_28 : decode cX9_init 28 = .ok (.aload_n 0, 1) := by decide +kernel
theorem dX9_init_29 : decode cX9_init 29 = .ok (.bipush 36, 2) := by decide +kernel
theorem dX9_init_31 : decode cX9_init 31 = .ok (.newarray .int, 2) := by decide +kernel
theorem dX9_init_33 : decode cX9_init 33 = .ok (.putfield 21, 3) := by decide +kernel
theorem dX9_init_36 : decode cX9_init 36 = .ok (.aload_n 0, 1) := by decide +kernel
theorem dX9_init_37 : decode cX9_init 37 = .ok (.bipush 16, 2) := by decide +kernel
theorem dX9_init_39 : decode cX9_init 39 = .ok (.anewarray 24, 3) := by decide +kernel
theorem dX9_init_42 : decode cX9_init 42 = .ok (.putfield 26, 3) := by decide +kernel
theorem dX9_init_45 : decode cX9_init 45 = .ok (.aload_n 0, 1) := by decide +kernel
theorem dX9_init_46 : decode cX9_init 46 = .ok (.getfield 21, 3) := by decide +kernel
theorem dX9_init_49 : decode cX9_init 49 = .ok (.iconst (-1), 1) := by decide +kernel
theorem dX9_init_50 : decode cX9_init 50 = .ok (.invokestatic 30, 3) := by decide +kernel
theorem dX9_init_53 : decode cX9_init 53 = .ok (.aload_n 0, 1) := by decide +kernel
theorem dX9_init_54 : decode cX9_init 54 = .ok (.getfield 18, 3) := by decide +kernel
theorem dX9_init_57 : decode cX9_init 57 = .ok (.bipush 100, 2) := by decide +kernel
theorem dX9_init_59 : decode cX9_init 59 = .ok (.invokestatic 30, 3) := by decide +kernel
theorem dX9_init_62 : decode cX9_init 62 = .ok (.iconst 0, 1) := by decide +kernel
theorem dX9_init_63 : decode cX9_init 63 = .ok (.istore_n 1, 1) := by decide +kernel
theorem dX9_init_64 : decode cX9_init 64 = .ok (.iload_n 1, 1) := by decide +kernel
theorem dX9_init_65 : decode cX9_init 65 = .ok (.bipush 16, 2) := by decide +kernel
theorem dX9_init_67 : decode cX9_init 67 = .ok (.if_icmp .ge 22, 3) := by decide +kernel
theorem dX9_init_70 : decode cX9_init 70 = .ok (.aload_n 0, 1) := by decide +kernel
theorem dX9_init_71 : decode cX9_init 71 = .ok (.getfield 26, 3) := by decide +kernel
theorem dX9_init_74 : decode cX9_init 74 = .ok (.iload_n 1, 1) := by decide +kernel
theorem dX9_init_75 : decode cX9_init 75 = .ok (.new 24, 3) := by decide +kernel
theorem dX9_init_78 : decode cX9_init 78 = .ok (.dup, 1) := by decide +kernel
theorem dX9_init_79 : decode cX9_init 79 = .ok (.invokespecial 36, 3) := by decide +kernel
theorem dX9_init_82 : decode cX9_init 82 = .ok (.aastore, 1) := by decide +kernel
theorem dX9_init_83 : decode cX9_init 83 = .ok (.iinc 1 1, 3) := by decide +kernel
theorem dX9_init_86 : decode cX9_init 86 = .ok (.goto (-22), 3) := by decide +kernel
theorem dX9_init_89 : decode cX9_init 89 = .ok (.return_, 1) := by decide +kernel
theorem dX9_become_0 : decode cX9_become 0 = .ok (.aload_n 1, 1) := by decide +kernel
theorem dX9_become_1 : decode cX9_become 1 = .ok (.getfield 9, 3) := by decide +kernel
theorem dX9_become_4 : decode cX9_become 4 = .ok (.iconst 0, 1) := by decide +kernel
theorem dX9_become_5 : decode cX9_become 5 = .ok (.aload_n 0, 1) := by decide +kernel
theorem dX9_become_6 : decode cX9_become 6 = .ok (.getfield 9, 3) := by decide +kernel
theorem dX9_become_9 : decode cX9_become 9 = .ok (.iconst 0, 1) := by decide +kernel
theorem dX9_become_10 : decode cX9_become 10 = .ok (.bipush 6, 2) := by decide +kernel
theorem dX9_become_12 : decode cX9_become 12 = .ok (.invokestatic 37, 3) := by decide +kernel
theorem dX9_become_15 : decode cX9_become 15 = .ok (.aload_n 1, 1) := by decide +kernel
theorem dX9_become_16 : decode cX9_become 16 = .ok (.getfield 15, 3) := by decide +kernel
theorem dX9_become_19 : decode cX9_become 19 = .ok (.iconst 0, 1) := by decide +kernel
theorem dX9_become_20 : decode cX9_become 20 = .ok (.aload_n 0, 1) := by decide +kernel
theorem dX9_become_21 : decode cX9_become 21 = .ok (.getfield 15, 3) := by decide +kernel
theorem dX9_become_24 : decode cX9_become 24 = .ok (.iconst 0, 1) := by decide +kernel
theorem dX9_become_25 : decode cX9_become 25 = .ok (.bipush 6, 2) := by decide +kernel
theorem dX9_become_27 : decode cX9_become 27 = .ok (.invokestatic 37, 3) := by decide +kernel
theorem dX9_become_30 : decode cX9_become 30 = .ok (.aload_n 1, 1) := by decide +kernel
theorem dX9_become_31 : decode cX9_become 31 = .ok (.getfield 18, 3) := by decide +kernel
theorem dX9_become_34 : decode cX9_become 34 = .ok (.iconst 0, 1) := by decide +kernel
theorem dX9_become_35 : decode cX9_become 35 = .ok (.aload_n 0, 1) := by decide +kernel
theorem dX9_become_36 : decode cX9_become 36 = .ok (.getfield 18, 3) := by decide +kernel
theorem dX9_become_39 : decode cX9_become 39 = .ok (.iconst 0, 1) := by decide +kernel
theorem dX9_become_40 : decode cX9_become 40 = .ok (.bipush 6, 2) := by decide +kernel
theorem dX9_become_42 : decode cX9_become 42 = .ok (.invokestatic 37, 3) := by decide +kernel
theorem dX9_become_45 : decode cX9_become 45 = .ok (.aload_n 1, 1) := by decide +kernel
theorem dX9_become_46 : decode cX9_become 46 = .ok (.getfield 21, 3) := by decide +kernel
theorem dX9_become_49 : decode cX9_become 49 = .ok (.iconst 0, 1) := by decide +kernel
theorem dX9_become_50 : decode cX9_become 50 = .ok (.aload_n 0, 1) := by decide +kernel
theorem dX9_become_51 : decode cX9_become 51 = .ok (.getfield 21, 3) := by decide +kernel
theorem dX9_become_54 : decode cX9_become 54 = .ok (.iconst 0, 1) := by decide +kernel
theorem dX9_become_55 : decode cX9_become 55 = .ok (.bipush 36, 2) := by decide +kernel
theorem dX9_become_57 : decode cX9_become 57 = .ok (.invokestatic 37, 3) := by decide +kernel
theorem dX9_become_60 : decode cX9_become 60 = .ok (.iconst 0, 1) := by decide +kernel
theorem dX9_become_61 : decode cX9_become 61 = .ok (.istore_n 2, 1) := by decide +kernel
theorem dX9_become_62 : decode cX9_become 62 = .ok (.iload_n 2, 1) := by decide +kernel
theorem dX9_become_63 : decode cX9_become 63 = .ok (.bipush 16, 2) := by decide +kernel
theorem dX9_become_65 : decode cX9_become 65 = .ok (.if_icmp .ge 24, 3) := by decide +kernel
theorem dX9_become_68 : decode cX9_become 68 = .ok (.aload_n 0, 1) := by decide +kernel
theorem dX9_become_69 : decode cX9_become 69 = .ok (.getfield 26, 3) := by decide +kernel
theorem dX9_become_72 : decode cX9_become 72 = .ok (.iload_n 2, 1) := by decide +kernel
theorem dX9_become_73 : decode cX9_become 73 = .ok (.aaload, 1) := by decide +kernel
theorem dX9_become_74 : decode cX9_become 74 = .ok (.aload_n 1, 1) := by decide +kernel
theorem dX9_become_75 : decode cX9_become 75 = .ok (.getfield 26, 3) := by decide +kernel
theorem dX9_become_78 : decode cX9_become 78 = .ok (.iload_n 2, 1) := by decide +kernel
theorem dX9_become_79 : decode cX9_become 79 = .ok (.aaload, 1) := by decide +kernel
theorem dX9_become_80 : decode cX9_become 80 = .ok (.invokevirtual 43, 3) := by decide +kernel
theorem dX9_become_83 : decode cX9_become 83 = .ok (.iinc 2 1, 3) := by decide +kernel
theorem dX9_become_86 : decode cX9_become 86 = .ok (.goto (-24), 3) := by decide +kernel
theorem dX9_become_89 : decode cX9_become 89 = .ok (.aload_n 0, 1) := by decide +kernel
theorem dX9_become_90 : decode cX9_become 90 = .ok (.aload_n 1, 1) := by decide +kernel
theorem dX9_become_91 : decode cX9_become 91 = .ok (.getfield 47, 3) := by decide +kernel
theorem dX9_become_94 : decode cX9_become 94 = .ok (.putfield 47, 3) := by decide +kernel
theorem dX9_become_97 : decode cX9_become 97 = .ok (.aload_n 0, 1) := by decide +kernel
theorem dX9_become_98 : decode cX9_become 98 = .ok (.aload_n 1, 1) := by decide +kernel
theorem dX9_become_99 : decode cX9_become 99 = .ok (.getfield 51, 3) := by decide +kernel
theorem dX9_become_102 : decode cX9_become 102 = .ok (.putfield 51, 3) := by decide +kernel
theorem dX9_become_105 : decode cX9_become 105 = .ok (.aload_n 0, 1) := by decide +kernel
theorem dX9_become_106 : decode cX9_become 106 = .ok (.aload_n 1, 1) := by decide +kernel
theorem dX9_become_107 : decode cX9_become 107 = .ok (.getfield 54, 3) := by decide +kernel
theorem dX9_become_110 : decode cX9_become 110 = .ok (.putfield 54, 3) := by decide +kernel
theorem dX9_become_113 : decode cX9_become 113 = .ok (.return_, 1) := by decide +kernel
theorem dX9_hasPerson_0 : decode cX9_hasPerson 0 = .ok (.iload_n 1, 1) := by decide +kernel
theorem dX9_hasPerson_1 : decode cX9_hasPerson 1 = .ok (.ifCond .lt 24, 3) := by decide +kernel
theorem dX9_hasPerson_4 : decode cX9_hasPerson 4 = .ok (.iload_n 1, 1) := by decide +kernel
theorem dX9_hasPerson_5 : decode cX9_hasPerson 5 = .ok (.bipush 6, 2) := by decide +kernel
theorem dX9_hasPerson_7 : decode cX9_hasPerson 7 = .ok (.if_icmp .ge 18, 3) := by decide +kernel
theorem dX9_hasPerson_10 : decode cX9_hasPerson 10 = .ok (.aload_n 0, 1) := by decide +kernel
theorem dX9_hasPerson_11 : decode cX9_hasPerson 11 = .ok (.getfield 47, 3) := by decide +kernel
theorem dX9_hasPerson_14 : decode cX9_hasPerson 14 = .ok (.iload_n 1, 1) := by decide +kernel
theorem dX9_hasPerson_15 : decode cX9_hasPerson 15 = .ok (.ishr, 1) := by decide +kernel
theorem dX9_hasPerson_16 : decode cX9_hasPerson 16 = .ok (.iconst 1, 1) := by decide +kernel
theorem dX9_hasPerson_17 : decode cX9_hasPerson 17 = .ok (.iand, 1) := by decide +kernel
theorem dX9_hasPerson_18 : decode cX9_hasPerson 18 = .ok (.ifCond .eq 7, 3) := by decide +kernel
theorem dX9_hasPerson_25 : decode cX9_hasPerson 25 = .ok (.iconst 0, 1) := by decide +kernel
theorem dX9_hasPerson_26 : decode cX9_hasPerson 26 = .ok (.ireturn, 1) := by decide +kernel
theorem dX9_hasLine_0 : decode cX9_hasLine 0 = .ok (.iload_n 1, 1) := by decide +kernel
theorem dX9_hasLine_1 : decode cX9_hasLine 1 = .ok (.ifCond .lt 24, 3) := by decide +kernel
theorem dX9_hasLine_4 : decode cX9_hasLine 4 = .ok (.iload_n 1, 1) := by decide +kernel
theorem dX9_hasLine_5 : decode cX9_hasLine 5 = .ok (.bipush 16, 2) := by decide +kernel
theorem dX9_hasLine_7 : decode cX9_hasLine 7 = .ok (.if_icmp .ge 18, 3) := by decide +kernel
theorem dX9_hasLine_10 : decode cX9_hasLine 10 = .ok (.aload_n 0, 1) := by decide +kernel
theorem dX9_hasLine_11 : decode cX9_hasLine 11 = .ok (.getfield 51, 3) := by decide +kernel
theorem dX9_hasLine_14 : decode cX9_hasLine 14 = .ok (.iload_n 1, 1) := by decide +kernel
theorem dX9_hasLine_15 : decode cX9_hasLine 15 = .ok (.ishr, 1) := by decide +kernel
theorem dX9_hasLine_16 : decode cX9_hasLine 16 = .ok (.iconst 1, 1) := by decide +kernel
theorem dX9_hasLine_17 : decode cX9_hasLine 17 = .ok (.iand, 1) := by decide +kernel
theorem dX9_hasLine_18 : decode cX9_hasLine 18 = .ok (.ifCond .eq 7, 3) := by decide +kernel
theorem dX9_hasLine_25 : decode cX9_hasLine 25 = .ok (.iconst 0, 1) := by decide +kernel
theorem dX9_hasLine_26 : decode cX9_hasLine 26 = .ok (.ireturn, 1) := by decide +kernel
theorem dX9_hasRemark_0 : decode cX9_hasRemark 0 = .ok (.iload_n 1, 1) := by decide +kernel
theorem dX9_hasRemark_1 : decode cX9_hasRemark 1 = .ok (.bipush 10, 2) := by decide +kernel
theorem dX9_hasRemark_3 : decode cX9_hasRemark 3 = .ok (.if_icmp .ge 15, 3) := by decide +kernel
theorem dX9_hasRemark_6 : decode cX9_hasRemark 6 = .ok (.aload_n 0, 1) := by decide +kernel
theorem dX9_hasRemark_7 : decode cX9_hasRemark 7 = .ok (.iload_n 1, 1) := by decide +kernel
theorem dX9_hasRemark_8 : decode cX9_hasRemark 8 = .ok (.invokevirtual 57, 3) := by decide +kernel
theorem dX9_hasRemark_11 : decode cX9_hasRemark 11 = .ok (.ifCond .eq 7, 3) := by decide +kernel
theorem dX9_hasRemark_18 : decode cX9_hasRemark 18 = .ok (.iconst 0, 1) := by decide +kernel
theorem dX9_hasRemark_19 : decode cX9_hasRemark 19 = .ok (.ireturn, 1) := by decide +kernel
theorem dX9_hasForm_0 : decode cX9_hasForm 0 = .ok (.iload_n 1, 1) := by decide +kernel
theorem dX9_hasForm_1 : decode cX9_hasForm 1 = .ok (.ifCond .lt 24, 3) := by decide +kernel
theorem dX9_hasForm_4 : decode cX9_hasForm 4 = .ok (.iload_n 1, 1) := by decide +kernel
theorem dX9_hasForm_5 : decode cX9_hasForm 5 = .ok (.bipush 6, 2) := by decide +kernel
theorem dX9_hasForm_7 : decode cX9_hasForm 7 = .ok (.if_icmp .ge 18, 3) := by decide +kernel
theorem dX9_hasForm_10 : decode cX9_hasForm 10 = .ok (.aload_n 0, 1) := by decide +kernel
theorem dX9_hasForm_11 : decode cX9_hasForm 11 = .ok (.bipush 10, 2) := by decide +kernel
theorem dX9_hasForm_13 : decode cX9_hasForm 13 = .ok (.iload_n 1, 1) := by decide +kernel
theorem dX9_hasForm_14 : decode cX9_hasForm 14 = .ok (.iadd, 1) := by decide +kernel
theorem dX9_hasForm_15 : decode cX9_hasForm 15 = .ok (.invokevirtual 57, 3) := by decide +kernel
theorem dX9_hasForm_18 : decode cX9_hasForm 18 = .ok (.ifCond .eq 7, 3) := by decide +kernel
theorem dX9_hasForm_25 : decode cX9_hasForm 25 = .ok (.iconst 0, 1) := by decide +kernel
theorem dX9_hasForm_26 : decode cX9_hasForm 26 = .ok (.ireturn, 1) := by decide +kernel
theorem dX9_remarksSaid_0 : decode cX9_remarksSaid 0 = .ok (.aload_n 0, 1) := by decide +kernel
theorem dX9_remarksSaid_1 : decode cX9_remarksSaid 1 = .ok (.getfield 51, 3) := by decide +kernel
theorem dX9_remarksSaid_4 : decode cX9_remarksSaid 4 = .ok (.sipush 1023, 3) := by decide +kernel
theorem dX9_remarksSaid_7 : decode cX9_remarksSaid 7 = .ok (.iand, 1) := by decide +kernel
theorem dX9_remarksSaid_8 : decode cX9_remarksSaid 8 = .ok (.ireturn, 1) := by decide +kernel
theorem dX9_lived_0 : decode cX9_lived 0 = .ok (.iload_n 1, 1) := by decide +kernel
theorem dX9_lived_1 : decode cX9_lived 1 = .ok (.ifCond .lt 25, 3) := by decide +kernel
theorem dX9_lived_4 : decode cX9_lived 4 = .ok (.iload_n 1, 1) := by decide +kernel
theorem dX9_lived_5 : decode cX9_lived 5 = .ok (.bipush 6, 2) := by decide +kernel
theorem dX9_lived_7 : decode cX9_lived 7 = .ok (.if_icmp .ge 19, 3) := by decide +kernel
theorem dX9_lived_10 : decode cX9_lived 10 = .ok (.aload_n 0, 1) := by decide +kernel
theorem dX9_lived_11 : decode cX9_lived 11 = .ok (.getfield 54, 3) := by decide +kernel
theorem dX9_lived_14 : decode cX9_lived 14 = .ok (.aload_n 0, 1) := by decide +kernel
theorem dX9_lived_15 : decode cX9_lived 15 = .ok (.getfield 18, 3) := by decide +kernel
theorem dX9_lived_18 : decode cX9_lived 18 = .ok (.iload_n 1, 1) := by decide +kernel
theorem dX9_lived_19 : decode cX9_lived 19 = .ok (.iaload, 1) := by decide +kernel
theorem dX9_lived_20 : decode cX9_lived 20 = .ok (.invokestatic 61, 3) := by decide +kernel
theorem dX9_lived_23 : decode cX9_lived 23 = .ok (.goto 7, 3) := by decide +kernel
theorem dX9_lived_26 : decode cX9_lived 26 = .ok (.aload_n 0, 1) := by decide +kernel
theorem dX9_lived_27 : decode cX9_lived 27 = .ok (.getfield 54, 3) := by decide +kernel
theorem dX9_lived_30 : decode cX9_lived 30 = .ok (.ireturn, 1) := by decide +kernel
theorem dX9_allRows_0 : decode cX9_allRows 0 = .ok (.lconst 1, 1) := by decide +kernel
theorem dX9_allRows_1 : decode cX9_allRows 1 = .ok (.lstore_n 1, 1) := by decide +kernel
theorem dX9_allRows_2 : decode cX9_allRows 2 = .ok (.iconst 0, 1) := by decide +kernel
theorem dX9_allRows_3 : decode cX9_allRows 3 = .ok (.istore_n 3, 1) := by decide +kernel
theorem dX9_allRows_4 : decode cX9_allRows 4 = .ok (.iload_n 3, 1) := by decide +kernel
theorem dX9_allRows_5 : decode cX9_allRows 5 = .ok (.bipush 6, 2) := by decide +kernel
theorem dX9_allRows_7 : decode cX9_allRows 7 = .ok (.if_icmp .ge 36, 3) := by decide +kernel
theorem dX9_allRows_10 : decode cX9_allRows 10 = .ok (.aload_n 0, 1) := by decide +kernel
theorem dX9_allRows_11 : decode cX9_allRows 11 = .ok (.iload_n 3, 1) := by decide +kernel
theorem dX9_allRows_12 : decode cX9_allRows 12 = .ok (.invokevirtual 67, 3) := by decide +kernel
theorem dX9_allRows_15 : decode cX9_allRows 15 = .ok (.ifCond .eq 22, 3) := by decide +kernel
theorem dX9_allRows_37 : decode cX9_allRows 37 = .ok (.iinc 3 1, 3) := by decide +kernel
theorem dX9_allRows_40 : decode cX9_allRows 40 = .ok (.goto (-36), 3) := by decide +kernel
theorem dX9_allRows_43 : decode cX9_allRows 43 = .ok (.lload_n 1, 1) := by decide +kernel
theorem dX9_allRows_44 : decode cX9_allRows 44 = .ok (.lreturn, 1) := by decide +kernel
theorem dX10_init_0 : decode cX10_init 0 = .ok (.aload_n 0, 1) := by decide +kernel
theorem dX10_init_1 : decode cX10_init 1 = .ok (.invokespecial 1, 3) := by decide +kernel
theorem dX10_init_4 : decode cX10_init 4 = .ok (.aload_n 0, 1) := by decide +kernel
theorem dX10_init_5 : decode cX10_init 5 = .ok (.new 7, 3) := by decide +kernel
theorem dX10_init_8 : decode cX10_init 8 = .ok (.dup, 1) := by decide +kernel
theorem dX10_init_9 : decode cX10_init 9 = .ok (.invokespecial 9, 3) := by decide +kernel
theorem dX10_init_12 : decode cX10_init 12 = .ok (.putfield 10, 3) := by decide +kernel
theorem dX10_init_15 : decode cX10_init 15 = .ok (.aload_n 0, 1) := by decide +kernel
theorem dX10_init_16 : decode cX10_init 16 = .ok (.new 7, 3) := by decide +kernel
theorem dX10_init_19 : decode cX10_init 19 = .ok (.dup, 1) := by decide +kernel
theorem dX10_init_20 : decode cX10_init 20 = .ok (.invokespecial 9, 3) := by decide +kernel
theorem dX10_init_23 : decode cX10_init 23 = .ok (.putfield 16, 3) := by decide +kernel
theorem dX10_init_26 : decode cX10_init 26 = .ok (.aload_n 0, 1) := by decide +kernel
theorem dX10_init_27 : decode cX10_init 27 = .ok (.sipush 260, 3) := by decide +kernel
theorem dX10_init_30 : decode cX10_init 30 = .ok (.newarray .int, 2) := by decide +kernel
theorem dX10_init_32 : decode cX10_init 32 = .ok (.putfield 19, 3) := by decide +kernel
theorem dX10_init_35 : decode cX10_init 35 = .ok (.aload_n 0, 1) := by decide +kernel
theorem dX10_init_36 : decode cX10_init 36 = .ok (.new 23, 3) := by decide +kernel
theorem dX10_init_39 : decode cX10_init 39 = .ok (.dup, 1) := by decide +kernel
theorem dX10_init_40 : decode cX10_init 40 = .ok (.aload_n 0, 1) := by decide +kernel
theorem dX10_init_41 : decode cX10_init 41 = .ok (.getfield 19, 3) := by decide +kernel
theorem dX10_init_44 : decode cX10_init 44 = .ok (.invokespecial 25, 3) := by decide +kernel
theorem dX10_init_47 : decode cX10_init 47 = .ok (.putfield 28, 3) := by decide +kernel
theorem dX10_init_50 : decode cX10_init 50 = .ok (.aload_n 0, 1) := by decide +kernel
theorem dX10_init_51 : decode cX10_init 51 = .ok (.new 32, 3) := by decide +kernel
theorem dX10_init_54 : decode cX10_init 54 = .ok (.dup, 1) := by decide +kernel
theorem dX10_init_55 : decode cX10_init 55 = .ok (.aload_n 0, 1) := by decide +kernel
theorem dX10_init_56 : decode cX10_init 56 = .ok (.getfield 10, 3) := by decide +kernel
theorem dX10_init_59 : decode cX10_init 59 = .ok (.invokespecial 34, 3) := by decide +kernel
theorem dX10_init_62 : decode cX10_init 62 = .ok (.putfield 37, 3) := by decide +kernel
theorem dX10_init_65 : decode cX10_init 65 = .ok (.aload_n 0, 1) := by decide +kernel
theorem dX10_init_66 : decode cX10_init 66 = .ok (.new 41, 3) := by decide +kernel
theorem dX10_init_69 : decode cX10_init 69 = .ok (.dup, 1) := by decide +kernel
theorem dX10_init_70 : decode cX10_init 70 = .ok (.invokespecial 43, 3) := by decide +kernel
theorem dX10_init_73 : decode cX10_init 73 = .ok (.putfield 44, 3) := by decide +kernel
theorem dX10_init_76 : decode cX10_init 76 = .ok (.aload_n 0, 1) := by decide +kernel
theorem dX10_init_77 : decode cX10_init 77 = .ok (.new 48, 3) := by decide +kernel
theorem dX10_init_80 : decode cX10_init 80 = .ok (.dup, 1) := by decide +kernel
theorem dX10_init_81 : decode cX10_init 81 = .ok (.invokespecial 50, 3) := by decide +kernel
theorem dX10_init_84 : decode cX10_init 84 = .ok (.putfield 51, 3) := by decide +kernel
theorem dX10_init_87 : decode cX10_init 87 = .ok (.aload_n 0, 1) := by decide +kernel
theorem dX10_init_88 : decode cX10_init 88 = .ok (.new 55, 3) := by decide +kernel
theorem dX10_init_91 : decode cX10_init 91 = .ok (.dup, 1) := by decide +kernel
theorem dX10_init_92 : decode cX10_init 92 = .ok (.invokespecial 57, 3) := by decide +kernel
theorem dX10_init_95 : decode cX10_init 95 = .ok (.putfield 58, 3) := by decide +kernel
theorem dX10_init_98 : decode cX10_init 98 = .ok (.aload_n 0, 1) := by decide +kernel
theorem dX10_init_99 : decode cX10_init 99 = .ok (.new 62, 3) := by decide +kernel
theorem dX10_init_102 : decode cX10_init 102 = .ok (.dup, 1) := by decide +kernel
theorem dX10_init_103 : decode cX10_init 103 = .ok (.invokespecial 64, 3) := by decide +kernel
theorem dX10_init_106 : decode cX10_init 106 = .ok (.putfield 65, 3) := by decide +kernel
theorem dX10_init_109 : decode cX10_init 109 = .ok (.aload_n 0, 1) := by decide +kernel
theorem dX10_init_110 : decode cX10_init 110 = .ok (.new 69, 3) := by decide +kernel
theorem dX10_init_113 : decode cX10_init 113 = .ok (.dup, 1) := by decide +kernel
theorem dX10_init_114 : decode cX10_init 114 = .ok (.invokespecial 71, 3) := by decide +kernel
theorem dX10_init_117 : decode cX10_init 117 = .ok (.putfield 72, 3) := by decide +kernel
theorem dX10_init_120 : decode cX10_init 120 = .ok (.aload_n 0, 1) := by decide +kernel
theorem dX10_init_121 : decode cX10_init 121 = .ok (.new 76, 3) := by decide +kernel
theorem dX10_init_124 : decode cX10_init 124 = .ok (.dup, 1) := by decide +kernel
theorem dX10_init_125 : decode cX10_init 125 = .ok (.invokespecial 78, 3) := by decide +kernel
theorem dX10_init_128 : decode cX10_init 128 = .ok (.putfield 79, 3) := by decide +kernel
theorem dX10_init_131 : decode cX10_init 131 = .ok (.aload_n 0, 1) := by decide +kernel
theorem dX10_init_132 : decode cX10_init 132 = .ok (.bipush 100, 2) := by decide +kernel
theorem dX10_init_134 : decode cX10_init 134 = .ok (.newarray .int, 2) := by decide +kernel
theorem dX10_init_136 : decode cX10_init 136 = .ok (.putfield 83, 3) := by decide +kernel
theorem dX10_init_139 : decode cX10_init 139 = .ok (.aload_n 0, 1) := by decide +kernel
theorem dX10_init_140 : decode cX10_init 140 = .ok (.sipush 2807, 3) := by decide +kernel
theorem dX10_init_143 : decode cX10_init 143 = .ok (.newarray .long, 2) := by decide +kernel
theorem dX10_init_145 : decode cX10_init 145 = .ok (.putfield 86, 3) := by decide +kernel
theorem dX10_init_148 : decode cX10_init 148 = .ok (.return_, 1) := by decide +kernel
theorem dX10_person_0 : decode cX10_person 0 = .ok (.iload_n 1, 1) := by decide +kernel
theorem dX10_person_1 : decode cX10_person 1 = .ok (.ifCond .lt 24, 3) := by decide +kernel
theorem dX10_person_4 : decode cX10_person 4 = .ok (.iload_n 1, 1) := by decide +kernel
theorem dX10_person_5 : decode cX10_person 5 = .ok (.bipush 6, 2) := by decide +kernel
theorem dX10_person_7 : decode cX10_person 7 = .ok (.if_icmp .ge 18, 3) := by decide +kernel
theorem dX10_person_10 : decode cX10_person 10 = .ok (.iload_n 2, 1) := by decide +kernel
theorem dX10_person_11 : decode cX10_person 11 = .ok (.ifCond .lt 14, 3) := by decide +kernel
theorem dX10_person_14 : decode cX10_person 14 = .ok (.iload_n 3, 1) := by decide +kernel
theorem dX10_person_15 : decode cX10_person 15 = .ok (.bipush 99, 2) := by decide +kernel
theorem dX10_person_17 : decode cX10_person 17 = .ok (.if_icmp .gt 8, 3) := by decide +kernel
theorem dX10_person_20 : decode cX10_person 20 = .ok (.iload_n 2, 1) := by decide +kernel
theorem dX10_person_21 : decode cX10_person 21 = .ok (.iload_n 3, 1) := by decide +kernel
theorem dX10_person_22 : decode cX10_person 22 = .ok (.if_icmp .le 5, 3) := by decide +kernel
theorem dX10_person_25 : decode cX10_person 25 = .ok (.iconst 0, 1) := by decide +kernel
theorem dX10_person_26 : decode cX10_person 26 = .ok (.ireturn, 1) := by decide +kernel
theorem dX10_person_27 : decode cX10_person 27 = .ok (.aload_n 0, 1) := by decide +kernel
theorem dX10_person_28 : decode cX10_person 28 = .ok (.getfield 10, 3) := by decide +kernel
theorem dX10_person_31 : decode cX10_person 31 = .ok (.getfield 90, 3) := by decide +kernel
theorem dX10_person_34 : decode cX10_person 34 = .ok (.iload_n 1, 1) := by decide +kernel
theorem dX10_person_35 : decode cX10_person 35 = .ok (.iload_n 2, 1) := by decide +kernel
theorem dX10_person_36 : decode cX10_person 36 = .ok (.iastore, 1) := by decide +kernel
theorem dX10_person_37 : decode cX10_person 37 = .ok (.aload_n 0, 1) := by decide +kernel
theorem dX10_person_38 : decode cX10_person 38 = .ok (.getfield 10, 3) := by decide +kernel
theorem dX10_person_41 : decode cX10_person 41 = .ok (.getfield 93, 3) := by decide +kernel
theorem dX10_person_44 : decode cX10_person 44 = .ok (.iload_n 1, 1) := by decide +kernel
theorem dX10_person_45 : decode cX10_person 45 = .ok (.iload_n 3, 1) := by decide +kernel
theorem dX10_person_46 : decode cX10_person 46 = .ok (.iastore, 1) := by decide +kernel
theorem dX10_person_47 : decode cX10_person 47 = .ok (.aload_n 0, 1) := by decide +kernel
theorem dX10_person_48 : decode cX10_person 48 = .ok (.getfield 10, 3) := by decide +kernel
theorem dX10_person_51 : decode cX10_person 51 = .ok (.getfield 96, 3) := by decide +kernel
theorem dX10_person_54 : decode cX10_person 54 = .ok (.iload_n 1, 1) := by decide +kernel
theorem dX10_person_55 : decode cX10_person 55 = .ok (.bipush 100, 2) := by decide +kernel
theorem dX10_person_57 : decode cX10_person 57 = .ok (.iastore, 1) := by decide +kernel
theorem dX10_person_58 : decode cX10_person 58 = .ok (.aload_n 0, 1) := by decide +kernel
theorem dX10_person_59 : decode cX10_person 59 = .ok (.getfield 10, 3) := by decide +kernel
theorem dX10_person_62 : decode cX10_person 62 = .ok (.dup, 1) := by decide +kernel
theorem dX10_person_63 : decode cX10_person 63 = .ok (.getfield 99, 3) := by decide +kernel
theorem dX10_person_66 : decode cX10_person 66 = .ok (.iconst 1, 1) := by decide +kernel
theorem dX10_person_67 : decode cX10_person 67 = .ok (.iload_n 1, 1) := by decide +kernel
theorem dX10_person_68 : decode cX10_person 68 = .ok (.ishl, 1) := by decide +kernel
theorem dX10_person_69 : decode cX10_person 69 = .ok (.ior, 1) := by decide +kernel
theorem dX10_person_70 : decode cX10_person 70 = .ok (.putfield 99, 3) := by decide +kernel
theorem dX10_person_73 : decode cX10_person 73 = .ok (.aload_n 0, 1) := by decide +kernel
theorem dX10_person_74 : decode cX10_person 74 = .ok (.getfield 44, 3) := by decide +kernel
theorem dX10_person_77 : decode cX10_person 77 = .ok (.invokevirtual 103, 3) := by decide +kernel
theorem dX10_person_80 : decode cX10_person 80 = .ok (.iconst 1, 1) := by decide +kernel
theorem dX10_person_81 : decode cX10_person 81 = .ok (.ireturn, 1) := by decide +kernel
theorem dX10_dies_0 : decode cX10_dies 0 = .ok (.aload_n 0, 1) := by decide +kernel
theorem dX10_dies_1 : decode cX10_dies 1 = .ok (.getfield 10, 3) := by decide +kernel
theorem dX10_dies_4 : decode cX10_dies 4 = .ok (.iload_n 1, 1) := by decide +kernel
theorem dX10_dies_5 : decode cX10_dies 5 = .ok (.invokevirtual 106, 3) := by decide +kernel
theorem dX10_dies_8 : decode cX10_dies 8 = .ok (.ifCond .eq 13, 3) := by decide +kernel
theorem dX10_dies_21 : decode cX10_dies 21 = .ok (.iconst 0, 1) := by decide +kernel
theorem dX10_dies_22 : decode cX10_dies 22 = .ok (.ireturn, 1) := by decide +kernel
theorem dX10_years_0 : decode cX10_years 0 = .ok (.iload_n 1, 1) := by decide +kernel
theorem dX10_years_1 : decode cX10_years 1 = .ok (.iconst 1, 1) := by decide +kernel
theorem dX10_years_2 : decode cX10_years 2 = .ok (.if_icmp .lt 23, 3) := by decide +kernel
theorem dX10_years_5 : decode cX10_years 5 = .ok (.iload_n 1, 1) := by decide +kernel
theorem dX10_years_6 : decode cX10_years 6 = .ok (.bipush 99, 2) := by decide +kernel
theorem dX10_years_8 : decode cX10_years 8 = .ok (.if_icmp .gt 17, 3) := by decide +kernel
theorem dX10_years_11 : decode cX10_years 11 = .ok (.aload_n 0, 1) := by decide +kernel
theorem dX10_years_12 : decode cX10_years 12 = .ok (.getfield 10, 3) := by decide +kernel
theorem dX10_years_15 : decode cX10_years 15 = .ok (.getfield 110, 3) := by decide +kernel
theorem dX10_years_18 : decode cX10_years 18 = .ok (.iload_n 1, 1) := by decide +kernel
theorem dX10_years_19 : decode cX10_years 19 = .ok (.iadd, 1) := by decide +kernel
theorem dX10_years_20 : decode cX10_years 20 = .ok (.bipush 99, 2) := by decide +kernel
theorem dX10_years_22 : decode cX10_years 22 = .ok (.if_icmp .le 5, 3) := by decide +kernel
theorem dX10_years_25 : decode cX10_years 25 = .ok (.iconst (-1), 1) := by decide +kernel
theorem dX10_years_26 : decode cX10_years 26 = .ok (.ireturn, 1) := by decide +kernel
theorem dX10_years_27 : decode cX10_years 27 = .ok (.aload_n 0, 1) := by decide +kernel
theorem dX10_years_28 : decode cX10_years 28 = .ok (.getfield 10, 3) := by decide +kernel
theorem dX10_years_31 : decode cX10_years 31 = .ok (.dup, 1) := by decide +kernel
theorem dX10_years_32 : decode cX10_years 32 = .ok (.getfield 110, 3) := by decide +kernel
theorem dX10_years_35 : decode cX10_years 35 = .ok (.iload_n 1, 1) := by decide +kernel
theorem dX10_years_36 : decode cX10_years 36 = .ok (.iadd, 1) := by decide +kernel
theorem dX10_years_37 : decode cX10_years 37 = .ok (.putfield 110, 3) := by decide +kernel
theorem dX10_years_40 : decode cX10_years 40 = .ok (.aload_n 0, 1) := by decide +kernel
theorem dX10_years_41 : decode cX10_years 41 = .ok (.getfield 10, 3) := by decide +kernel
theorem dX10_years_44 : decode cX10_years 44 = .ok (.getfield 110, 3) := by decide +kernel
theorem dX10_years_47 : decode cX10_years 47 = .ok (.ireturn, 1) := by decide +kernel
theorem dX10_feed_0 : decode cX10_feed 0 = .ok (.aload_n 0, 1) := by decide +kernel
theorem dX10_feed_1 : decode cX10_feed 1 = .ok (.getfield 113, 3) := by decide +kernel
theorem dX10_feed_4 : decode cX10_feed 4 = .ok (.sipush 240, 3) := by decide +kernel
theorem dX10_feed_7 : decode cX10_feed 7 = .ok (.if_icmp .le 5, 3) := by decide +kernel
theorem dX10_feed_12 : decode cX10_feed 12 = .ok (.aload_n 0, 1) := by decide +kernel
theorem dX10_feed_13 : decode cX10_feed 13 = .ok (.iload_n 1, 1) := by decide +kernel
theorem dX10_feed_14 : decode cX10_feed 14 = .ok (.invokevirtual 116, 3) := by decide +kernel
theorem dX10_feed_17 : decode cX10_feed 17 = .ok (.aload_n 0, 1) := by decide +kernel
theorem dX10_feed_18 : decode cX10_feed 18 = .ok (.iload_n 2, 1) := by decide +kernel
theorem dX10_feed_19 : decode cX10_feed 19 = .ok (.invokevirtual 116, 3) := by decide +kernel
theorem dX10_feed_22 : decode cX10_feed 22 = .ok (.aload_n 0, 1) := by decide +kernel
theorem dX10_feed_23 : decode cX10_feed 23 = .ok (.iload_n 3, 1) := by decide +kernel
theorem dX10_feed_24 : decode cX10_feed 24 = .ok (.invokevirtual 116, 3) := by decide +kernel
theorem dX10_feed_27 : decode cX10_feed 27 = .ok (.aload_n 0, 1) := by decide +kernel
theorem dX10_feed_28 : decode cX10_feed 28 = .ok (.iload 4, 2) := by decide +kernel
theorem dX10_feed_30 : decode cX10_feed 30 = .ok (.invokevirtual 116, 3) := by decide +kernel
theorem dX10_feed_33 : decode cX10_feed 33 = .ok (.aload_n 0, 1) := by decide +kernel
theorem dX10_feed_34 : decode cX10_feed 34 = .ok (.iload 5, 2) := by decide +kernel
theorem dX10_feed_36 : decode cX10_feed 36 = .ok (.invokevirtual 116, 3) := by decide +kernel
theorem dX10_feed_39 : decode cX10_feed 39 = .ok (.aload_n 0, 1) := by decide +kernel
theorem dX10_feed_40 : decode cX10_feed 40 = .ok (.getfield 113, 3) := by decide +kernel
theorem dX10_feed_43 : decode cX10_feed 43 = .ok (.ireturn, 1) := by decide +kernel
theorem dX10_putBytes_0 : decode cX10_putBytes 0 = .ok (.bipush 24, 2) := by decide +kernel
theorem dX10_putBytes_2 : decode cX10_putBytes 2 = .ok (.istore_n 2, 1) := by decide +kernel
theorem dX10_putBytes_3 : decode cX10_putBytes 3 = .ok (.iload_n 2, 1) := by decide +kernel
theorem dX10_putBytes_4 : decode cX10_putBytes 4 = .ok (.ifCond .lt 45, 3) := by decide +kernel
theorem dX10_putBytes_7 : decode cX10_putBytes 7 = .ok (.aload_n 0, 1) := by decide +kernel
theorem dX10_putBytes_8 : decode cX10_putBytes 8 = .ok (.getfield 113, 3) := by decide +kernel
theorem dX10_putBytes_11 : decode cX10_putBytes 11 = .ok (.sipush 260, 3) := by decide +kernel
theorem dX10_putBytes_14 : decode cX10_putBytes 14 = .ok (.if_icmp .ge 35, 3) := by decide +kernel
theorem dX10_putBytes_17 : decode cX10_putBytes 17 = .ok (.aload_n 0, 1) := by decide +kernel
theorem dX10_putBytes_18 : decode cX10_putBytes 18 = .ok (.getfield 19, 3) := by decide +kernel
theorem dX10_putBytes_21 : decode cX10_putBytes 21 = .ok (.aload_n 0, 1) := by decide +kernel
theorem dX10_putBytes_22 : decode cX10_putBytes 22 = .ok (.getfield 113, 3) := by decide +kernel
theorem dX10_putBytes_25 : decode cX10_putBytes 25 = .ok (.iload_n 1, 1) := by decide +kernel
theorem dX10_putBytes_26 : decode cX10_putBytes 26 = .ok (.iload_n 2, 1) := by decide +kernel
theorem dX10_putBytes_27 : decode cX10_putBytes 27 = .ok (.ishr, 1) := by decide +kernel
theorem dX10_putBytes_28 : decode cX10_putBytes 28 = .ok (.sipush 255, 3) := by decide +kernel
theorem dX10_putBytes_31 : decode cX10_putBytes 31 = .ok (.iand, 1) := by decide +kernel
theorem dX10_putBytes_32 : decode cX10_putBytes 32 = .ok (.iastore, 1) := by decide +kernel
theorem dX10_putBytes_33 : decode cX10_putBytes 33 = .ok (.aload_n 0, 1) := by decide +kernel
theorem dX10_putBytes_34 : decode cX10_putBytes 34 = .ok (.dup, 1) := by decide +kernel
theorem dX10_putBytes_35 : decode cX10_putBytes 35 = .ok (.getfield 113, 3) := by decide +kernel
theorem dX10_putBytes_38 : decode cX10_putBytes 38 = .ok (.iconst 1, 1) := by decide +kernel
theorem dX10_putBytes_39 : decode cX10_putBytes 39 = .ok (.iadd, 1) := by decide +kernel
theorem dX10_putBytes_40 : decode cX10_putBytes 40 = .ok (.putfield 113, 3) := by decide +kernel
theorem dX10_putBytes_43 : decode cX10_putBytes 43 = .ok (.iinc 2 (-8), 3) := by decide +kernel
theorem dX10_putBytes_46 : decode cX10_putBytes 46 = .ok (.goto (-43), 3) := by decide +kernel
theorem dX10_putBytes_49 : decode cX10_putBytes 49 = .ok (.return_, 1) := by decide +kernel
theorem dX10_remark_0 : decode cX10_remark 0 = .ok (.iload_n 1, 1) := by decide +kernel
theorem dX10_remark_1 : decode cX10_remark 1 = .ok (.ifCond .lt 19, 3) := by decide +kernel
theorem dX10_remark_4 : decode cX10_remark 4 = .ok (.iload_n 1, 1) := by decide +kernel
theorem dX10_remark_5 : decode cX10_remark 5 = .ok (.bipush 10, 2) := by decide +kernel
theorem dX10_remark_7 : decode cX10_remark 7 = .ok (.if_icmp .ge 13, 3) := by decide +kernel
theorem dX10_remark_10 : decode cX10_remark 10 = .ok (.aload_n 0, 1) := by decide +kernel
theorem dX10_remark_11 : decode cX10_remark 11 = .ok (.iload_n 2, 1) := by decide +kernel
theorem dX10_remark_12 : decode cX10_remark 12 = .ok (.bipush 60, 2) := by decide +kernel
theorem dX10_remark_14 : decode cX10_remark 14 = .ok (.invokevirtual 120, 3) := by decide +kernel
theorem dX10_remark_17 : decode cX10_remark 17 = .ok (.ifCond .ne 5, 3) := by decide +kernel
theorem dX10_remark_20 : decode cX10_remark 20 = .ok (.iconst (-1), 1) := by decide +kernel
theorem dX10_remark_21 : decode cX10_remark 21 = .ok (.ireturn, 1) := by decide +kernel
theorem dX10_form_0 : decode cX10_form 0 = .ok (.iload_n 1, 1) := by decide +kernel
theorem dX10_form_1 : decode cX10_form 1 = .ok (.ifCond .lt 19, 3) := by decide +kernel
theorem dX10_form_4 : decode cX10_form 4 = .ok (.iload_n 1, 1) := by decide +kernel
theorem dX10_form_5 : decode cX10_form 5 = .ok (.bipush 6, 2) := by decide +kernel
theorem dX10_form_7 : decode cX10_form 7 = .ok (.if_icmp .ge 13, 3) := by decide +kernel
theorem dX10_form_10 : decode cX10_form 10 = .ok (.aload_n 0, 1) := by decide +kernel
theorem dX10_form_11 : decode cX10_form 11 = .ok (.iload_n 2, 1) := by decide +kernel
theorem dX10_form_12 : decode cX10_form 12 = .ok (.bipush 60, 2) := by decide +kernel
theorem dX10_form_14 : decode cX10_form 14 = .ok (.invokevirtual 120, 3) := by decide +kernel
theorem dX10_form_17 : decode cX10_form 17 = .ok (.ifCond .ne 5, 3) := by decide +kernel
theorem dX10_form_20 : decode cX10_form 20 = .ok (.iconst (-1), 1) := by decide +kernel
theorem dX10_form_21 : decode cX10_form 21 = .ok (.ireturn, 1) := by decide +kernel
theorem dX10_isText_0 : decode cX10_isText 0 = .ok (.iload_n 1, 1) := by decide +kernel
theorem dX10_isText_1 : decode cX10_isText 1 = .ok (.iconst 1, 1) := by decide +kernel
theorem dX10_isText_2 : decode cX10_isText 2 = .ok (.if_icmp .lt 20, 3) := by decide +kernel
theorem dX10_isText_5 : decode cX10_isText 5 = .ok (.iload_n 1, 1) := by decide +kernel
theorem dX10_isText_6 : decode cX10_isText 6 = .ok (.iload_n 2, 1) := by decide +kernel
theorem dX10_isText_7 : decode cX10_isText 7 = .ok (.if_icmp .gt 15, 3) := by decide +kernel
theorem dX10_isText_10 : decode cX10_isText 10 = .ok (.iload_n 1, 1) := by decide +kernel
theorem dX10_isText_11 : decode cX10_isText 11 = .ok (.aload_n 0, 1) := by decide +kernel
theorem dX10_isText_12 : decode cX10_isText 12 = .ok (.getfield 113, 3) := by decide +kernel
theorem dX10_isText_15 : decode cX10_isText 15 = .ok (.if_icmp .gt 7, 3) := by decide +kernel
theorem dX10_isText_22 : decode cX10_isText 22 = .ok (.iconst 0, 1) := by decide +kernel
theorem dX10_isText_23 : decode cX10_isText 23 = .ok (.ireturn, 1) := by decide +kernel
theorem dX10_takeBack_0 : decode cX10_takeBack 0 = .ok (.aload_n 0, 1) := by decide +kernel
theorem dX10_takeBack_1 : decode cX10_takeBack 1 = .ok (.getfield 10, 3) := by decide +kernel
theorem dX10_takeBack_4 : decode cX10_takeBack 4 = .ok (.iload_n 1, 1) := by decide +kernel
theorem dX10_takeBack_5 : decode cX10_takeBack 5 = .ok (.invokevirtual 156, 3) := by decide +kernel
theorem dX10_takeBack_8 : decode cX10_takeBack 8 = .ok (.ifCond .ne 5, 3) := by decide +kernel
theorem dX10_takeBack_11 : decode cX10_takeBack 11 = .ok (.iconst 0, 1) := by decide +kernel
theorem dX10_takeBack_12 : decode cX10_takeBack 12 = .ok (.ireturn, 1) := by decide +kernel
theorem dX10_parent_0 : decode cX10_parent 0 = .ok (.aload_n 0, 1) := by decide +kernel
theorem dX10_parent_1 : decode cX10_parent 1 = .ok (.getfield 10, 3) := by decide +kernel
theorem dX10_parent_4 : decode cX10_parent 4 = .ok (.iload_n 1, 1) := by decide +kernel
theorem dX10_parent_5 : decode cX10_parent 5 = .ok (.invokevirtual 106, 3) := by decide +kernel
theorem dX10_parent_8 : decode cX10_parent 8 = .ok (.ifCond .eq 30, 3) := by decide +kernel
theorem dX10_parent_38 : decode cX10_parent 38 = .ok (.iconst 0, 1) := by decide +kernel
theorem dX10_parent_39 : decode cX10_parent 39 = .ok (.ireturn, 1) := by decide +kernel
theorem dX10_keep_0 : decode cX10_keep 0 = .ok (.aload_n 0, 1) := by decide +kernel
theorem dX10_keep_1 : decode cX10_keep 1 = .ok (.getfield 16, 3) := by decide +kernel
theorem dX10_keep_4 : decode cX10_keep 4 = .ok (.aload_n 0, 1) := by decide +kernel
theorem dX10_keep_5 : decode cX10_keep 5 = .ok (.getfield 10, 3) := by decide +kernel
theorem dX10_keep_8 : decode cX10_keep 8 = .ok (.invokevirtual 162, 3) := by decide +kernel
theorem dX10_keep_11 : decode cX10_keep 11 = .ok (.aload_n 0, 1) := by decide +kernel
theorem dX10_keep_12 : decode cX10_keep 12 = .ok (.iconst 1, 1) := by decide +kernel
theorem dX10_keep_13 : decode cX10_keep 13 = .ok (.putfield 165, 3) := by decide +kernel
theorem dX10_keep_16 : decode cX10_keep 16 = .ok (.aload_n 0, 1) := by decide +kernel
theorem dX10_keep_17 : decode cX10_keep 17 = .ok (.getfield 10, 3) := by decide +kernel
theorem dX10_keep_20 : decode cX10_keep 20 = .ok (.invokevirtual 169, 3) := by decide +kernel
theorem dX10_keep_23 : decode cX10_keep 23 = .ok (.invokestatic 150, 3) := by decide +kernel
theorem dX10_keep_26 : decode cX10_keep 26 = .ok (.ireturn, 1) := by decide +kernel
theorem dX10_undo_0 : decode cX10_undo 0 = .ok (.aload_n 0, 1) := by decide +kernel
theorem dX10_undo_1 : decode cX10_undo 1 = .ok (.getfield 165, 3) := by decide +kernel
theorem dX10_undo_4 : decode cX10_undo 4 = .ok (.ifCond .ne 5, 3) := by decide +kernel
theorem dX10_undo_7 : decode cX10_undo 7 = .ok (.iconst 0, 1) := by decide +kernel
theorem dX10_undo_8 : decode cX10_undo 8 = .ok (.ireturn, 1) := by decide +kernel
theorem dX10_count_0 : decode cX10_count 0 = .ok (.iload_n 1, 1) := by decide +kernel
theorem dX10_count_1 : decode cX10_count 1 = .ok (.tableswitch 75 0 4 #[35, 43, 51, 59, 70], 35) := by decide +kernel
theorem dX10_count_36 : decode cX10_count 36 = .ok (.aload_n 0, 1) := by decide +kernel
theorem dX10_count_37 : decode cX10_count 37 = .ok (.getfield 10, 3) := by decide +kernel
theorem dX10_count_40 : decode cX10_count 40 = .ok (.getfield 110, 3) := by decide +kernel
theorem dX10_count_43 : decode cX10_count 43 = .ok (.ireturn, 1) := by decide +kernel
theorem dX10_count_44 : decode cX10_count 44 = .ok (.aload_n 0, 1) := by decide +kernel
theorem dX10_count_45 : decode cX10_count 45 = .ok (.getfield 10, 3) := by decide +kernel
theorem dX10_count_48 : decode cX10_count 48 = .ok (.getfield 99, 3) := by decide +kernel
theorem dX10_count_51 : decode cX10_count 51 = .ok (.ireturn, 1) := by decide +kernel
theorem dX10_count_52 : decode cX10_count 52 = .ok (.aload_n 0, 1) := by decide +kernel
theorem dX10_count_53 : decode cX10_count 53 = .ok (.getfield 10, 3) := by decide +kernel
theorem dX10_count_56 : decode cX10_count 56 = .ok (.invokevirtual 169, 3) := by decide +kernel
theorem dX10_count_59 : decode cX10_count 59 = .ok (.ireturn, 1) := by decide +kernel
theorem dX10_count_60 : decode cX10_count 60 = .ok (.aload_n 0, 1) := by decide +kernel
theorem dX10_count_61 : decode cX10_count 61 = .ok (.getfield 10, 3) := by decide +kernel
theorem dX10_count_64 : decode cX10_count 64 = .ok (.getfield 146, 3) := by decide +kernel
theorem dX10_count_67 : decode cX10_count 67 = .ok (.bipush 10, 2) := by decide +kernel
theorem dX10_count_69 : decode cX10_count 69 = .ok (.ishr, 1) := by decide +kernel
theorem dX10_count_70 : decode cX10_count 70 = .ok (.ireturn, 1) := by decide +kernel
theorem dX10_count_71 : decode cX10_count 71 = .ok (.aload_n 0, 1) := by decide +kernel
theorem dX10_count_72 : decode cX10_count 72 = .ok (.getfield 113, 3) := by decide +kernel
theorem dX10_count_75 : decode cX10_count 75 = .ok (.ireturn, 1) := by decide +kernel
theorem dX10_count_76 : decode cX10_count 76 = .ok (.aload_n 0, 1) := by decide +kernel
theorem dX10_count_77 : decode cX10_count 77 = .ok (.iload_n 1, 1) := by decide +kernel
theorem dX10_count_78 : decode cX10_count 78 = .ok (.invokevirtual 173, 3) := by decide +kernel
theorem dX10_count_81 : decode cX10_count 81 = .ok (.ireturn, 1) := by decide +kernel
theorem dX10_countOfPerson_0 : decode cX10_countOfPerson 0 = .ok (.iload_n 1, 1) := by decide +kernel
theorem dX10_countOfPerson_1 : decode cX10_countOfPerson 1 = .ok (.bipush 10, 2) := by decide +kernel
theorem dX10_countOfPerson_3 : decode cX10_countOfPerson 3 = .ok (.irem, 1) := by decide +kernel
theorem dX10_countOfPerson_4 : decode cX10_countOfPerson 4 = .ok (.istore_n 2, 1) := by decide +kernel
theorem dX10_countOfPerson_5 : decode cX10_countOfPerson 5 = .ok (.iload_n 1, 1) := by decide +kernel
theorem dX10_countOfPerson_6 : decode cX10_countOfPerson 6 = .ok (.bipush 10, 2) := by decide +kernel
theorem dX10_countOfPerson_8 : decode cX10_countOfPerson 8 = .ok (.if_icmp .lt 20, 3) := by decide +kernel
theorem dX10_countOfPerson_11 : decode cX10_countOfPerson 11 = .ok (.iload_n 1, 1) := by decide +kernel
theorem dX10_countOfPerson_12 : decode cX10_countOfPerson 12 = .ok (.bipush 39, 2) := by decide +kernel
theorem dX10_countOfPerson_14 : decode cX10_countOfPerson 14 = .ok (.if_icmp .gt 14, 3) := by decide +kernel
theorem dX10_countOfPerson_17 : decode cX10_countOfPerson 17 = .ok (.aload_n 0, 1) := by decide +kernel
theorem dX10_countOfPerson_18 : decode cX10_countOfPerson 18 = .ok (.getfield 10, 3) := by decide +kernel
theorem dX10_countOfPerson_21 : decode cX10_countOfPerson 21 = .ok (.iload_n 2, 1) := by decide +kernel
theorem dX10_countOfPerson_22 : decode cX10_countOfPerson 22 = .ok (.invokevirtual 106, 3) := by decide +kernel
theorem dX10_countOfPerson_25 : decode cX10_countOfPerson 25 = .ok (.ifCond .ne 5, 3) := by decide +kernel
theorem dX10_countOfPerson_28 : decode cX10_countOfPerson 28 = .ok (.iconst (-1), 1) := by decide +kernel
theorem dX10_countOfPerson_29 : decode cX10_countOfPerson 29 = .ok (.ireturn, 1) := by decide +kernel
theorem dX10_areRemarks_0 : decode cX10_areRemarks 0 = .ok (.iload_n 1, 1) := by decide +kernel
theorem dX10_areRemarks_1 : decode cX10_areRemarks 1 = .ok (.aload_n 0, 1) := by decide +kernel
theorem dX10_areRemarks_2 : decode cX10_areRemarks 2 = .ok (.getfield 10, 3) := by decide +kernel
theorem dX10_areRemarks_5 : decode cX10_areRemarks 5 = .ok (.invokevirtual 169, 3) := by decide +kernel
theorem dX10_areRemarks_8 : decode cX10_areRemarks 8 = .ok (.iconst (-1), 1) := by decide +kernel
theorem dX10_areRemarks_9 : decode cX10_areRemarks 9 = .ok (.ixor, 1) := by decide +kernel
theorem dX10_areRemarks_10 : decode cX10_areRemarks 10 = .ok (.iand, 1) := by decide +kernel
theorem dX10_areRemarks_11 : decode cX10_areRemarks 11 = .ok (.ifCond .ne 7, 3) := by decide +kernel
theorem dX10_areRemarks_14 : decode cX10_areRemarks 14 = .ok (.iconst 1, 1) := by decide +kernel
theorem dX10_areRemarks_15 : decode cX10_areRemarks 15 = .ok (.goto 4, 3) := by decide +kernel
theorem dX10_areRemarks_18 : decode cX10_areRemarks 18 = .ok (.iconst 0, 1) := by decide +kernel
theorem dX10_areRemarks_19 : decode cX10_areRemarks 19 = .ok (.ireturn, 1) := by decide +kernel
theorem dX10_rows_0 : decode cX10_rows 0 = .ok (.aload_n 0, 1) := by decide +kernel
theorem dX10_rows_1 : decode cX10_rows 1 = .ok (.getfield 10, 3) := by decide +kernel
theorem dX10_rows_4 : decode cX10_rows 4 = .ok (.invokevirtual 176, 3) := by decide +kernel
theorem dX10_rows_7 : decode cX10_rows 7 = .ok (.lstore_n 1, 1) := by decide +kernel
theorem dX10_rows_8 : decode cX10_rows 8 = .ok (.lload_n 1, 1) := by decide +kernel
theorem dX10_rows_9 : decode cX10_rows 9 = .ok (.ldc2_w 180, 3) := by decide +kernel
theorem dX10_rows_12 : decode cX10_rows 12 = .ok (.lcmp, 1) := by decide +kernel
theorem dX10_rows_13 : decode cX10_rows 13 = .ok (.ifCond .le 8, 3) := by decide +kernel
theorem dX10_rows_21 : decode cX10_rows 21 = .ok (.lload_n 1, 1) := by decide +kernel
theorem dX10_rows_22 : decode cX10_rows 22 = .ok (.l2i, 1) := by decide +kernel
theorem dX10_rows_23 : decode cX10_rows 23 = .ok (.ireturn, 1) := by decide +kernel
theorem dX10_fit_0 : decode cX10_fit 0 = .ok (.aload_n 0, 1) := by decide +kernel
theorem dX10_fit_1 : decode cX10_fit 1 = .ok (.iload_n 1, 1) := by decide +kernel
theorem dX10_fit_2 : decode cX10_fit 2 = .ok (.invokevirtual 182, 3) := by decide +kernel
theorem dX10_fit_5 : decode cX10_fit 5 = .ok (.ifCond .eq 26, 3) := by decide +kernel
theorem dX10_fit_8 : decode cX10_fit 8 = .ok (.iload_n 2, 1) := by decide +kernel
theorem dX10_fit_9 : decode cX10_fit 9 = .ok (.bipush 100, 2) := by decide +kernel
theorem dX10_fit_11 : decode cX10_fit 11 = .ok (.if_icmp .eq 22, 3) := by decide +kernel
theorem dX10_fit_14 : decode cX10_fit 14 = .ok (.iload_n 2, 1) := by decide +kernel
theorem dX10_fit_15 : decode cX10_fit 15 = .ok (.bipush 101, 2) := by decide +kernel
theorem dX10_fit_17 : decode cX10_fit 17 = .ok (.if_icmp .eq 16, 3) := by decide +kernel
theorem dX10_fit_20 : decode cX10_fit 20 = .ok (.aload_n 0, 1) := by decide +kernel
theorem dX10_fit_21 : decode cX10_fit 21 = .ok (.getfield 10, 3) := by decide +kernel
theorem dX10_fit_24 : decode cX10_fit 24 = .ok (.iload_n 2, 1) := by decide +kernel
theorem dX10_fit_25 : decode cX10_fit 25 = .ok (.invokevirtual 106, 3) := by decide +kernel
theorem dX10_fit_28 : decode cX10_fit 28 = .ok (.ifCond .ne 5, 3) := by decide +kernel
theorem dX10_fit_31 : decode cX10_fit 31 = .ok (.iconst (-1), 1) := by decide +kernel
theorem dX10_fit_32 : decode cX10_fit 32 = .ok (.ireturn, 1) := by decide +kernel
theorem dX10_fit_33 : decode cX10_fit 33 = .ok (.iload_n 2, 1) := by decide +kernel
theorem dX10_fit_34 : decode cX10_fit 34 = .ok (.bipush 6, 2) := by decide +kernel
theorem dX10_fit_36 : decode cX10_fit 36 = .ok (.if_icmp .ge 30, 3) := by decide +kernel
theorem dX10_fit_66 : decode cX10_fit 66 = .ok (.aload_n 0, 1) := by decide +kernel
theorem dX10_fit_67 : decode cX10_fit 67 = .ok (.getfield 44, 3) := by decide +kernel
theorem dX10_fit_70 : decode cX10_fit 70 = .ok (.aload_n 0, 1) := by decide +kernel
theorem dX10_fit_71 : decode cX10_fit 71 = .ok (.getfield 37, 3) := by decide +kernel
theorem dX10_fit_74 : decode cX10_fit 74 = .ok (.invokevirtual 191, 3) := by decide +kernel
theorem dX10_fit_77 : decode cX10_fit 77 = .ok (.ifCond .ne 6, 3) := by decide +kernel
theorem dX10_fit_83 : decode cX10_fit 83 = .ok (.iload_n 2, 1) := by decide +kernel
theorem dX10_fit_84 : decode cX10_fit 84 = .ok (.bipush 100, 2) := by decide +kernel
theorem dX10_fit_86 : decode cX10_fit 86 = .ok (.if_icmp .ne 14, 3) := by decide +kernel
theorem dX10_fit_89 : decode cX10_fit 89 = .ok (.aload_n 0, 1) := by decide +kernel
theorem dX10_fit_90 : decode cX10_fit 90 = .ok (.getfield 44, 3) := by decide +kernel
theorem dX10_fit_93 : decode cX10_fit 93 = .ok (.iload_n 1, 1) := by decide +kernel
theorem dX10_fit_94 : decode cX10_fit 94 = .ok (.invokevirtual 195, 3) := by decide +kernel
theorem dX10_fit_97 : decode cX10_fit 97 = .ok (.goto 11, 3) := by decide +kernel
theorem dX10_fit_100 : decode cX10_fit 100 = .ok (.aload_n 0, 1) := by decide +kernel
theorem dX10_fit_101 : decode cX10_fit 101 = .ok (.getfield 44, 3) := by decide +kernel
theorem dX10_fit_104 : decode cX10_fit 104 = .ok (.iload_n 1, 1) := by decide +kernel
theorem dX10_fit_105 : decode cX10_fit 105 = .ok (.invokevirtual 198, 3) := by decide +kernel
theorem dX10_fit_108 : decode cX10_fit 108 = .ok (.ireturn, 1) := by decide +kernel
theorem dX10_ageIs_0 : decode cX10_ageIs 0 = .ok (.aload_n 0, 1) := by decide +kernel
theorem dX10_ageIs_1 : decode cX10_ageIs 1 = .ok (.iload_n 1, 1) := by decide +kernel
theorem dX10_ageIs_2 : decode cX10_ageIs 2 = .ok (.invokevirtual 182, 3) := by decide +kernel
theorem dX10_ageIs_5 : decode cX10_ageIs 5 = .ok (.ifCond .eq 23, 3) := by decide +kernel
theorem dX10_ageIs_8 : decode cX10_ageIs 8 = .ok (.aload_n 0, 1) := by decide +kernel
theorem dX10_ageIs_9 : decode cX10_ageIs 9 = .ok (.getfield 10, 3) := by decide +kernel
theorem dX10_ageIs_12 : decode cX10_ageIs 12 = .ok (.iload_n 2, 1) := by decide +kernel
theorem dX10_ageIs_13 : decode cX10_ageIs 13 = .ok (.invokevirtual 106, 3) := by decide +kernel
theorem dX10_ageIs_16 : decode cX10_ageIs 16 = .ok (.ifCond .eq 12, 3) := by decide +kernel
theorem dX10_ageIs_28 : decode cX10_ageIs 28 = .ok (.iconst (-1), 1) := by decide +kernel
theorem dX10_ageIs_29 : decode cX10_ageIs 29 = .ok (.ireturn, 1) := by decide +kernel
theorem dX10_aged_0 : decode cX10_aged 0 = .ok (.aload_n 0, 1) := by decide +kernel
theorem dX10_aged_1 : decode cX10_aged 1 = .ok (.iload_n 1, 1) := by decide +kernel
theorem dX10_aged_2 : decode cX10_aged 2 = .ok (.invokevirtual 182, 3) := by decide +kernel
theorem dX10_aged_5 : decode cX10_aged 5 = .ok (.ifCond .eq 24, 3) := by decide +kernel
theorem dX10_aged_8 : decode cX10_aged 8 = .ok (.aload_n 0, 1) := by decide +kernel
theorem dX10_aged_9 : decode cX10_aged 9 = .ok (.getfield 10, 3) := by decide +kernel
theorem dX10_aged_12 : decode cX10_aged 12 = .ok (.iload_n 2, 1) := by decide +kernel
theorem dX10_aged_13 : decode cX10_aged 13 = .ok (.invokevirtual 106, 3) := by decide +kernel
theorem dX10_aged_16 : decode cX10_aged 16 = .ok (.ifCond .eq 13, 3) := by decide +kernel
theorem dX10_aged_29 : decode cX10_aged 29 = .ok (.iconst (-1), 1) := by decide +kernel
theorem dX10_aged_30 : decode cX10_aged 30 = .ok (.ireturn, 1) := by decide +kernel
theorem dX10_middle_0 : decode cX10_middle 0 = .ok (.aload_n 0, 1) := by decide +kernel
theorem dX10_middle_1 : decode cX10_middle 1 = .ok (.iload_n 1, 1) := by decide +kernel
theorem dX10_middle_2 : decode cX10_middle 2 = .ok (.invokevirtual 182, 3) := by decide +kernel
theorem dX10_middle_5 : decode cX10_middle 5 = .ok (.ifCond .eq 14, 3) := by decide +kernel
theorem dX10_middle_8 : decode cX10_middle 8 = .ok (.aload_n 0, 1) := by decide +kernel
theorem dX10_middle_9 : decode cX10_middle 9 = .ok (.getfield 10, 3) := by decide +kernel
theorem dX10_middle_12 : decode cX10_middle 12 = .ok (.iload_n 2, 1) := by decide +kernel
theorem dX10_middle_13 : decode cX10_middle 13 = .ok (.invokevirtual 106, 3) := by decide +kernel
theorem dX10_middle_16 : decode cX10_middle 16 = .ok (.ifCond .ne 5, 3) := by decide +kernel
theorem dX10_middle_19 : decode cX10_middle 19 = .ok (.iconst (-1), 1) := by decide +kernel
theorem dX10_middle_20 : decode cX10_middle 20 = .ok (.ireturn, 1) := by decide +kernel
theorem dX10_apart_0 : decode cX10_apart 0 = .ok (.aload_n 0, 1) := by decide +kernel
theorem dX10_apart_1 : decode cX10_apart 1 = .ok (.iload_n 1, 1) := by decide +kernel
theorem dX10_apart_2 : decode cX10_apart 2 = .ok (.invokevirtual 182, 3) := by decide +kernel
theorem dX10_apart_5 : decode cX10_apart 5 = .ok (.ifCond .eq 41, 3) := by decide +kernel
theorem dX10_apart_8 : decode cX10_apart 8 = .ok (.aload_n 0, 1) := by decide +kernel
theorem dX10_apart_9 : decode cX10_apart 9 = .ok (.getfield 10, 3) := by decide +kernel
theorem dX10_apart_12 : decode cX10_apart 12 = .ok (.iload_n 2, 1) := by decide +kernel
theorem dX10_apart_13 : decode cX10_apart 13 = .ok (.invokevirtual 106, 3) := by decide +kernel
theorem dX10_apart_16 : decode cX10_apart 16 = .ok (.ifCond .eq 30, 3) := by decide +kernel
theorem dX10_apart_46 : decode cX10_apart 46 = .ok (.sipush (-400), 3) := by decide +kernel
theorem dX10_apart_49 : decode cX10_apart 49 = .ok (.ireturn, 1) := by decide +kernel
theorem dX10_offByAYear_0 : decode cX10_offByAYear 0 = .ok (.aload_n 0, 1) := by decide +kernel
theorem dX10_offByAYear_1 : decode cX10_offByAYear 1 = .ok (.iload_n 1, 1) := by decide +kernel
theorem dX10_offByAYear_2 : decode cX10_offByAYear 2 = .ok (.invokevirtual 182, 3) := by decide +kernel
theorem dX10_offByAYear_5 : decode cX10_offByAYear 5 = .ok (.ifCond .eq 12, 3) := by decide +kernel
theorem dX10_offByAYear_8 : decode cX10_offByAYear 8 = .ok (.iload_n 2, 1) := by decide +kernel
theorem dX10_offByAYear_9 : decode cX10_offByAYear 9 = .ok (.ifCond .lt 8, 3) := by decide +kernel
theorem dX10_offByAYear_12 : decode cX10_offByAYear 12 = .ok (.iload_n 2, 1) := by decide +kernel
theorem dX10_offByAYear_13 : decode cX10_offByAYear 13 = .ok (.iconst 1, 1) := by decide +kernel
theorem dX10_offByAYear_14 : decode cX10_offByAYear 14 = .ok (.if_icmp .le 5, 3) := by decide +kernel
theorem dX10_offByAYear_17 : decode cX10_offByAYear 17 = .ok (.iconst (-1), 1) := by decide +kernel
theorem dX10_offByAYear_18 : decode cX10_offByAYear 18 = .ok (.ireturn, 1) := by decide +kernel
theorem dX10_offByAYear_19 : decode cX10_offByAYear 19 = .ok (.aload_n 0, 1) := by decide +kernel
theorem dX10_offByAYear_20 : decode cX10_offByAYear 20 = .ok (.getfield 37, 3) := by decide +kernel
theorem dX10_offByAYear_23 : decode cX10_offByAYear 23 = .ok (.iload_n 1, 1) := by decide +kernel
theorem dX10_offByAYear_24 : decode cX10_offByAYear 24 = .ok (.invokevirtual 201, 3) := by decide +kernel
theorem dX10_offByAYear_27 : decode cX10_offByAYear 27 = .ok (.ifCond .ne 6, 3) := by decide +kernel
theorem dX10_offByAYear_33 : decode cX10_offByAYear 33 = .ok (.iconst (-1), 1) := by decide +kernel
theorem dX10_offByAYear_34 : decode cX10_offByAYear 34 = .ok (.istore_n 3, 1) := by decide +kernel
theorem dX10_offByAYear_35 : decode cX10_offByAYear 35 = .ok (.iconst 0, 1) := by decide +kernel
theorem dX10_offByAYear_36 : decode cX10_offByAYear 36 = .ok (.istore 4, 2) := by decide +kernel
theorem dX10_offByAYear_38 : decode cX10_offByAYear 38 = .ok (.iload 4, 2) := by decide +kernel
theorem dX10_offByAYear_40 : decode cX10_offByAYear 40 = .ok (.ldc 210, 2) := by decide +kernel
theorem dX10_offByAYear_42 : decode cX10_offByAYear 42 = .ok (.if_icmp .ge 49, 3) := by decide +kernel
theorem dX10_offByAYear_45 : decode cX10_offByAYear 45 = .ok (.aload_n 0, 1) := by decide +kernel
theorem dX10_offByAYear_46 : decode cX10_offByAYear 46 = .ok (.getfield 37, 3) := by decide +kernel
theorem dX10_offByAYear_49 : decode cX10_offByAYear 49 = .ok (.invokevirtual 232, 3) := by decide +kernel
theorem dX10_offByAYear_52 : decode cX10_offByAYear 52 = .ok (.ifCond .eq 39, 3) := by decide +kernel
theorem dX10_offByAYear_55 : decode cX10_offByAYear 55 = .ok (.aload_n 0, 1) := by decide +kernel
theorem dX10_offByAYear_56 : decode cX10_offByAYear 56 = .ok (.getfield 37, 3) := by decide +kernel
theorem dX10_offByAYear_59 : decode cX10_offByAYear 59 = .ok (.invokevirtual 235, 3) := by decide +kernel
theorem dX10_offByAYear_62 : decode cX10_offByAYear 62 = .ok (.istore 5, 2) := by decide +kernel
theorem dX10_offByAYear_64 : decode cX10_offByAYear 64 = .ok (.iload 5, 2) := by decide +kernel
theorem dX10_offByAYear_66 : decode cX10_offByAYear 66 = .ok (.ifCond .lt 19, 3) := by decide +kernel
theorem dX10_offByAYear_69 : decode cX10_offByAYear 69 = .ok (.iload_n 3, 1) := by decide +kernel
theorem dX10_offByAYear_70 : decode cX10_offByAYear 70 = .ok (.ifCond .lt 12, 3) := by decide +kernel
theorem dX10_offByAYear_82 : decode cX10_offByAYear 82 = .ok (.iload 5, 2) := by decide +kernel
theorem dX10_offByAYear_84 : decode cX10_offByAYear 84 = .ok (.istore_n 3, 1) := by decide +kernel
theorem dX10_offByAYear_85 : decode cX10_offByAYear 85 = .ok (.iinc 4 1, 3) := by decide +kernel
theorem dX10_offByAYear_88 : decode cX10_offByAYear 88 = .ok (.goto (-50), 3) := by decide +kernel
theorem dX10_offByAYear_91 : decode cX10_offByAYear 91 = .ok (.iload_n 3, 1) := by decide +kernel
theorem dX10_offByAYear_92 : decode cX10_offByAYear 92 = .ok (.ifCond .ge 6, 3) := by decide +kernel
theorem dX10_offByAYear_98 : decode cX10_offByAYear 98 = .ok (.iload_n 2, 1) := by decide +kernel
theorem dX10_offByAYear_99 : decode cX10_offByAYear 99 = .ok (.ifCond .ne 10, 3) := by decide +kernel
theorem dX10_offByAYear_102 : decode cX10_offByAYear 102 = .ok (.iload_n 3, 1) := by decide +kernel
theorem dX10_offByAYear_103 : decode cX10_offByAYear 103 = .ok (.invokestatic 150, 3) := by decide +kernel
theorem dX10_offByAYear_106 : decode cX10_offByAYear 106 = .ok (.goto 4, 3) := by decide +kernel
theorem dX10_offByAYear_109 : decode cX10_offByAYear 109 = .ok (.iload_n 3, 1) := by decide +kernel
theorem dX10_offByAYear_110 : decode cX10_offByAYear 110 = .ok (.ireturn, 1) := by decide +kernel
theorem dX10_follows_0 : decode cX10_follows 0 = .ok (.aload_n 0, 1) := by decide +kernel
theorem dX10_follows_1 : decode cX10_follows 1 = .ok (.iload_n 1, 1) := by decide +kernel
theorem dX10_follows_2 : decode cX10_follows 2 = .ok (.invokevirtual 182, 3) := by decide +kernel
theorem dX10_follows_5 : decode cX10_follows 5 = .ok (.ifCond .eq 12, 3) := by decide +kernel
theorem dX10_follows_8 : decode cX10_follows 8 = .ok (.iload_n 2, 1) := by decide +kernel
theorem dX10_follows_9 : decode cX10_follows 9 = .ok (.ifCond .lt 8, 3) := by decide +kernel
theorem dX10_follows_12 : decode cX10_follows 12 = .ok (.iload_n 2, 1) := by decide +kernel
theorem dX10_follows_13 : decode cX10_follows 13 = .ok (.iconst 1, 1) := by decide +kernel
theorem dX10_follows_14 : decode cX10_follows 14 = .ok (.if_icmp .le 5, 3) := by decide +kernel
theorem dX10_follows_17 : decode cX10_follows 17 = .ok (.iconst (-1), 1) := by decide +kernel
theorem dX10_follows_18 : decode cX10_follows 18 = .ok (.ireturn, 1) := by decide +kernel
theorem dX10_follows_19 : decode cX10_follows 19 = .ok (.aload_n 0, 1) := by decide +kernel
theorem dX10_follows_20 : decode cX10_follows 20 = .ok (.getfield 44, 3) := by decide +kernel
theorem dX10_follows_23 : decode cX10_follows 23 = .ok (.aload_n 0, 1) := by decide +kernel
theorem dX10_follows_24 : decode cX10_follows 24 = .ok (.getfield 37, 3) := by decide +kernel
theorem dX10_follows_27 : decode cX10_follows 27 = .ok (.invokevirtual 191, 3) := by decide +kernel
theorem dX10_follows_30 : decode cX10_follows 30 = .ok (.ifCond .ne 6, 3) := by decide +kernel
theorem dX10_follows_36 : decode cX10_follows 36 = .ok (.iload_n 2, 1) := by decide +kernel
theorem dX10_follows_37 : decode cX10_follows 37 = .ok (.ifCond .ne 14, 3) := by decide +kernel
theorem dX10_follows_40 : decode cX10_follows 40 = .ok (.aload_n 0, 1) := by decide +kernel
theorem dX10_follows_41 : decode cX10_follows 41 = .ok (.getfield 44, 3) := by decide +kernel
theorem dX10_follows_44 : decode cX10_follows 44 = .ok (.iload_n 1, 1) := by decide +kernel
theorem dX10_follows_45 : decode cX10_follows 45 = .ok (.invokevirtual 195, 3) := by decide +kernel
theorem dX10_follows_48 : decode cX10_follows 48 = .ok (.goto 4, 3) := by decide +kernel
theorem dX10_follows_51 : decode cX10_follows 51 = .ok (.iconst 0, 1) := by decide +kernel
theorem dX10_follows_52 : decode cX10_follows 52 = .ok (.istore_n 3, 1) := by decide +kernel
theorem dX10_follows_53 : decode cX10_follows 53 = .ok (.iconst 0, 1) := by decide +kernel
theorem dX10_follows_54 : decode cX10_follows 54 = .ok (.istore 4, 2) := by decide +kernel
theorem dX10_follows_56 : decode cX10_follows 56 = .ok (.iconst 0, 1) := by decide +kernel
theorem dX10_follows_57 : decode cX10_follows 57 = .ok (.istore 5, 2) := by decide +kernel
theorem dX10_follows_59 : decode cX10_follows 59 = .ok (.iload 5, 2) := by decide +kernel
theorem dX10_follows_61 : decode cX10_follows 61 = .ok (.bipush 10, 2) := by decide +kernel
theorem dX10_follows_63 : decode cX10_follows 63 = .ok (.if_icmp .ge 47, 3) := by decide +kernel
theorem dX10_follows_66 : decode cX10_follows 66 = .ok (.aload_n 0, 1) := by decide +kernel
theorem dX10_follows_67 : decode cX10_follows 67 = .ok (.getfield 10, 3) := by decide +kernel
theorem dX10_follows_70 : decode cX10_follows 70 = .ok (.iload 5, 2) := by decide +kernel
theorem dX10_follows_72 : decode cX10_follows 72 = .ok (.invokevirtual 156, 3) := by decide +kernel
theorem dX10_follows_75 : decode cX10_follows 75 = .ok (.ifCond .eq 29, 3) := by decide +kernel
theorem dX10_follows_104 : decode cX10_follows 104 = .ok (.iinc 5 1, 3) := by decide +kernel
theorem dX10_follows_107 : decode cX10_follows 107 = .ok (.goto (-48), 3) := by decide +kernel
theorem dX10_follows_110 : decode cX10_follows 110 = .ok (.iload 4, 2) := by decide +kernel
theorem dX10_follows_112 : decode cX10_follows 112 = .ok (.ireturn, 1) := by decide +kernel
theorem dX10_clash_0 : decode cX10_clash 0 = .ok (.aload_n 0, 1) := by decide +kernel
theorem dX10_clash_1 : decode cX10_clash 1 = .ok (.iload_n 1, 1) := by decide +kernel
theorem dX10_clash_2 : decode cX10_clash 2 = .ok (.invokevirtual 182, 3) := by decide +kernel
theorem dX10_clash_5 : decode cX10_clash 5 = .ok (.ifCond .eq 12, 3) := by decide +kernel
theorem dX10_clash_8 : decode cX10_clash 8 = .ok (.iload_n 2, 1) := by decide +kernel
theorem dX10_clash_9 : decode cX10_clash 9 = .ok (.ifCond .lt 8, 3) := by decide +kernel
theorem dX10_clash_12 : decode cX10_clash 12 = .ok (.iload_n 2, 1) := by decide +kernel
theorem dX10_clash_13 : decode cX10_clash 13 = .ok (.iconst 1, 1) := by decide +kernel
theorem dX10_clash_14 : decode cX10_clash 14 = .ok (.if_icmp .le 5, 3) := by decide +kernel
theorem dX10_clash_17 : decode cX10_clash 17 = .ok (.iconst (-1), 1) := by decide +kernel
theorem dX10_clash_18 : decode cX10_clash 18 = .ok (.ireturn, 1) := by decide +kernel
theorem dX10_clash_19 : decode cX10_clash 19 = .ok (.aload_n 0, 1) := by decide +kernel
theorem dX10_clash_20 : decode cX10_clash 20 = .ok (.getfield 44, 3) := by decide +kernel
theorem dX10_clash_23 : decode cX10_clash 23 = .ok (.aload_n 0, 1) := by decide +kernel
theorem dX10_clash_24 : decode cX10_clash 24 = .ok (.getfield 37, 3) := by decide +kernel
theorem dX10_clash_27 : decode cX10_clash 27 = .ok (.invokevirtual 191, 3) := by decide +kernel
theorem dX10_clash_30 : decode cX10_clash 30 = .ok (.ifCond .ne 6, 3) := by decide +kernel
theorem dX10_clash_36 : decode cX10_clash 36 = .ok (.aload_n 0, 1) := by decide +kernel
theorem dX10_clash_37 : decode cX10_clash 37 = .ok (.getfield 44, 3) := by decide +kernel
theorem dX10_clash_40 : decode cX10_clash 40 = .ok (.iload_n 1, 1) := by decide +kernel
theorem dX10_clash_41 : decode cX10_clash 41 = .ok (.invokevirtual 195, 3) := by decide +kernel
theorem dX10_clash_44 : decode cX10_clash 44 = .ok (.ifCond .le 6, 3) := by decide +kernel
theorem dX10_clash_47 : decode cX10_clash 47 = .ok (.bipush (-2), 2) := by decide +kernel
theorem dX10_clash_49 : decode cX10_clash 49 = .ok (.ireturn, 1) := by decide +kernel
theorem dX10_needless_0 : decode cX10_needless 0 = .ok (.aload_n 0, 1) := by decide +kernel
theorem dX10_needless_1 : decode cX10_needless 1 = .ok (.iload_n 1, 1) := by decide +kernel
theorem dX10_needless_2 : decode cX10_needless 2 = .ok (.invokevirtual 182, 3) := by decide +kernel
theorem dX10_needless_5 : decode cX10_needless 5 = .ok (.ifCond .ne 5, 3) := by decide +kernel
theorem dX10_needless_8 : decode cX10_needless 8 = .ok (.iconst (-1), 1) := by decide +kernel
theorem dX10_needless_9 : decode cX10_needless 9 = .ok (.ireturn, 1) := by decide +kernel
theorem dX10_needless_10 : decode cX10_needless 10 = .ok (.aload_n 0, 1) := by decide +kernel
theorem dX10_needless_11 : decode cX10_needless 11 = .ok (.getfield 44, 3) := by decide +kernel
theorem dX10_needless_14 : decode cX10_needless 14 = .ok (.aload_n 0, 1) := by decide +kernel
theorem dX10_needless_15 : decode cX10_needless 15 = .ok (.getfield 37, 3) := by decide +kernel
theorem dX10_needless_18 : decode cX10_needless 18 = .ok (.invokevirtual 191, 3) := by decide +kernel
theorem dX10_needless_21 : decode cX10_needless 21 = .ok (.ifCond .ne 6, 3) := by decide +kernel
theorem dX10_needless_27 : decode cX10_needless 27 = .ok (.iconst 0, 1) := by decide +kernel
theorem dX10_needless_28 : decode cX10_needless 28 = .ok (.istore_n 2, 1) := by decide +kernel
theorem dX10_needless_29 : decode cX10_needless 29 = .ok (.iconst 0, 1) := by decide +kernel
theorem dX10_needless_30 : decode cX10_needless 30 = .ok (.istore_n 3, 1) := by decide +kernel
theorem dX10_needless_31 : decode cX10_needless 31 = .ok (.iload_n 3, 1) := by decide +kernel
theorem dX10_needless_32 : decode cX10_needless 32 = .ok (.bipush 10, 2) := by decide +kernel
theorem dX10_needless_34 : decode cX10_needless 34 = .ok (.if_icmp .ge 50, 3) := by decide +kernel
theorem dX10_needless_37 : decode cX10_needless 37 = .ok (.iconst 1, 1) := by decide +kernel
theorem dX10_needless_38 : decode cX10_needless 38 = .ok (.iload_n 3, 1) := by decide +kernel
theorem dX10_needless_39 : decode cX10_needless 39 = .ok (.ishl, 1) := by decide +kernel
theorem dX10_needless_40 : decode cX10_needless 40 = .ok (.istore 4, 2) := by decide +kernel
theorem dX10_needless_42 : decode cX10_needless 42 = .ok (.iload_n 1, 1) := by decide +kernel
theorem dX10_needless_43 : decode cX10_needless 43 = .ok (.iload 4, 2) := by decide +kernel
theorem dX10_needless_45 : decode cX10_needless 45 = .ok (.iand, 1) := by decide +kernel
theorem dX10_needless_46 : decode cX10_needless 46 = .ok (.ifCond .eq 32, 3) := by decide +kernel
theorem dX10_needless_78 : decode cX10_needless 78 = .ok (.iinc 3 1, 3) := by decide +kernel
theorem dX10_needless_81 : decode cX10_needless 81 = .ok (.goto (-50), 3) := by decide +kernel
theorem dX10_needless_84 : decode cX10_needless 84 = .ok (.iload_n 2, 1) := by decide +kernel
theorem dX10_needless_85 : decode cX10_needless 85 = .ok (.ireturn, 1) := by decide +kernel
theorem dX10_settles_0 : decode cX10_settles 0 = .ok (.aload_n 0, 1) := by decide +kernel
theorem dX10_settles_1 : decode cX10_settles 1 = .ok (.iload_n 1, 1) := by decide +kernel
theorem dX10_settles_2 : decode cX10_settles 2 = .ok (.invokevirtual 182, 3) := by decide +kernel
theorem dX10_settles_5 : decode cX10_settles 5 = .ok (.ifCond .ne 5, 3) := by decide +kernel
theorem dX10_settles_8 : decode cX10_settles 8 = .ok (.iconst (-1), 1) := by decide +kernel
theorem dX10_settles_9 : decode cX10_settles 9 = .ok (.ireturn, 1) := by decide +kernel
theorem dX10_settles_10 : decode cX10_settles 10 = .ok (.aload_n 0, 1) := by decide +kernel
theorem dX10_settles_11 : decode cX10_settles 11 = .ok (.getfield 44, 3) := by decide +kernel
theorem dX10_settles_14 : decode cX10_settles 14 = .ok (.aload_n 0, 1) := by decide +kernel
theorem dX10_settles_15 : decode cX10_settles 15 = .ok (.getfield 37, 3) := by decide +kernel
theorem dX10_settles_18 : decode cX10_settles 18 = .ok (.invokevirtual 191, 3) := by decide +kernel
theorem dX10_settles_21 : decode cX10_settles 21 = .ok (.ifCond .ne 6, 3) := by decide +kernel
theorem dX10_settles_27 : decode cX10_settles 27 = .ok (.iconst 0, 1) := by decide +kernel
theorem dX10_settles_28 : decode cX10_settles 28 = .ok (.istore_n 2, 1) := by decide +kernel
theorem dX10_settles_29 : decode cX10_settles 29 = .ok (.iload_n 2, 1) := by decide +kernel
theorem dX10_settles_30 : decode cX10_settles 30 = .ok (.bipush 10, 2) := by decide +kernel
theorem dX10_settles_32 : decode cX10_settles 32 = .ok (.if_icmp .ge 36, 3) := by decide +kernel
theorem dX10_settles_35 : decode cX10_settles 35 = .ok (.aload_n 0, 1) := by decide +kernel
theorem dX10_settles_36 : decode cX10_settles 36 = .ok (.iload_n 1, 1) := by decide +kernel
theorem dX10_settles_37 : decode cX10_settles 37 = .ok (.iload_n 2, 1) := by decide +kernel
theorem dX10_settles_38 : decode cX10_settles 38 = .ok (.invokevirtual 241, 3) := by decide +kernel
theorem dX10_settles_41 : decode cX10_settles 41 = .ok (.ifCond .eq 21, 3) := by decide +kernel
theorem dX10_settles_62 : decode cX10_settles 62 = .ok (.iinc 2 1, 3) := by decide +kernel
theorem dX10_settles_65 : decode cX10_settles 65 = .ok (.goto (-36), 3) := by decide +kernel
theorem dX10_settles_68 : decode cX10_settles 68 = .ok (.bipush (-2), 2) := by decide +kernel
theorem dX10_settles_70 : decode cX10_settles 70 = .ok (.ireturn, 1) := by decide +kernel
theorem dX10_isOther_0 : decode cX10_isOther 0 = .ok (.aload_n 0, 1) := by decide +kernel
theorem dX10_isOther_1 : decode cX10_isOther 1 = .ok (.getfield 10, 3) := by decide +kernel
theorem dX10_isOther_4 : decode cX10_isOther 4 = .ok (.iload_n 2, 1) := by decide +kernel
theorem dX10_isOther_5 : decode cX10_isOther 5 = .ok (.invokevirtual 156, 3) := by decide +kernel
theorem dX10_isOther_8 : decode cX10_isOther 8 = .ok (.ifCond .eq 15, 3) := by decide +kernel
theorem dX10_isOther_23 : decode cX10_isOther 23 = .ok (.iconst 0, 1) := by decide +kernel
theorem dX10_isOther_24 : decode cX10_isOther 24 = .ok (.ireturn, 1) := by decide +kernel
theorem dX10_fewest_0 : decode cX10_fewest 0 = .ok (.aload_n 0, 1) := by decide +kernel
theorem dX10_fewest_1 : decode cX10_fewest 1 = .ok (.iload_n 1, 1) := by decide +kernel
theorem dX10_fewest_2 : decode cX10_fewest 2 = .ok (.invokevirtual 182, 3) := by decide +kernel
theorem dX10_fewest_5 : decode cX10_fewest 5 = .ok (.ifCond .eq 12, 3) := by decide +kernel
theorem dX10_fewest_8 : decode cX10_fewest 8 = .ok (.iload_n 2, 1) := by decide +kernel
theorem dX10_fewest_9 : decode cX10_fewest 9 = .ok (.ifCond .lt 8, 3) := by decide +kernel
theorem dX10_fewest_12 : decode cX10_fewest 12 = .ok (.iload_n 2, 1) := by decide +kernel
theorem dX10_fewest_13 : decode cX10_fewest 13 = .ok (.iconst 1, 1) := by decide +kernel
theorem dX10_fewest_14 : decode cX10_fewest 14 = .ok (.if_icmp .le 5, 3) := by decide +kernel
theorem dX10_fewest_17 : decode cX10_fewest 17 = .ok (.iconst (-1), 1) := by decide +kernel
theorem dX10_fewest_18 : decode cX10_fewest 18 = .ok (.ireturn, 1) := by decide +kernel
theorem dX10_fewest_19 : decode cX10_fewest 19 = .ok (.aload_n 0, 1) := by decide +kernel
theorem dX10_fewest_20 : decode cX10_fewest 20 = .ok (.getfield 44, 3) := by decide +kernel
theorem dX10_fewest_23 : decode cX10_fewest 23 = .ok (.aload_n 0, 1) := by decide +kernel
theorem dX10_fewest_24 : decode cX10_fewest 24 = .ok (.getfield 37, 3) := by decide +kernel
theorem dX10_fewest_27 : decode cX10_fewest 27 = .ok (.invokevirtual 191, 3) := by decide +kernel
theorem dX10_fewest_30 : decode cX10_fewest 30 = .ok (.ifCond .ne 6, 3) := by decide +kernel
theorem dX10_fewest_36 : decode cX10_fewest 36 = .ok (.aload_n 0, 1) := by decide +kernel
theorem dX10_fewest_37 : decode cX10_fewest 37 = .ok (.getfield 10, 3) := by decide +kernel
theorem dX10_fewest_40 : decode cX10_fewest 40 = .ok (.invokevirtual 169, 3) := by decide +kernel
theorem dX10_fewest_43 : decode cX10_fewest 43 = .ok (.iload_n 1, 1) := by decide +kernel
theorem dX10_fewest_44 : decode cX10_fewest 44 = .ok (.iconst (-1), 1) := by decide +kernel
theorem dX10_fewest_45 : decode cX10_fewest 45 = .ok (.ixor, 1) := by decide +kernel
theorem dX10_fewest_46 : decode cX10_fewest 46 = .ok (.iand, 1) := by decide +kernel
theorem dX10_fewest_47 : decode cX10_fewest 47 = .ok (.istore_n 3, 1) := by decide +kernel
theorem dX10_fewest_48 : decode cX10_fewest 48 = .ok (.iconst (-1), 1) := by decide +kernel
theorem dX10_fewest_49 : decode cX10_fewest 49 = .ok (.istore 4, 2) := by decide +kernel
theorem dX10_fewest_51 : decode cX10_fewest 51 = .ok (.iconst 0, 1) := by decide +kernel
theorem dX10_fewest_52 : decode cX10_fewest 52 = .ok (.istore 5, 2) := by decide +kernel
theorem dX10_fewest_54 : decode cX10_fewest 54 = .ok (.iload 5, 2) := by decide +kernel
theorem dX10_fewest_56 : decode cX10_fewest 56 = .ok (.sipush 1024, 3) := by decide +kernel
theorem dX10_fewest_59 : decode cX10_fewest 59 = .ok (.if_icmp .ge 61, 3) := by decide +kernel
theorem dX10_fewest_62 : decode cX10_fewest 62 = .ok (.iload 5, 2) := by decide +kernel
theorem dX10_fewest_64 : decode cX10_fewest 64 = .ok (.iload_n 3, 1) := by decide +kernel
theorem dX10_fewest_65 : decode cX10_fewest 65 = .ok (.iconst (-1), 1) := by decide +kernel
theorem dX10_fewest_66 : decode cX10_fewest 66 = .ok (.ixor, 1) := by decide +kernel
theorem dX10_fewest_67 : decode cX10_fewest 67 = .ok (.iand, 1) := by decide +kernel
theorem dX10_fewest_68 : decode cX10_fewest 68 = .ok (.ifCond .ne 46, 3) := by decide +kernel
theorem dX10_fewest_71 : decode cX10_fewest 71 = .ok (.iload 5, 2) := by decide +kernel
theorem dX10_fewest_73 : decode cX10_fewest 73 = .ok (.invokestatic 150, 3) := by decide +kernel
theorem dX10_fewest_76 : decode cX10_fewest 76 = .ok (.iconst 3, 1) := by decide +kernel
theorem dX10_fewest_77 : decode cX10_fewest 77 = .ok (.if_icmp .gt 37, 3) := by decide +kernel
theorem dX10_fewest_80 : decode cX10_fewest 80 = .ok (.aload_n 0, 1) := by decide +kernel
theorem dX10_fewest_81 : decode cX10_fewest 81 = .ok (.getfield 44, 3) := by decide +kernel
theorem dX10_fewest_84 : decode cX10_fewest 84 = .ok (.iload_n 1, 1) := by decide +kernel
theorem dX10_fewest_85 : decode cX10_fewest 85 = .ok (.iload 5, 2) := by decide +kernel
theorem dX10_fewest_87 : decode cX10_fewest 87 = .ok (.ior, 1) := by decide +kernel
theorem dX10_fewest_88 : decode cX10_fewest 88 = .ok (.invokevirtual 195, 3) := by decide +kernel
theorem dX10_fewest_91 : decode cX10_fewest 91 = .ok (.iconst 1, 1) := by decide +kernel
theorem dX10_fewest_92 : decode cX10_fewest 92 = .ok (.if_icmp .ne 22, 3) := by decide +kernel
theorem dX10_fewest_95 : decode cX10_fewest 95 = .ok (.iload 4, 2) := by decide +kernel
theorem dX10_fewest_97 : decode cX10_fewest 97 = .ok (.ifCond .lt 13, 3) := by decide +kernel
theorem dX10_fewest_110 : decode cX10_fewest 110 = .ok (.iload 5, 2) := by decide +kernel
theorem dX10_fewest_112 : decode cX10_fewest 112 = .ok (.istore 4, 2) := by decide +kernel
theorem dX10_fewest_114 : decode cX10_fewest 114 = .ok (.iinc 5 1, 3) := by decide +kernel
theorem dX10_fewest_117 : decode cX10_fewest 117 = .ok (.goto (-63), 3) := by decide +kernel
theorem dX10_fewest_120 : decode cX10_fewest 120 = .ok (.iload 4, 2) := by decide +kernel
theorem dX10_fewest_122 : decode cX10_fewest 122 = .ok (.ifCond .ge 6, 3) := by decide +kernel
theorem dX10_fewest_128 : decode cX10_fewest 128 = .ok (.iload_n 2, 1) := by decide +kernel
theorem dX10_fewest_129 : decode cX10_fewest 129 = .ok (.ifCond .ne 11, 3) := by decide +kernel
theorem dX10_fewest_132 : decode cX10_fewest 132 = .ok (.iload 4, 2) := by decide +kernel
theorem dX10_fewest_134 : decode cX10_fewest 134 = .ok (.invokestatic 150, 3) := by decide +kernel
theorem dX10_fewest_137 : decode cX10_fewest 137 = .ok (.goto 5, 3) := by decide +kernel
theorem dX10_fewest_140 : decode cX10_fewest 140 = .ok (.iload 4, 2) := by decide +kernel
theorem dX10_fewest_142 : decode cX10_fewest 142 = .ok (.ireturn, 1) := by decide +kernel
theorem dX10_asks_0 : decode cX10_asks 0 = .ok (.aload_n 0, 1) := by decide +kernel
theorem dX10_asks_1 : decode cX10_asks 1 = .ok (.iload_n 1, 1) := by decide +kernel
theorem dX10_asks_2 : decode cX10_asks 2 = .ok (.invokevirtual 182, 3) := by decide +kernel
theorem dX10_asks_5 : decode cX10_asks 5 = .ok (.ifCond .eq 12, 3) := by decide +kernel
theorem dX10_asks_8 : decode cX10_asks 8 = .ok (.iload_n 2, 1) := by decide +kernel
theorem dX10_asks_9 : decode cX10_asks 9 = .ok (.ifCond .lt 8, 3) := by decide +kernel
theorem dX10_asks_12 : decode cX10_asks 12 = .ok (.iload_n 2, 1) := by decide +kernel
theorem dX10_asks_13 : decode cX10_asks 13 = .ok (.iconst 2, 1) := by decide +kernel
theorem dX10_asks_14 : decode cX10_asks 14 = .ok (.if_icmp .le 5, 3) := by decide +kernel
theorem dX10_asks_17 : decode cX10_asks 17 = .ok (.iconst (-1), 1) := by decide +kernel
theorem dX10_asks_18 : decode cX10_asks 18 = .ok (.ireturn, 1) := by decide +kernel
theorem dX10_asks_19 : decode cX10_asks 19 = .ok (.aload_n 0, 1) := by decide +kernel
theorem dX10_asks_20 : decode cX10_asks 20 = .ok (.getfield 44, 3) := by decide +kernel
theorem dX10_asks_23 : decode cX10_asks 23 = .ok (.aload_n 0, 1) := by decide +kernel
theorem dX10_asks_24 : decode cX10_asks 24 = .ok (.getfield 37, 3) := by decide +kernel
theorem dX10_asks_27 : decode cX10_asks 27 = .ok (.invokevirtual 191, 3) := by decide +kernel
theorem dX10_asks_30 : decode cX10_asks 30 = .ok (.ifCond .ne 6, 3) := by decide +kernel
theorem dX10_asks_36 : decode cX10_asks 36 = .ok (.aload_n 0, 1) := by decide +kernel
theorem dX10_asks_37 : decode cX10_asks 37 = .ok (.getfield 44, 3) := by decide +kernel
theorem dX10_asks_40 : decode cX10_asks 40 = .ok (.iload_n 1, 1) := by decide +kernel
theorem dX10_asks_41 : decode cX10_asks 41 = .ok (.invokevirtual 195, 3) := by decide +kernel
theorem dX10_asks_44 : decode cX10_asks 44 = .ok (.istore_n 3, 1) := by decide +kernel
theorem dX10_asks_45 : decode cX10_asks 45 = .ok (.bipush (-2), 2) := by decide +kernel
theorem dX10_asks_47 : decode cX10_asks 47 = .ok (.istore 4, 2) := by decide +kernel
theorem dX10_asks_49 : decode cX10_asks 49 = .ok (.iconst 0, 1) := by decide +kernel
theorem dX10_asks_50 : decode cX10_asks 50 = .ok (.istore 5, 2) := by decide +kernel
theorem dX10_asks_52 : decode cX10_asks 52 = .ok (.iconst 0, 1) := by decide +kernel
theorem dX10_asks_53 : decode cX10_asks 53 = .ok (.istore 6, 2) := by decide +kernel
theorem dX10_asks_55 : decode cX10_asks 55 = .ok (.iload 6, 2) := by decide +kernel
theorem dX10_asks_57 : decode cX10_asks 57 = .ok (.bipush 10, 2) := by decide +kernel
theorem dX10_asks_59 : decode cX10_asks 59 = .ok (.if_icmp .ge 76, 3) := by decide +kernel
theorem dX10_asks_62 : decode cX10_asks 62 = .ok (.iload_n 3, 1) := by decide +kernel
theorem dX10_asks_63 : decode cX10_asks 63 = .ok (.ifCond .le 72, 3) := by decide +kernel
theorem dX10_asks_66 : decode cX10_asks 66 = .ok (.aload_n 0, 1) := by decide +kernel
theorem dX10_asks_67 : decode cX10_asks 67 = .ok (.getfield 44, 3) := by decide +kernel
theorem dX10_asks_70 : decode cX10_asks 70 = .ok (.iload_n 1, 1) := by decide +kernel
theorem dX10_asks_71 : decode cX10_asks 71 = .ok (.iconst 1, 1) := by decide +kernel
theorem dX10_asks_72 : decode cX10_asks 72 = .ok (.iload 6, 2) := by decide +kernel
theorem dX10_asks_74 : decode cX10_asks 74 = .ok (.ishl, 1) := by decide +kernel
theorem dX10_asks_75 : decode cX10_asks 75 = .ok (.ior, 1) := by decide +kernel
theorem dX10_asks_76 : decode cX10_asks 76 = .ok (.invokevirtual 195, 3) := by decide +kernel
theorem dX10_asks_79 : decode cX10_asks 79 = .ok (.istore 7, 2) := by decide +kernel
theorem dX10_asks_81 : decode cX10_asks 81 = .ok (.aload_n 0, 1) := by decide +kernel
theorem dX10_asks_82 : decode cX10_asks 82 = .ok (.iload_n 1, 1) := by decide +kernel
theorem dX10_asks_83 : decode cX10_asks 83 = .ok (.iload 6, 2) := by decide +kernel
theorem dX10_asks_85 : decode cX10_asks 85 = .ok (.invokevirtual 241, 3) := by decide +kernel
theorem dX10_asks_88 : decode cX10_asks 88 = .ok (.ifCond .eq 41, 3) := by decide +kernel
theorem dX10_asks_129 : decode cX10_asks 129 = .ok (.iinc 6 1, 3) := by decide +kernel
theorem dX10_asks_132 : decode cX10_asks 132 = .ok (.goto (-77), 3) := by decide +kernel
theorem dX10_asks_135 : decode cX10_asks 135 = .ok (.iload 4, 2) := by decide +kernel
theorem dX10_asks_137 : decode cX10_asks 137 = .ok (.ireturn, 1) := by decide +kernel
theorem dX10_unlike_0 : decode cX10_unlike 0 = .ok (.aload_n 0, 1) := by decide +kernel
theorem dX10_unlike_1 : decode cX10_unlike 1 = .ok (.iload_n 1, 1) := by decide +kernel
theorem dX10_unlike_2 : decode cX10_unlike 2 = .ok (.invokevirtual 182, 3) := by decide +kernel
theorem dX10_unlike_5 : decode cX10_unlike 5 = .ok (.ifCond .eq 11, 3) := by decide +kernel
theorem dX10_unlike_8 : decode cX10_unlike 8 = .ok (.aload_n 0, 1) := by decide +kernel
theorem dX10_unlike_9 : decode cX10_unlike 9 = .ok (.iload_n 2, 1) := by decide +kernel
theorem dX10_unlike_10 : decode cX10_unlike 10 = .ok (.invokevirtual 182, 3) := by decide +kernel
theorem dX10_unlike_13 : decode cX10_unlike 13 = .ok (.ifCond .ne 5, 3) := by decide +kernel
theorem dX10_unlike_16 : decode cX10_unlike 16 = .ok (.iconst (-1), 1) := by decide +kernel
theorem dX10_unlike_17 : decode cX10_unlike 17 = .ok (.ireturn, 1) := by decide +kernel
theorem dX10_unlike_18 : decode cX10_unlike 18 = .ok (.aload_n 0, 1) := by decide +kernel
theorem dX10_unlike_19 : decode cX10_unlike 19 = .ok (.getfield 44, 3) := by decide +kernel
theorem dX10_unlike_22 : decode cX10_unlike 22 = .ok (.aload_n 0, 1) := by decide +kernel
theorem dX10_unlike_23 : decode cX10_unlike 23 = .ok (.getfield 37, 3) := by decide +kernel
theorem dX10_unlike_26 : decode cX10_unlike 26 = .ok (.invokevirtual 191, 3) := by decide +kernel
theorem dX10_unlike_29 : decode cX10_unlike 29 = .ok (.ifCond .ne 6, 3) := by decide +kernel
theorem dX10_unlike_35 : decode cX10_unlike 35 = .ok (.aload_n 0, 1) := by decide +kernel
theorem dX10_unlike_36 : decode cX10_unlike 36 = .ok (.getfield 44, 3) := by decide +kernel
theorem dX10_unlike_39 : decode cX10_unlike 39 = .ok (.iload_n 1, 1) := by decide +kernel
theorem dX10_unlike_40 : decode cX10_unlike 40 = .ok (.invokevirtual 195, 3) := by decide +kernel
theorem dX10_unlike_43 : decode cX10_unlike 43 = .ok (.aload_n 0, 1) := by decide +kernel
theorem dX10_unlike_44 : decode cX10_unlike 44 = .ok (.getfield 44, 3) := by decide +kernel
theorem dX10_unlike_47 : decode cX10_unlike 47 = .ok (.iload_n 2, 1) := by decide +kernel
theorem dX10_unlike_48 : decode cX10_unlike 48 = .ok (.invokevirtual 195, 3) := by decide +kernel
theorem dX10_unlike_51 : decode cX10_unlike 51 = .ok (.iadd, 1) := by decide +kernel
theorem dX10_unlike_52 : decode cX10_unlike 52 = .ok (.iconst 2, 1) := by decide +kernel
theorem dX10_unlike_53 : decode cX10_unlike 53 = .ok (.aload_n 0, 1) := by decide +kernel
theorem dX10_unlike_54 : decode cX10_unlike 54 = .ok (.getfield 44, 3) := by decide +kernel
theorem dX10_unlike_57 : decode cX10_unlike 57 = .ok (.iload_n 1, 1) := by decide +kernel
theorem dX10_unlike_58 : decode cX10_unlike 58 = .ok (.iload_n 2, 1) := by decide +kernel
theorem dX10_unlike_59 : decode cX10_unlike 59 = .ok (.ior, 1) := by decide +kernel
theorem dX10_unlike_60 : decode cX10_unlike 60 = .ok (.invokevirtual 195, 3) := by decide +kernel
theorem dX10_unlike_63 : decode cX10_unlike 63 = .ok (.imul, 1) := by decide +kernel
theorem dX10_unlike_64 : decode cX10_unlike 64 = .ok (.isub, 1) := by decide +kernel
theorem dX10_unlike_65 : decode cX10_unlike 65 = .ok (.ireturn, 1) := by decide +kernel
theorem dX10_known_0 : decode cX10_known 0 = .ok (.aload_n 0, 1) := by decide +kernel
theorem dX10_known_1 : decode cX10_known 1 = .ok (.iload_n 1, 1) := by decide +kernel
theorem dX10_known_2 : decode cX10_known 2 = .ok (.invokevirtual 182, 3) := by decide +kernel
theorem dX10_known_5 : decode cX10_known 5 = .ok (.ifCond .eq 14, 3) := by decide +kernel
theorem dX10_known_8 : decode cX10_known 8 = .ok (.aload_n 0, 1) := by decide +kernel
theorem dX10_known_9 : decode cX10_known 9 = .ok (.getfield 10, 3) := by decide +kernel
theorem dX10_known_12 : decode cX10_known 12 = .ok (.iload_n 2, 1) := by decide +kernel
theorem dX10_known_13 : decode cX10_known 13 = .ok (.invokevirtual 251, 3) := by decide +kernel
theorem dX10_known_16 : decode cX10_known 16 = .ok (.ifCond .ne 5, 3) := by decide +kernel
theorem dX10_known_19 : decode cX10_known 19 = .ok (.iconst (-1), 1) := by decide +kernel
theorem dX10_known_20 : decode cX10_known 20 = .ok (.ireturn, 1) := by decide +kernel
theorem dX10_often_0 : decode cX10_often 0 = .ok (.aload_n 0, 1) := by decide +kernel
theorem dX10_often_1 : decode cX10_often 1 = .ok (.iload_n 1, 1) := by decide +kernel
theorem dX10_often_2 : decode cX10_often 2 = .ok (.invokevirtual 182, 3) := by decide +kernel
theorem dX10_often_5 : decode cX10_often 5 = .ok (.ifCond .eq 23, 3) := by decide +kernel
theorem dX10_often_8 : decode cX10_often 8 = .ok (.aload_n 0, 1) := by decide +kernel
theorem dX10_often_9 : decode cX10_often 9 = .ok (.getfield 10, 3) := by decide +kernel
theorem dX10_often_12 : decode cX10_often 12 = .ok (.iload_n 2, 1) := by decide +kernel
theorem dX10_often_13 : decode cX10_often 13 = .ok (.invokevirtual 251, 3) := by decide +kernel
theorem dX10_often_16 : decode cX10_often 16 = .ok (.ifCond .eq 12, 3) := by decide +kernel
theorem dX10_often_28 : decode cX10_often 28 = .ok (.iconst (-1), 1) := by decide +kernel
theorem dX10_often_29 : decode cX10_often 29 = .ok (.ireturn, 1) := by decide +kernel
theorem dX10_sayings_0 : decode cX10_sayings 0 = .ok (.aload_n 0, 1) := by decide +kernel
theorem dX10_sayings_1 : decode cX10_sayings 1 = .ok (.iload_n 1, 1) := by decide +kernel
theorem dX10_sayings_2 : decode cX10_sayings 2 = .ok (.invokevirtual 182, 3) := by decide +kernel
theorem dX10_sayings_5 : decode cX10_sayings 5 = .ok (.ifCond .eq 30, 3) := by decide +kernel
theorem dX10_sayings_8 : decode cX10_sayings 8 = .ok (.iload_n 3, 1) := by decide +kernel
theorem dX10_sayings_9 : decode cX10_sayings 9 = .ok (.bipush 100, 2) := by decide +kernel
theorem dX10_sayings_11 : decode cX10_sayings 11 = .ok (.if_icmp .eq 14, 3) := by decide +kernel
theorem dX10_sayings_14 : decode cX10_sayings 14 = .ok (.aload_n 0, 1) := by decide +kernel
theorem dX10_sayings_15 : decode cX10_sayings 15 = .ok (.getfield 10, 3) := by decide +kernel
theorem dX10_sayings_18 : decode cX10_sayings 18 = .ok (.iload_n 3, 1) := by decide +kernel
theorem dX10_sayings_19 : decode cX10_sayings 19 = .ok (.invokevirtual 106, 3) := by decide +kernel
theorem dX10_sayings_22 : decode cX10_sayings 22 = .ok (.ifCond .eq 13, 3) := by decide +kernel
theorem dX10_sayings_25 : decode cX10_sayings 25 = .ok (.aload_n 0, 1) := by decide +kernel
theorem dX10_sayings_26 : decode cX10_sayings 26 = .ok (.iload_n 2, 1) := by decide +kernel
theorem dX10_sayings_27 : decode cX10_sayings 27 = .ok (.bipush 20, 2) := by decide +kernel
theorem dX10_sayings_29 : decode cX10_sayings 29 = .ok (.invokevirtual 120, 3) := by decide +kernel
theorem dX10_sayings_32 : decode cX10_sayings 32 = .ok (.ifCond .ne 5, 3) := by decide +kernel
theorem dX10_sayings_35 : decode cX10_sayings 35 = .ok (.iconst (-1), 1) := by decide +kernel
theorem dX10_sayings_36 : decode cX10_sayings 36 = .ok (.ireturn, 1) := by decide +kernel
theorem dX10_between_0 : decode cX10_between 0 = .ok (.aload_n 0, 1) := by decide +kernel
theorem dX10_between_1 : decode cX10_between 1 = .ok (.iload_n 1, 1) := by decide +kernel
theorem dX10_between_2 : decode cX10_between 2 = .ok (.invokevirtual 182, 3) := by decide +kernel
theorem dX10_between_5 : decode cX10_between 5 = .ok (.ifCond .eq 34, 3) := by decide +kernel
theorem dX10_between_8 : decode cX10_between 8 = .ok (.aload_n 0, 1) := by decide +kernel
theorem dX10_between_9 : decode cX10_between 9 = .ok (.getfield 10, 3) := by decide +kernel
theorem dX10_between_12 : decode cX10_between 12 = .ok (.iload_n 2, 1) := by decide +kernel
theorem dX10_between_13 : decode cX10_between 13 = .ok (.invokevirtual 251, 3) := by decide +kernel
theorem dX10_between_16 : decode cX10_between 16 = .ok (.ifCond .eq 23, 3) := by decide +kernel
theorem dX10_between_39 : decode cX10_between 39 = .ok (.iconst 0, 1) := by decide +kernel
theorem dX10_between_40 : decode cX10_between 40 = .ok (.ireturn, 1) := by decide +kernel
theorem dX10_worth_0 : decode cX10_worth 0 = .ok (.aload_n 0, 1) := by decide +kernel
theorem dX10_worth_1 : decode cX10_worth 1 = .ok (.iload_n 1, 1) := by decide +kernel
theorem dX10_worth_2 : decode cX10_worth 2 = .ok (.invokevirtual 182, 3) := by decide +kernel
theorem dX10_worth_5 : decode cX10_worth 5 = .ok (.ifCond .eq 25, 3) := by decide +kernel
theorem dX10_worth_8 : decode cX10_worth 8 = .ok (.aload_n 0, 1) := by decide +kernel
theorem dX10_worth_9 : decode cX10_worth 9 = .ok (.getfield 10, 3) := by decide +kernel
theorem dX10_worth_12 : decode cX10_worth 12 = .ok (.iload_n 2, 1) := by decide +kernel
theorem dX10_worth_13 : decode cX10_worth 13 = .ok (.invokevirtual 251, 3) := by decide +kernel
theorem dX10_worth_16 : decode cX10_worth 16 = .ok (.ifCond .eq 14, 3) := by decide +kernel
theorem dX10_worth_30 : decode cX10_worth 30 = .ok (.iconst 0, 1) := by decide +kernel
theorem dX10_worth_31 : decode cX10_worth 31 = .ok (.ireturn, 1) := by decide +kernel
theorem dX10_isTrue_0 : decode cX10_isTrue 0 = .ok (.aload_n 0, 1) := by decide +kernel
theorem dX10_isTrue_1 : decode cX10_isTrue 1 = .ok (.iload_n 1, 1) := by decide +kernel
theorem dX10_isTrue_2 : decode cX10_isTrue 2 = .ok (.invokevirtual 182, 3) := by decide +kernel
theorem dX10_isTrue_5 : decode cX10_isTrue 5 = .ok (.ifCond .eq 23, 3) := by decide +kernel
theorem dX10_isTrue_8 : decode cX10_isTrue 8 = .ok (.aload_n 0, 1) := by decide +kernel
theorem dX10_isTrue_9 : decode cX10_isTrue 9 = .ok (.getfield 10, 3) := by decide +kernel
theorem dX10_isTrue_12 : decode cX10_isTrue 12 = .ok (.iload_n 2, 1) := by decide +kernel
theorem dX10_isTrue_13 : decode cX10_isTrue 13 = .ok (.invokevirtual 156, 3) := by decide +kernel
theorem dX10_isTrue_16 : decode cX10_isTrue 16 = .ok (.ifCond .eq 12, 3) := by decide +kernel
theorem dX10_isTrue_28 : decode cX10_isTrue 28 = .ok (.sipush (-204), 3) := by decide +kernel
theorem dX10_isTrue_31 : decode cX10_isTrue 31 = .ok (.ireturn, 1) := by decide +kernel
theorem dX10_together_0 : decode cX10_together 0 = .ok (.iload_n 3, 1) := by decide +kernel
theorem dX10_together_1 : decode cX10_together 1 = .ok (.invokestatic 150, 3) := by decide +kernel
theorem dX10_together_4 : decode cX10_together 4 = .ok (.istore 4, 2) := by decide +kernel
theorem dX10_together_6 : decode cX10_together 6 = .ok (.aload_n 0, 1) := by decide +kernel
theorem dX10_together_7 : decode cX10_together 7 = .ok (.iload_n 1, 1) := by decide +kernel
theorem dX10_together_8 : decode cX10_together 8 = .ok (.invokevirtual 182, 3) := by decide +kernel
theorem dX10_together_11 : decode cX10_together 11 = .ok (.ifCond .eq 48, 3) := by decide +kernel
theorem dX10_together_14 : decode cX10_together 14 = .ok (.aload_n 0, 1) := by decide +kernel
theorem dX10_together_15 : decode cX10_together 15 = .ok (.getfield 10, 3) := by decide +kernel
theorem dX10_together_18 : decode cX10_together 18 = .ok (.iload_n 2, 1) := by decide +kernel
theorem dX10_together_19 : decode cX10_together 19 = .ok (.invokevirtual 106, 3) := by decide +kernel
theorem dX10_together_22 : decode cX10_together 22 = .ok (.ifCond .eq 37, 3) := by decide +kernel
theorem dX10_together_59 : decode cX10_together 59 = .ok (.sipush (-4000), 3) := by decide +kernel
theorem dX10_together_62 : decode cX10_together 62 = .ok (.ireturn, 1) := by decide +kernel
theorem dX10_turned_0 : decode cX10_turned 0 = .ok (.aload_n 0, 1) := by decide +kernel
theorem dX10_turned_1 : decode cX10_turned 1 = .ok (.iload_n 1, 1) := by decide +kernel
theorem dX10_turned_2 : decode cX10_turned 2 = .ok (.invokevirtual 182, 3) := by decide +kernel
theorem dX10_turned_5 : decode cX10_turned 5 = .ok (.ifCond .eq 41, 3) := by decide +kernel
theorem dX10_turned_8 : decode cX10_turned 8 = .ok (.aload_n 0, 1) := by decide +kernel
theorem dX10_turned_9 : decode cX10_turned 9 = .ok (.getfield 10, 3) := by decide +kernel
theorem dX10_turned_12 : decode cX10_turned 12 = .ok (.iload_n 2, 1) := by decide +kernel
theorem dX10_turned_13 : decode cX10_turned 13 = .ok (.invokevirtual 106, 3) := by decide +kernel
theorem dX10_turned_16 : decode cX10_turned 16 = .ok (.ifCond .eq 30, 3) := by decide +kernel
theorem dX10_turned_46 : decode cX10_turned 46 = .ok (.iconst (-1), 1) := by decide +kernel
theorem dX10_turned_47 : decode cX10_turned 47 = .ok (.ireturn, 1) := by decide +kernel
theorem dX10_squares_0 : decode cX10_squares 0 = .ok (.aload_n 0, 1) := by decide +kernel
theorem dX10_squares_1 : decode cX10_squares 1 = .ok (.iload_n 1, 1) := by decide +kernel
theorem dX10_squares_2 : decode cX10_squares 2 = .ok (.invokevirtual 182, 3) := by decide +kernel
theorem dX10_squares_5 : decode cX10_squares 5 = .ok (.ifCond .eq 13, 3) := by decide +kernel
theorem dX10_squares_8 : decode cX10_squares 8 = .ok (.iload_n 2, 1) := by decide +kernel
theorem dX10_squares_9 : decode cX10_squares 9 = .ok (.ifCond .lt 9, 3) := by decide +kernel
theorem dX10_squares_12 : decode cX10_squares 12 = .ok (.iload_n 2, 1) := by decide +kernel
theorem dX10_squares_13 : decode cX10_squares 13 = .ok (.bipush 100, 2) := by decide +kernel
theorem dX10_squares_15 : decode cX10_squares 15 = .ok (.if_icmp .le 5, 3) := by decide +kernel
theorem dX10_squares_18 : decode cX10_squares 18 = .ok (.iconst (-1), 1) := by decide +kernel
theorem dX10_squares_19 : decode cX10_squares 19 = .ok (.ireturn, 1) := by decide +kernel
theorem dX10_squares_20 : decode cX10_squares 20 = .ok (.aload_n 0, 1) := by decide +kernel
theorem dX10_squares_21 : decode cX10_squares 21 = .ok (.getfield 37, 3) := by decide +kernel
theorem dX10_squares_24 : decode cX10_squares 24 = .ok (.iload_n 1, 1) := by decide +kernel
theorem dX10_squares_25 : decode cX10_squares 25 = .ok (.invokevirtual 185, 3) := by decide +kernel
theorem dX10_squares_28 : decode cX10_squares 28 = .ok (.istore_n 3, 1) := by decide +kernel
theorem dX10_squares_29 : decode cX10_squares 29 = .ok (.iload_n 3, 1) := by decide +kernel
theorem dX10_squares_30 : decode cX10_squares 30 = .ok (.ifCond .ge 5, 3) := by decide +kernel
theorem dX10_squares_35 : decode cX10_squares 35 = .ok (.iload_n 2, 1) := by decide +kernel
theorem dX10_squares_36 : decode cX10_squares 36 = .ok (.bipush 100, 2) := by decide +kernel
theorem dX10_squares_38 : decode cX10_squares 38 = .ok (.if_icmp .ge 17, 3) := by decide +kernel
theorem dX10_squares_41 : decode cX10_squares 41 = .ok (.aload_n 0, 1) := by decide +kernel
theorem dX10_squares_42 : decode cX10_squares 42 = .ok (.aload_n 0, 1) := by decide +kernel
theorem dX10_squares_43 : decode cX10_squares 43 = .ok (.getfield 10, 3) := by decide +kernel
theorem dX10_squares_46 : decode cX10_squares 46 = .ok (.getfield 110, 3) := by decide +kernel
theorem dX10_squares_49 : decode cX10_squares 49 = .ok (.iload_n 2, 1) := by decide +kernel
theorem dX10_squares_50 : decode cX10_squares 50 = .ok (.iadd, 1) := by decide +kernel
theorem dX10_squares_51 : decode cX10_squares 51 = .ok (.invokevirtual 314, 3) := by decide +kernel
theorem dX10_squares_54 : decode cX10_squares 54 = .ok (.ireturn, 1) := by decide +kernel
theorem dX10_squares_55 : decode cX10_squares 55 = .ok (.iconst 0, 1) := by decide +kernel
theorem dX10_squares_56 : decode cX10_squares 56 = .ok (.istore 4, 2) := by decide +kernel
theorem dX10_squares_58 : decode cX10_squares 58 = .ok (.iconst 1, 1) := by decide +kernel
theorem dX10_squares_59 : decode cX10_squares 59 = .ok (.istore 5, 2) := by decide +kernel
theorem dX10_squares_61 : decode cX10_squares 61 = .ok (.iload 5, 2) := by decide +kernel
theorem dX10_squares_63 : decode cX10_squares 63 = .ok (.bipush 100, 2) := by decide +kernel
theorem dX10_squares_65 : decode cX10_squares 65 = .ok (.if_icmp .ge 44, 3) := by decide +kernel
theorem dX10_squares_68 : decode cX10_squares 68 = .ok (.aload_n 0, 1) := by decide +kernel
theorem dX10_squares_69 : decode cX10_squares 69 = .ok (.aload_n 0, 1) := by decide +kernel
theorem dX10_squares_70 : decode cX10_squares 70 = .ok (.getfield 10, 3) := by decide +kernel
theorem dX10_squares_73 : decode cX10_squares 73 = .ok (.getfield 110, 3) := by decide +kernel
theorem dX10_squares_76 : decode cX10_squares 76 = .ok (.iload 5, 2) := by decide +kernel
theorem dX10_squares_78 : decode cX10_squares 78 = .ok (.iadd, 1) := by decide +kernel
theorem dX10_squares_79 : decode cX10_squares 79 = .ok (.invokevirtual 314, 3) := by decide +kernel
theorem dX10_squares_82 : decode cX10_squares 82 = .ok (.aload_n 0, 1) := by decide +kernel
theorem dX10_squares_83 : decode cX10_squares 83 = .ok (.aload_n 0, 1) := by decide +kernel
theorem dX10_squares_84 : decode cX10_squares 84 = .ok (.getfield 10, 3) := by decide +kernel
theorem dX10_squares_87 : decode cX10_squares 87 = .ok (.getfield 110, 3) := by decide +kernel
theorem dX10_squares_90 : decode cX10_squares 90 = .ok (.iload 4, 2) := by decide +kernel
theorem dX10_squares_92 : decode cX10_squares 92 = .ok (.iadd, 1) := by decide +kernel
theorem dX10_squares_93 : decode cX10_squares 93 = .ok (.invokevirtual 314, 3) := by decide +kernel
theorem dX10_squares_96 : decode cX10_squares 96 = .ok (.if_icmp .le 7, 3) := by decide +kernel
theorem dX10_squares_103 : decode cX10_squares 103 = .ok (.iinc 5 1, 3) := by decide +kernel
theorem dX10_squares_106 : decode cX10_squares 106 = .ok (.goto (-45), 3) := by decide +kernel
theorem dX10_squares_109 : decode cX10_squares 109 = .ok (.iload 4, 2) := by decide +kernel
theorem dX10_squares_111 : decode cX10_squares 111 = .ok (.ireturn, 1) := by decide +kernel
theorem dX10_squaresIn_0 : decode cX10_squaresIn 0 = .ok (.iconst 0, 1) := by decide +kernel
theorem dX10_squaresIn_1 : decode cX10_squaresIn 1 = .ok (.istore_n 2, 1) := by decide +kernel
theorem dX10_squaresIn_2 : decode cX10_squaresIn 2 = .ok (.iconst 0, 1) := by decide +kernel
theorem dX10_squaresIn_3 : decode cX10_squaresIn 3 = .ok (.istore_n 3, 1) := by decide +kernel
theorem dX10_squaresIn_4 : decode cX10_squaresIn 4 = .ok (.iload_n 3, 1) := by decide +kernel
theorem dX10_squaresIn_5 : decode cX10_squaresIn 5 = .ok (.bipush 6, 2) := by decide +kernel
theorem dX10_squaresIn_7 : decode cX10_squaresIn 7 = .ok (.if_icmp .ge 40, 3) := by decide +kernel
theorem dX10_squaresIn_10 : decode cX10_squaresIn 10 = .ok (.aload_n 0, 1) := by decide +kernel
theorem dX10_squaresIn_11 : decode cX10_squaresIn 11 = .ok (.getfield 10, 3) := by decide +kernel
theorem dX10_squaresIn_14 : decode cX10_squaresIn 14 = .ok (.iload_n 3, 1) := by decide +kernel
theorem dX10_squaresIn_15 : decode cX10_squaresIn 15 = .ok (.invokevirtual 106, 3) := by decide +kernel
theorem dX10_squaresIn_18 : decode cX10_squaresIn 18 = .ok (.ifCond .eq 23, 3) := by decide +kernel
theorem dX10_squaresIn_41 : decode cX10_squaresIn 41 = .ok (.iinc 3 1, 3) := by decide +kernel
theorem dX10_squaresIn_44 : decode cX10_squaresIn 44 = .ok (.goto (-40), 3) := by decide +kernel
theorem dX10_squaresIn_47 : decode cX10_squaresIn 47 = .ok (.iload_n 2, 1) := by decide +kernel
theorem dX10_squaresIn_48 : decode cX10_squaresIn 48 = .ok (.ireturn, 1) := by decide +kernel
theorem dX10_when_0 : decode cX10_when 0 = .ok (.aload_n 0, 1) := by decide +kernel
theorem dX10_when_1 : decode cX10_when 1 = .ok (.iload_n 1, 1) := by decide +kernel
theorem dX10_when_2 : decode cX10_when 2 = .ok (.invokevirtual 182, 3) := by decide +kernel
theorem dX10_when_5 : decode cX10_when 5 = .ok (.ifCond .eq 38, 3) := by decide +kernel
theorem dX10_when_8 : decode cX10_when 8 = .ok (.aload_n 0, 1) := by decide +kernel
theorem dX10_when_9 : decode cX10_when 9 = .ok (.getfield 10, 3) := by decide +kernel
theorem dX10_when_12 : decode cX10_when 12 = .ok (.iload_n 2, 1) := by decide +kernel
theorem dX10_when_13 : decode cX10_when 13 = .ok (.invokevirtual 106, 3) := by decide +kernel
theorem dX10_when_16 : decode cX10_when 16 = .ok (.ifCond .eq 27, 3) := by decide +kernel
theorem dX10_when_43 : decode cX10_when 43 = .ok (.sipush (-4000), 3) := by decide +kernel
theorem dX10_when_46 : decode cX10_when 46 = .ok (.ireturn, 1) := by decide +kernel
theorem dX10_check_0 : decode cX10_check 0 = .ok (.iload_n 1, 1) := by decide +kernel
theorem dX10_check_1 : decode cX10_check 1 = .ok (.ifCond .lt 17, 3) := by decide +kernel
theorem dX10_check_4 : decode cX10_check 4 = .ok (.iload_n 1, 1) := by decide +kernel
theorem dX10_check_5 : decode cX10_check 5 = .ok (.bipush 6, 2) := by decide +kernel
theorem dX10_check_7 : decode cX10_check 7 = .ok (.if_icmp .gt 11, 3) := by decide +kernel
theorem dX10_check_10 : decode cX10_check 10 = .ok (.iload_n 1, 1) := by decide +kernel
theorem dX10_check_11 : decode cX10_check 11 = .ok (.aload_n 0, 1) := by decide +kernel
theorem dX10_check_12 : decode cX10_check 12 = .ok (.getfield 113, 3) := by decide +kernel
theorem dX10_check_15 : decode cX10_check 15 = .ok (.if_icmp .le 6, 3) := by decide +kernel
theorem dX10_check_18 : decode cX10_check 18 = .ok (.bipush (-2), 2) := by decide +kernel
theorem dX10_check_20 : decode cX10_check 20 = .ok (.ireturn, 1) := by decide +kernel
theorem dX10_check_21 : decode cX10_check 21 = .ok (.aload_n 0, 1) := by decide +kernel
theorem dX10_check_22 : decode cX10_check 22 = .ok (.iconst 0, 1) := by decide +kernel
theorem dX10_check_23 : decode cX10_check 23 = .ok (.putfield 113, 3) := by decide +kernel
theorem dX10_check_26 : decode cX10_check 26 = .ok (.aload_n 0, 1) := by decide +kernel
theorem dX10_check_27 : decode cX10_check 27 = .ok (.getfield 37, 3) := by decide +kernel
theorem dX10_check_30 : decode cX10_check 30 = .ok (.aload_n 0, 1) := by decide +kernel
theorem dX10_check_31 : decode cX10_check 31 = .ok (.getfield 10, 3) := by decide +kernel
theorem dX10_check_34 : decode cX10_check 34 = .ok (.invokevirtual 169, 3) := by decide +kernel
theorem dX10_check_37 : decode cX10_check 37 = .ok (.invokevirtual 185, 3) := by decide +kernel

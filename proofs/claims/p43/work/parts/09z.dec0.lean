theorem dX0_init_0 : decode cX0_init 0 = .ok (.aload_n 0, 1) := by decide +kernel
theorem dX0_init_1 : decode cX0_init 1 = .ok (.invokespecial 5, 3) := by decide +kernel
theorem dX0_init_4 : decode cX0_init 4 = .ok (.aload_n 0, 1) := by decide +kernel
theorem dX0_init_5 : decode cX0_init 5 = .ok (.iconst 3, 1) := by decide +kernel
theorem dX0_init_6 : decode cX0_init 6 = .ok (.newarray .int, 2) := by decide +kernel
theorem dX0_init_8 : decode cX0_init 8 = .ok (.putfield 11, 3) := by decide +kernel
theorem dX0_init_11 : decode cX0_init 11 = .ok (.aload_n 0, 1) := by decide +kernel
theorem dX0_init_12 : decode cX0_init 12 = .ok (.iconst 3, 1) := by decide +kernel
theorem dX0_init_13 : decode cX0_init 13 = .ok (.newarray .int, 2) := by decide +kernel
theorem dX0_init_15 : decode cX0_init 15 = .ok (.putfield 15, 3) := by decide +kernel
theorem dX0_init_18 : decode cX0_init 18 = .ok (.aload_n 0, 1) := by decide +kernel
theorem dX0_init_19 : decode cX0_init 19 = .ok (.iconst 3, 1) := by decide +kernel
theorem dX0_init_20 : decode cX0_init 20 = .ok (.newarray .int, 2) := by decide +kernel
theorem dX0_init_22 : decode cX0_init 22 = .ok (.putfield 18, 3) := by decide +kernel
theorem dX0_init_25 : decode cX0_init 25 = .ok (.aload_n 0, 1) := by decide +kernel
theorem dX0_init_26 : decode cX0_init 26 = .ok (.iconst 3, 1) := by decide +kernel
theorem dX0_init_27 : decode cX0_init 27 = .ok (.newarray .int, 2) := by decide +kernel
theorem dX0_init_29 : decode cX0_init 29 = .ok (.putfield 21, 3) := by decide +kernel
theorem dX0_init_32 : decode cX0_init 32 = .ok (.aload_n 0, 1) := by decide +kernel
theorem dX0_init_33 : decode cX0_init 33 = .ok (.sipush 441, 3) := by decide +kernel
theorem dX0_init_36 : decode cX0_init 36 = .ok (.newarray .int, 2) := by decide +kernel
theorem dX0_init_38 : decode cX0_init 38 = .ok (.putfield 24, 3) := by decide +kernel
theorem dX0_init_41 : decode cX0_init 41 = .ok (.aload_n 0, 1) := by decide +kernel
theorem dX0_init_42 : decode cX0_init 42 = .ok (.sipush 441, 3) := by decide +kernel
theorem dX0_init_45 : decode cX0_init 45 = .ok (.newarray .int, 2) := by decide +kernel
theorem dX0_init_47 : decode cX0_init 47 = .ok (.putfield 27, 3) := by decide +kernel
theorem dX0_init_50 : decode cX0_init 50 = .ok (.return_, 1) := by decide +kernel
theorem dX0_fill_0 : decode cX0_fill 0 = .ok (.iconst 0, 1) := by decide +kernel
theorem dX0_fill_1 : decode cX0_fill 1 = .ok (.istore_n 2, 1) := by decide +kernel
theorem dX0_fill_2 : decode cX0_fill 2 = .ok (.iload_n 2, 1) := by decide +kernel
theorem dX0_fill_3 : decode cX0_fill 3 = .ok (.iconst 3, 1) := by decide +kernel
theorem dX0_fill_4 : decode cX0_fill 4 = .ok (.if_icmp .ge 57, 3) := by decide +kernel
theorem dX0_fill_7 : decode cX0_fill 7 = .ok (.aload_n 0, 1) := by decide +kernel
theorem dX0_fill_8 : decode cX0_fill 8 = .ok (.getfield 11, 3) := by decide +kernel
theorem dX0_fill_11 : decode cX0_fill 11 = .ok (.iload_n 2, 1) := by decide +kernel
theorem dX0_fill_12 : decode cX0_fill 12 = .ok (.aload_n 1, 1) := by decide +kernel
theorem dX0_fill_13 : decode cX0_fill 13 = .ok (.iload_n 2, 1) := by decide +kernel
theorem dX0_fill_14 : decode cX0_fill 14 = .ok (.iaload, 1) := by decide +kernel
theorem dX0_fill_15 : decode cX0_fill 15 = .ok (.iastore, 1) := by decide +kernel
theorem dX0_fill_16 : decode cX0_fill 16 = .ok (.aload_n 0, 1) := by decide +kernel
theorem dX0_fill_17 : decode cX0_fill 17 = .ok (.getfield 15, 3) := by decide +kernel
theorem dX0_fill_20 : decode cX0_fill 20 = .ok (.iload_n 2, 1) := by decide +kernel
theorem dX0_fill_21 : decode cX0_fill 21 = .ok (.aload_n 1, 1) := by decide +kernel
theorem dX0_fill_22 : decode cX0_fill 22 = .ok (.iconst 3, 1) := by decide +kernel
theorem dX0_fill_23 : decode cX0_fill 23 = .ok (.iload_n 2, 1) := by decide +kernel
theorem dX0_fill_24 : decode cX0_fill 24 = .ok (.iadd, 1) := by decide +kernel
theorem dX0_fill_25 : decode cX0_fill 25 = .ok (.iaload, 1) := by decide +kernel
theorem dX0_fill_26 : decode cX0_fill 26 = .ok (.iastore, 1) := by decide +kernel
theorem dX0_fill_27 : decode cX0_fill 27 = .ok (.aload_n 0, 1) := by decide +kernel
theorem dX0_fill_28 : decode cX0_fill 28 = .ok (.getfield 11, 3) := by decide +kernel
theorem dX0_fill_31 : decode cX0_fill 31 = .ok (.iload_n 2, 1) := by decide +kernel
theorem dX0_fill_32 : decode cX0_fill 32 = .ok (.iaload, 1) := by decide +kernel
theorem dX0_fill_33 : decode cX0_fill 33 = .ok (.bipush 20, 2) := by decide +kernel
theorem dX0_fill_35 : decode cX0_fill 35 = .ok (.if_icmp .gt 18, 3) := by decide +kernel
theorem dX0_fill_38 : decode cX0_fill 38 = .ok (.aload_n 0, 1) := by decide +kernel
theorem dX0_fill_39 : decode cX0_fill 39 = .ok (.getfield 15, 3) := by decide +kernel
theorem dX0_fill_42 : decode cX0_fill 42 = .ok (.iload_n 2, 1) := by decide +kernel
theorem dX0_fill_43 : decode cX0_fill 43 = .ok (.iaload, 1) := by decide +kernel
theorem dX0_fill_44 : decode cX0_fill 44 = .ok (.aload_n 0, 1) := by decide +kernel
theorem dX0_fill_45 : decode cX0_fill 45 = .ok (.getfield 11, 3) := by decide +kernel
theorem dX0_fill_48 : decode cX0_fill 48 = .ok (.iload_n 2, 1) := by decide +kernel
theorem dX0_fill_49 : decode cX0_fill 49 = .ok (.iaload, 1) := by decide +kernel
theorem dX0_fill_50 : decode cX0_fill 50 = .ok (.if_icmp .le 5, 3) := by decide +kernel
theorem dX0_fill_53 : decode cX0_fill 53 = .ok (.iconst 0, 1) := by decide +kernel
theorem dX0_fill_54 : decode cX0_fill 54 = .ok (.ireturn, 1) := by decide +kernel
theorem dX0_fill_55 : decode cX0_fill 55 = .ok (.iinc 2 1, 3) := by decide +kernel
theorem dX0_fill_58 : decode cX0_fill 58 = .ok (.goto (-56), 3) := by decide +kernel
theorem dX0_fill_61 : decode cX0_fill 61 = .ok (.iconst 1, 1) := by decide +kernel
theorem dX0_fill_62 : decode cX0_fill 62 = .ok (.ireturn, 1) := by decide +kernel
theorem dX0_pour_0 : decode cX0_pour 0 = .ok (.aload_n 0, 1) := by decide +kernel
theorem dX0_pour_1 : decode cX0_pour 1 = .ok (.getfield 24, 3) := by decide +kernel
theorem dX0_pour_4 : decode cX0_pour 4 = .ok (.iconst (-1), 1) := by decide +kernel
theorem dX0_pour_5 : decode cX0_pour 5 = .ok (.invokestatic 30, 3) := by decide +kernel
theorem dX0_pour_8 : decode cX0_pour 8 = .ok (.aload_n 0, 1) := by decide +kernel
theorem dX0_pour_9 : decode cX0_pour 9 = .ok (.iconst 0, 1) := by decide +kernel
theorem dX0_pour_10 : decode cX0_pour 10 = .ok (.putfield 36, 3) := by decide +kernel
theorem dX0_pour_13 : decode cX0_pour 13 = .ok (.aload_n 0, 1) := by decide +kernel
theorem dX0_pour_14 : decode cX0_pour 14 = .ok (.aload_n 0, 1) := by decide +kernel
theorem dX0_pour_15 : decode cX0_pour 15 = .ok (.getfield 15, 3) := by decide +kernel
theorem dX0_pour_18 : decode cX0_pour 18 = .ok (.iconst 0, 1) := by decide +kernel
theorem dX0_pour_19 : decode cX0_pour 19 = .ok (.invokevirtual 40, 3) := by decide +kernel
theorem dX0_pour_22 : decode cX0_pour 22 = .ok (.iconst 0, 1) := by decide +kernel
theorem dX0_pour_23 : decode cX0_pour 23 = .ok (.istore_n 2, 1) := by decide +kernel
theorem dX0_pour_24 : decode cX0_pour 24 = .ok (.iload_n 2, 1) := by decide +kernel
theorem dX0_pour_25 : decode cX0_pour 25 = .ok (.sipush 441, 3) := by decide +kernel
theorem dX0_pour_28 : decode cX0_pour 28 = .ok (.if_icmp .ge 119, 3) := by decide +kernel
theorem dX0_pour_31 : decode cX0_pour 31 = .ok (.iload_n 2, 1) := by decide +kernel
theorem dX0_pour_32 : decode cX0_pour 32 = .ok (.aload_n 0, 1) := by decide +kernel
theorem dX0_pour_33 : decode cX0_pour 33 = .ok (.getfield 36, 3) := by decide +kernel
theorem dX0_pour_36 : decode cX0_pour 36 = .ok (.if_icmp .ge 111, 3) := by decide +kernel
theorem dX0_pour_39 : decode cX0_pour 39 = .ok (.aload_n 0, 1) := by decide +kernel
theorem dX0_pour_40 : decode cX0_pour 40 = .ok (.getfield 27, 3) := by decide +kernel
theorem dX0_pour_43 : decode cX0_pour 43 = .ok (.iload_n 2, 1) := by decide +kernel
theorem dX0_pour_44 : decode cX0_pour 44 = .ok (.iaload, 1) := by decide +kernel
theorem dX0_pour_45 : decode cX0_pour 45 = .ok (.istore_n 3, 1) := by decide +kernel
theorem dX0_pour_46 : decode cX0_pour 46 = .ok (.aload_n 0, 1) := by decide +kernel
theorem dX0_pour_47 : decode cX0_pour 47 = .ok (.iload_n 3, 1) := by decide +kernel
theorem dX0_pour_48 : decode cX0_pour 48 = .ok (.invokevirtual 43, 3) := by decide +kernel
theorem dX0_pour_51 : decode cX0_pour 51 = .ok (.aload_n 0, 1) := by decide +kernel
theorem dX0_pour_52 : decode cX0_pour 52 = .ok (.getfield 18, 3) := by decide +kernel
theorem dX0_pour_55 : decode cX0_pour 55 = .ok (.iconst 0, 1) := by decide +kernel
theorem dX0_pour_56 : decode cX0_pour 56 = .ok (.iaload, 1) := by decide +kernel
theorem dX0_pour_57 : decode cX0_pour 57 = .ok (.iload_n 1, 1) := by decide +kernel
theorem dX0_pour_58 : decode cX0_pour 58 = .ok (.if_icmp .eq 23, 3) := by decide +kernel
theorem dX0_pour_61 : decode cX0_pour 61 = .ok (.aload_n 0, 1) := by decide +kernel
theorem dX0_pour_62 : decode cX0_pour 62 = .ok (.getfield 18, 3) := by decide +kernel
theorem dX0_pour_65 : decode cX0_pour 65 = .ok (.iconst 1, 1) := by decide +kernel
theorem dX0_pour_66 : decode cX0_pour 66 = .ok (.iaload, 1) := by decide +kernel
theorem dX0_pour_67 : decode cX0_pour 67 = .ok (.iload_n 1, 1) := by decide +kernel
theorem dX0_pour_68 : decode cX0_pour 68 = .ok (.if_icmp .eq 13, 3) := by decide +kernel
theorem dX0_pour_71 : decode cX0_pour 71 = .ok (.aload_n 0, 1) := by decide +kernel
theorem dX0_pour_72 : decode cX0_pour 72 = .ok (.getfield 18, 3) := by decide +kernel
theorem dX0_pour_75 : decode cX0_pour 75 = .ok (.iconst 2, 1) := by decide +kernel
theorem dX0_pour_76 : decode cX0_pour 76 = .ok (.iaload, 1) := by decide +kernel
theorem dX0_pour_77 : decode cX0_pour 77 = .ok (.iload_n 1, 1) := by decide +kernel
theorem dX0_pour_78 : decode cX0_pour 78 = .ok (.if_icmp .ne 10, 3) := by decide +kernel
theorem dX0_pour_81 : decode cX0_pour 81 = .ok (.aload_n 0, 1) := by decide +kernel
theorem dX0_pour_82 : decode cX0_pour 82 = .ok (.getfield 24, 3) := by decide +kernel
theorem dX0_pour_85 : decode cX0_pour 85 = .ok (.iload_n 3, 1) := by decide +kernel
theorem dX0_pour_86 : decode cX0_pour 86 = .ok (.iaload, 1) := by decide +kernel
theorem dX0_pour_87 : decode cX0_pour 87 = .ok (.ireturn, 1) := by decide +kernel
theorem dX0_pour_88 : decode cX0_pour 88 = .ok (.iconst 0, 1) := by decide +kernel
theorem dX0_pour_89 : decode cX0_pour 89 = .ok (.istore 4, 2) := by decide +kernel
theorem dX0_pour_91 : decode cX0_pour 91 = .ok (.iload 4, 2) := by decide +kernel
theorem dX0_pour_93 : decode cX0_pour 93 = .ok (.iconst 3, 1) := by decide +kernel
theorem dX0_pour_94 : decode cX0_pour 94 = .ok (.if_icmp .ge 47, 3) := by decide +kernel
theorem dX0_pour_97 : decode cX0_pour 97 = .ok (.iconst 0, 1) := by decide +kernel
theorem dX0_pour_98 : decode cX0_pour 98 = .ok (.istore 5, 2) := by decide +kernel
theorem dX0_pour_100 : decode cX0_pour 100 = .ok (.iload 5, 2) := by decide +kernel
theorem dX0_pour_102 : decode cX0_pour 102 = .ok (.iconst 3, 1) := by decide +kernel
theorem dX0_pour_103 : decode cX0_pour 103 = .ok (.if_icmp .ge 32, 3) := by decide +kernel
theorem dX0_pour_106 : decode cX0_pour 106 = .ok (.iload 4, 2) := by decide +kernel
theorem dX0_pour_108 : decode cX0_pour 108 = .ok (.iload 5, 2) := by decide +kernel
theorem dX0_pour_110 : decode cX0_pour 110 = .ok (.if_icmp .eq 19, 3) := by decide +kernel
theorem dX0_pour_113 : decode cX0_pour 113 = .ok (.aload_n 0, 1) := by decide +kernel
theorem dX0_pour_114 : decode cX0_pour 114 = .ok (.iload 4, 2) := by decide +kernel
theorem dX0_pour_116 : decode cX0_pour 116 = .ok (.iload 5, 2) := by decide +kernel
theorem dX0_pour_118 : decode cX0_pour 118 = .ok (.aload_n 0, 1) := by decide +kernel
theorem dX0_pour_119 : decode cX0_pour 119 = .ok (.getfield 24, 3) := by decide +kernel
theorem dX0_pour_122 : decode cX0_pour 122 = .ok (.iload_n 3, 1) := by decide +kernel
theorem dX0_pour_123 : decode cX0_pour 123 = .ok (.iaload, 1) := by decide +kernel
theorem dX0_pour_124 : decode cX0_pour 124 = .ok (.iconst 1, 1) := by decide +kernel
theorem dX0_pour_125 : decode cX0_pour 125 = .ok (.iadd, 1) := by decide +kernel
theorem dX0_pour_126 : decode cX0_pour 126 = .ok (.invokevirtual 47, 3) := by decide +kernel
theorem dX0_pour_129 : decode cX0_pour 129 = .ok (.iinc 5 1, 3) := by decide +kernel
theorem dX0_pour_132 : decode cX0_pour 132 = .ok (.goto (-32), 3) := by decide +kernel
theorem dX0_pour_135 : decode cX0_pour 135 = .ok (.iinc 4 1, 3) := by decide +kernel
theorem dX0_pour_138 : decode cX0_pour 138 = .ok (.goto (-47), 3) := by decide +kernel
theorem dX0_pour_141 : decode cX0_pour 141 = .ok (.iinc 2 1, 3) := by decide +kernel
theorem dX0_pour_144 : decode cX0_pour 144 = .ok (.goto (-120), 3) := by decide +kernel
theorem dX0_pour_147 : decode cX0_pour 147 = .ok (.bipush (-2), 2) := by decide +kernel
theorem dX0_pour_149 : decode cX0_pour 149 = .ok (.ireturn, 1) := by decide +kernel
theorem dX0_setNow_0 : decode cX0_setNow 0 = .ok (.aload_n 0, 1) := by decide +kernel
theorem dX0_setNow_1 : decode cX0_setNow 1 = .ok (.getfield 18, 3) := by decide +kernel
theorem dX0_setNow_4 : decode cX0_setNow 4 = .ok (.iconst 0, 1) := by decide +kernel
theorem dX0_setNow_5 : decode cX0_setNow 5 = .ok (.iload_n 1, 1) := by decide +kernel
theorem dX0_setNow_6 : decode cX0_setNow 6 = .ok (.bipush 21, 2) := by decide +kernel
theorem dX0_setNow_8 : decode cX0_setNow 8 = .ok (.idiv, 1) := by decide +kernel
theorem dX0_setNow_9 : decode cX0_setNow 9 = .ok (.iastore, 1) := by decide +kernel
theorem dX0_setNow_10 : decode cX0_setNow 10 = .ok (.aload_n 0, 1) := by decide +kernel
theorem dX0_setNow_11 : decode cX0_setNow 11 = .ok (.getfield 18, 3) := by decide +kernel
theorem dX0_setNow_14 : decode cX0_setNow 14 = .ok (.iconst 1, 1) := by decide +kernel
theorem dX0_setNow_15 : decode cX0_setNow 15 = .ok (.iload_n 1, 1) := by decide +kernel
theorem dX0_setNow_16 : decode cX0_setNow 16 = .ok (.bipush 21, 2) := by decide +kernel
theorem dX0_setNow_18 : decode cX0_setNow 18 = .ok (.irem, 1) := by decide +kernel
theorem dX0_setNow_19 : decode cX0_setNow 19 = .ok (.iastore, 1) := by decide +kernel
theorem dX0_setNow_20 : decode cX0_setNow 20 = .ok (.aload_n 0, 1) := by decide +kernel
theorem dX0_setNow_21 : decode cX0_setNow 21 = .ok (.getfield 18, 3) := by decide +kernel
theorem dX0_setNow_24 : decode cX0_setNow 24 = .ok (.iconst 2, 1) := by decide +kernel
theorem dX0_setNow_25 : decode cX0_setNow 25 = .ok (.aload_n 0, 1) := by decide +kernel
theorem dX0_setNow_26 : decode cX0_setNow 26 = .ok (.getfield 15, 3) := by decide +kernel
theorem dX0_setNow_29 : decode cX0_setNow 29 = .ok (.iconst 0, 1) := by decide +kernel
theorem dX0_setNow_30 : decode cX0_setNow 30 = .ok (.iaload, 1) := by decide +kernel
theorem dX0_setNow_31 : decode cX0_setNow 31 = .ok (.aload_n 0, 1) := by decide +kernel
theorem dX0_setNow_32 : decode cX0_setNow 32 = .ok (.getfield 15, 3) := by decide +kernel
theorem dX0_setNow_35 : decode cX0_setNow 35 = .ok (.iconst 1, 1) := by decide +kernel
theorem dX0_setNow_36 : decode cX0_setNow 36 = .ok (.iaload, 1) := by decide +kernel
theorem dX0_setNow_37 : decode cX0_setNow 37 = .ok (.iadd, 1) := by decide +kernel
theorem dX0_setNow_38 : decode cX0_setNow 38 = .ok (.aload_n 0, 1) := by decide +kernel
theorem dX0_setNow_39 : decode cX0_setNow 39 = .ok (.getfield 15, 3) := by decide +kernel
theorem dX0_setNow_42 : decode cX0_setNow 42 = .ok (.iconst 2, 1) := by decide +kernel
theorem dX0_setNow_43 : decode cX0_setNow 43 = .ok (.iaload, 1) := by decide +kernel
theorem dX0_setNow_44 : decode cX0_setNow 44 = .ok (.iadd, 1) := by decide +kernel
theorem dX0_setNow_45 : decode cX0_setNow 45 = .ok (.aload_n 0, 1) := by decide +kernel
theorem dX0_setNow_46 : decode cX0_setNow 46 = .ok (.getfield 18, 3) := by decide +kernel
theorem dX0_setNow_49 : decode cX0_setNow 49 = .ok (.iconst 0, 1) := by decide +kernel
theorem dX0_setNow_50 : decode cX0_setNow 50 = .ok (.iaload, 1) := by decide +kernel
theorem dX0_setNow_51 : decode cX0_setNow 51 = .ok (.isub, 1) := by decide +kernel
theorem dX0_setNow_52 : decode cX0_setNow 52 = .ok (.aload_n 0, 1) := by decide +kernel
theorem dX0_setNow_53 : decode cX0_setNow 53 = .ok (.getfield 18, 3) := by decide +kernel
theorem dX0_setNow_56 : decode cX0_setNow 56 = .ok (.iconst 1, 1) := by decide +kernel
theorem dX0_setNow_57 : decode cX0_setNow 57 = .ok (.iaload, 1) := by decide +kernel
theorem dX0_setNow_58 : decode cX0_setNow 58 = .ok (.isub, 1) := by decide +kernel
theorem dX0_setNow_59 : decode cX0_setNow 59 = .ok (.iastore, 1) := by decide +kernel
theorem dX0_setNow_60 : decode cX0_setNow 60 = .ok (.return_, 1) := by decide +kernel
theorem dX0_pourOne_0 : decode cX0_pourOne 0 = .ok (.aload_n 0, 1) := by decide +kernel
theorem dX0_pourOne_1 : decode cX0_pourOne 1 = .ok (.getfield 18, 3) := by decide +kernel
theorem dX0_pourOne_4 : decode cX0_pourOne 4 = .ok (.iload_n 1, 1) := by decide +kernel
theorem dX0_pourOne_5 : decode cX0_pourOne 5 = .ok (.iaload, 1) := by decide +kernel
theorem dX0_pourOne_6 : decode cX0_pourOne 6 = .ok (.aload_n 0, 1) := by decide +kernel
theorem dX0_pourOne_7 : decode cX0_pourOne 7 = .ok (.getfield 11, 3) := by decide +kernel
theorem dX0_pourOne_10 : decode cX0_pourOne 10 = .ok (.iload_n 2, 1) := by decide +kernel
theorem dX0_pourOne_11 : decode cX0_pourOne 11 = .ok (.iaload, 1) := by decide +kernel
theorem dX0_pourOne_12 : decode cX0_pourOne 12 = .ok (.aload_n 0, 1) := by decide +kernel
theorem dX0_pourOne_13 : decode cX0_pourOne 13 = .ok (.getfield 18, 3) := by decide +kernel
theorem dX0_pourOne_16 : decode cX0_pourOne 16 = .ok (.iload_n 2, 1) := by decide +kernel
theorem dX0_pourOne_17 : decode cX0_pourOne 17 = .ok (.iaload, 1) := by decide +kernel
theorem dX0_pourOne_18 : decode cX0_pourOne 18 = .ok (.isub, 1) := by decide +kernel
theorem dX0_pourOne_19 : decode cX0_pourOne 19 = .ok (.invokestatic 51, 3) := by decide +kernel
theorem dX0_pourOne_22 : decode cX0_pourOne 22 = .ok (.istore 4, 2) := by decide +kernel
theorem dX0_pourOne_24 : decode cX0_pourOne 24 = .ok (.aload_n 0, 1) := by decide +kernel
theorem dX0_pourOne_25 : decode cX0_pourOne 25 = .ok (.getfield 18, 3) := by decide +kernel
theorem dX0_pourOne_28 : decode cX0_pourOne 28 = .ok (.iconst 0, 1) := by decide +kernel
theorem dX0_pourOne_29 : decode cX0_pourOne 29 = .ok (.aload_n 0, 1) := by decide +kernel
theorem dX0_pourOne_30 : decode cX0_pourOne 30 = .ok (.getfield 21, 3) := by decide +kernel
theorem dX0_pourOne_33 : decode cX0_pourOne 33 = .ok (.iconst 0, 1) := by decide +kernel
theorem dX0_pourOne_34 : decode cX0_pourOne 34 = .ok (.iconst 3, 1) := by decide +kernel
theorem dX0_pourOne_35 : decode cX0_pourOne 35 = .ok (.invokestatic 57, 3) := by decide +kernel
theorem dX0_pourOne_38 : decode cX0_pourOne 38 = .ok (.aload_n 0, 1) := by decide +kernel
theorem dX0_pourOne_39 : decode cX0_pourOne 39 = .ok (.getfield 21, 3) := by decide +kernel
theorem dX0_pourOne_42 : decode cX0_pourOne 42 = .ok (.iload_n 1, 1) := by decide +kernel
theorem dX0_pourOne_43 : decode cX0_pourOne 43 = .ok (.dup2, 1) := by decide +kernel
theorem dX0_pourOne_44 : decode cX0_pourOne 44 = .ok (.iaload, 1) := by decide +kernel
theorem dX0_pourOne_45 : decode cX0_pourOne 45 = .ok (.iload 4, 2) := by decide +kernel
theorem dX0_pourOne_47 : decode cX0_pourOne 47 = .ok (.isub, 1) := by decide +kernel
theorem dX0_pourOne_48 : decode cX0_pourOne 48 = .ok (.iastore, 1) := by decide +kernel
theorem dX0_pourOne_49 : decode cX0_pourOne 49 = .ok (.aload_n 0, 1) := by decide +kernel
theorem dX0_pourOne_50 : decode cX0_pourOne 50 = .ok (.getfield 21, 3) := by decide +kernel
theorem dX0_pourOne_53 : decode cX0_pourOne 53 = .ok (.iload_n 2, 1) := by decide +kernel
theorem dX0_pourOne_54 : decode cX0_pourOne 54 = .ok (.dup2, 1) := by decide +kernel
theorem dX0_pourOne_55 : decode cX0_pourOne 55 = .ok (.iaload, 1) := by decide +kernel
theorem dX0_pourOne_56 : decode cX0_pourOne 56 = .ok (.iload 4, 2) := by decide +kernel
theorem dX0_pourOne_58 : decode cX0_pourOne 58 = .ok (.iadd, 1) := by decide +kernel
theorem dX0_pourOne_59 : decode cX0_pourOne 59 = .ok (.iastore, 1) := by decide +kernel
theorem dX0_pourOne_60 : decode cX0_pourOne 60 = .ok (.aload_n 0, 1) := by decide +kernel
theorem dX0_pourOne_61 : decode cX0_pourOne 61 = .ok (.aload_n 0, 1) := by decide +kernel
theorem dX0_pourOne_62 : decode cX0_pourOne 62 = .ok (.getfield 21, 3) := by decide +kernel
theorem dX0_pourOne_65 : decode cX0_pourOne 65 = .ok (.iload_n 3, 1) := by decide +kernel
theorem dX0_pourOne_66 : decode cX0_pourOne 66 = .ok (.invokevirtual 40, 3) := by decide +kernel
theorem dX0_pourOne_69 : decode cX0_pourOne 69 = .ok (.return_, 1) := by decide +kernel
theorem dX0_reach_0 : decode cX0_reach 0 = .ok (.aload_n 1, 1) := by decide +kernel
theorem dX0_reach_1 : decode cX0_reach 1 = .ok (.iconst 0, 1) := by decide +kernel
theorem dX0_reach_2 : decode cX0_reach 2 = .ok (.iaload, 1) := by decide +kernel
theorem dX0_reach_3 : decode cX0_reach 3 = .ok (.bipush 21, 2) := by decide +kernel
theorem dX0_reach_5 : decode cX0_reach 5 = .ok (.imul, 1) := by decide +kernel
theorem dX0_reach_6 : decode cX0_reach 6 = .ok (.aload_n 1, 1) := by decide +kernel
theorem dX0_reach_7 : decode cX0_reach 7 = .ok (.iconst 1, 1) := by decide +kernel
theorem dX0_reach_8 : decode cX0_reach 8 = .ok (.iaload, 1) := by decide +kernel
theorem dX0_reach_9 : decode cX0_reach 9 = .ok (.iadd, 1) := by decide +kernel
theorem dX0_reach_10 : decode cX0_reach 10 = .ok (.istore_n 3, 1) := by decide +kernel
theorem dX0_reach_11 : decode cX0_reach 11 = .ok (.iload_n 3, 1) := by decide +kernel
theorem dX0_reach_12 : decode cX0_reach 12 = .ok (.ifCond .lt 56, 3) := by decide +kernel
theorem dX0_reach_15 : decode cX0_reach 15 = .ok (.iload_n 3, 1) := by decide +kernel
theorem dX0_reach_16 : decode cX0_reach 16 = .ok (.sipush 441, 3) := by decide +kernel
theorem dX0_reach_19 : decode cX0_reach 19 = .ok (.if_icmp .ge 49, 3) := by decide +kernel
theorem dX0_reach_22 : decode cX0_reach 22 = .ok (.aload_n 0, 1) := by decide +kernel
theorem dX0_reach_23 : decode cX0_reach 23 = .ok (.getfield 36, 3) := by decide +kernel
theorem dX0_reach_26 : decode cX0_reach 26 = .ok (.sipush 441, 3) := by decide +kernel
theorem dX0_reach_29 : decode cX0_reach 29 = .ok (.if_icmp .ge 39, 3) := by decide +kernel
theorem dX0_reach_32 : decode cX0_reach 32 = .ok (.aload_n 0, 1) := by decide +kernel
theorem dX0_reach_33 : decode cX0_reach 33 = .ok (.getfield 24, 3) := by decide +kernel
theorem dX0_reach_36 : decode cX0_reach 36 = .ok (.iload_n 3, 1) := by decide +kernel
theorem dX0_reach_37 : decode cX0_reach 37 = .ok (.iaload, 1) := by decide +kernel
theorem dX0_reach_38 : decode cX0_reach 38 = .ok (.ifCond .ge 30, 3) := by decide +kernel
theorem dX0_reach_41 : decode cX0_reach 41 = .ok (.aload_n 0, 1) := by decide +kernel
theorem dX0_reach_42 : decode cX0_reach 42 = .ok (.getfield 24, 3) := by decide +kernel
theorem dX0_reach_45 : decode cX0_reach 45 = .ok (.iload_n 3, 1) := by decide +kernel
theorem dX0_reach_46 : decode cX0_reach 46 = .ok (.iload_n 2, 1) := by decide +kernel
theorem dX0_reach_47 : decode cX0_reach 47 = .ok (.iastore, 1) := by decide +kernel
theorem dX0_reach_48 : decode cX0_reach 48 = .ok (.aload_n 0, 1) := by decide +kernel
theorem dX0_reach_49 : decode cX0_reach 49 = .ok (.getfield 27, 3) := by decide +kernel
theorem dX0_reach_52 : decode cX0_reach 52 = .ok (.aload_n 0, 1) := by decide +kernel
theorem dX0_reach_53 : decode cX0_reach 53 = .ok (.getfield 36, 3) := by decide +kernel
theorem dX0_reach_56 : decode cX0_reach 56 = .ok (.iload_n 3, 1) := by decide +kernel
theorem dX0_reach_57 : decode cX0_reach 57 = .ok (.iastore, 1) := by decide +kernel
theorem dX0_reach_58 : decode cX0_reach 58 = .ok (.aload_n 0, 1) := by decide +kernel
theorem dX0_reach_59 : decode cX0_reach 59 = .ok (.dup, 1) := by decide +kernel
theorem dX0_reach_60 : decode cX0_reach 60 = .ok (.getfield 36, 3) := by decide +kernel
theorem dX0_reach_63 : decode cX0_reach 63 = .ok (.iconst 1, 1) := by decide +kernel
theorem dX0_reach_64 : decode cX0_reach 64 = .ok (.iadd, 1) := by decide +kernel
theorem dX0_reach_65 : decode cX0_reach 65 = .ok (.putfield 36, 3) := by decide +kernel
theorem dX0_reach_68 : decode cX0_reach 68 = .ok (.return_, 1) := by decide +kernel
theorem dX1_init_0 : decode cX1_init 0 = .ok (.aload_n 0, 1) := by decide +kernel
theorem dX1_init_1 : decode cX1_init 1 = .ok (.invokespecial 3, 3) := by decide +kernel
theorem dX1_init_4 : decode cX1_init 4 = .ok (.aload_n 0, 1) := by decide +kernel
theorem dX1_init_5 : decode cX1_init 5 = .ok (.bipush 6, 2) := by decide +kernel
theorem dX1_init_7 : decode cX1_init 7 = .ok (.newarray .int, 2) := by decide +kernel
theorem dX1_init_9 : decode cX1_init 9 = .ok (.putfield 9, 3) := by decide +kernel
theorem dX1_init_12 : decode cX1_init 12 = .ok (.aload_n 0, 1) := by decide +kernel
theorem dX1_init_13 : decode cX1_init 13 = .ok (.bipush 6, 2) := by decide +kernel
theorem dX1_init_15 : decode cX1_init 15 = .ok (.newarray .int, 2) := by decide +kernel
theorem dX1_init_17 : decode cX1_init 17 = .ok (.putfield 15, 3) := by decide +kernel
theorem dX1_init_20 : decode cX1_init 20 = .ok (.return_, 1) := by decide +kernel
theorem dX1_canBe_0 : decode cX1_canBe 0 = .ok (.aload_n 1, 1) := by decide +kernel
theorem dX1_canBe_1 : decode cX1_canBe 1 = .ok (.getfield 18, 3) := by decide +kernel
theorem dX1_canBe_4 : decode cX1_canBe 4 = .ok (.iconst 0, 1) := by decide +kernel
theorem dX1_canBe_5 : decode cX1_canBe 5 = .ok (.aload_n 0, 1) := by decide +kernel
theorem dX1_canBe_6 : decode cX1_canBe 6 = .ok (.getfield 9, 3) := by decide +kernel
theorem dX1_canBe_9 : decode cX1_canBe 9 = .ok (.iconst 0, 1) := by decide +kernel
theorem dX1_canBe_10 : decode cX1_canBe 10 = .ok (.bipush 6, 2) := by decide +kernel
theorem dX1_canBe_12 : decode cX1_canBe 12 = .ok (.invokestatic 21, 3) := by decide +kernel
theorem dX1_canBe_15 : decode cX1_canBe 15 = .ok (.aload_n 1, 1) := by decide +kernel
theorem dX1_canBe_16 : decode cX1_canBe 16 = .ok (.getfield 27, 3) := by decide +kernel
theorem dX1_canBe_19 : decode cX1_canBe 19 = .ok (.iconst 0, 1) := by decide +kernel
theorem dX1_canBe_20 : decode cX1_canBe 20 = .ok (.aload_n 0, 1) := by decide +kernel
theorem dX1_canBe_21 : decode cX1_canBe 21 = .ok (.getfield 15, 3) := by decide +kernel
theorem dX1_canBe_24 : decode cX1_canBe 24 = .ok (.iconst 0, 1) := by decide +kernel
theorem dX1_canBe_25 : decode cX1_canBe 25 = .ok (.bipush 6, 2) := by decide +kernel
theorem dX1_canBe_27 : decode cX1_canBe 27 = .ok (.invokestatic 21, 3) := by decide +kernel
theorem dX1_canBe_30 : decode cX1_canBe 30 = .ok (.iconst 0, 1) := by decide +kernel
theorem dX1_canBe_31 : decode cX1_canBe 31 = .ok (.istore_n 2, 1) := by decide +kernel
theorem dX1_canBe_32 : decode cX1_canBe 32 = .ok (.iload_n 2, 1) := by decide +kernel
theorem dX1_canBe_33 : decode cX1_canBe 33 = .ok (.bipush 6, 2) := by decide +kernel
theorem dX1_canBe_35 : decode cX1_canBe 35 = .ok (.if_icmp .ge 15, 3) := by decide +kernel
theorem dX1_canBe_38 : decode cX1_canBe 38 = .ok (.aload_n 0, 1) := by decide +kernel
theorem dX1_canBe_39 : decode cX1_canBe 39 = .ok (.aload_n 1, 1) := by decide +kernel
theorem dX1_canBe_40 : decode cX1_canBe 40 = .ok (.invokevirtual 28, 3) := by decide +kernel
theorem dX1_canBe_43 : decode cX1_canBe 43 = .ok (.pop, 1) := by decide +kernel
theorem dX1_canBe_44 : decode cX1_canBe 44 = .ok (.iinc 2 1, 3) := by decide +kernel
theorem dX1_canBe_47 : decode cX1_canBe 47 = .ok (.goto (-15), 3) := by decide +kernel
theorem dX1_canBe_50 : decode cX1_canBe 50 = .ok (.aload_n 0, 1) := by decide +kernel
theorem dX1_canBe_51 : decode cX1_canBe 51 = .ok (.aload_n 1, 1) := by decide +kernel
theorem dX1_canBe_52 : decode cX1_canBe 52 = .ok (.invokevirtual 28, 3) := by decide +kernel
theorem dX1_canBe_55 : decode cX1_canBe 55 = .ok (.ifCond .eq 5, 3) := by decide +kernel
theorem dX1_canBe_58 : decode cX1_canBe 58 = .ok (.iconst 0, 1) := by decide +kernel
theorem dX1_canBe_59 : decode cX1_canBe 59 = .ok (.ireturn, 1) := by decide +kernel
theorem dX1_canBe_60 : decode cX1_canBe 60 = .ok (.iconst 0, 1) := by decide +kernel
theorem dX1_canBe_61 : decode cX1_canBe 61 = .ok (.istore_n 2, 1) := by decide +kernel
theorem dX1_canBe_62 : decode cX1_canBe 62 = .ok (.iload_n 2, 1) := by decide +kernel
theorem dX1_canBe_63 : decode cX1_canBe 63 = .ok (.bipush 6, 2) := by decide +kernel
theorem dX1_canBe_65 : decode cX1_canBe 65 = .ok (.if_icmp .ge 34, 3) := by decide +kernel
theorem dX1_canBe_68 : decode cX1_canBe 68 = .ok (.aload_n 1, 1) := by decide +kernel
theorem dX1_canBe_69 : decode cX1_canBe 69 = .ok (.iload_n 2, 1) := by decide +kernel
theorem dX1_canBe_70 : decode cX1_canBe 70 = .ok (.invokevirtual 32, 3) := by decide +kernel
theorem dX1_canBe_73 : decode cX1_canBe 73 = .ok (.ifCond .eq 20, 3) := by decide +kernel
theorem dX1_canBe_76 : decode cX1_canBe 76 = .ok (.aload_n 0, 1) := by decide +kernel
theorem dX1_canBe_77 : decode cX1_canBe 77 = .ok (.getfield 9, 3) := by decide +kernel
theorem dX1_canBe_80 : decode cX1_canBe 80 = .ok (.iload_n 2, 1) := by decide +kernel
theorem dX1_canBe_81 : decode cX1_canBe 81 = .ok (.iaload, 1) := by decide +kernel
theorem dX1_canBe_82 : decode cX1_canBe 82 = .ok (.aload_n 0, 1) := by decide +kernel
theorem dX1_canBe_83 : decode cX1_canBe 83 = .ok (.getfield 15, 3) := by decide +kernel
theorem dX1_canBe_86 : decode cX1_canBe 86 = .ok (.iload_n 2, 1) := by decide +kernel
theorem dX1_canBe_87 : decode cX1_canBe 87 = .ok (.iaload, 1) := by decide +kernel
theorem dX1_canBe_88 : decode cX1_canBe 88 = .ok (.if_icmp .le 5, 3) := by decide +kernel
theorem dX1_canBe_91 : decode cX1_canBe 91 = .ok (.iconst 0, 1) := by decide +kernel
theorem dX1_canBe_92 : decode cX1_canBe 92 = .ok (.ireturn, 1) := by decide +kernel
theorem dX1_canBe_93 : decode cX1_canBe 93 = .ok (.iinc 2 1, 3) := by decide +kernel
theorem dX1_canBe_96 : decode cX1_canBe 96 = .ok (.goto (-34), 3) := by decide +kernel
theorem dX1_canBe_99 : decode cX1_canBe 99 = .ok (.iconst 1, 1) := by decide +kernel
theorem dX1_canBe_100 : decode cX1_canBe 100 = .ok (.ireturn, 1) := by decide +kernel
theorem dX1_tighten_0 : decode cX1_tighten 0 = .ok (.iconst 0, 1) := by decide +kernel
theorem dX1_tighten_1 : decode cX1_tighten 1 = .ok (.istore_n 2, 1) := by decide +kernel
theorem dX1_tighten_2 : decode cX1_tighten 2 = .ok (.iconst 0, 1) := by decide +kernel
theorem dX1_tighten_3 : decode cX1_tighten 3 = .ok (.istore_n 3, 1) := by decide +kernel
theorem dX1_tighten_4 : decode cX1_tighten 4 = .ok (.iload_n 3, 1) := by decide +kernel
theorem dX1_tighten_5 : decode cX1_tighten 5 = .ok (.bipush 6, 2) := by decide +kernel
theorem dX1_tighten_7 : decode cX1_tighten 7 = .ok (.if_icmp .ge 123, 3) := by decide +kernel
theorem dX1_tighten_10 : decode cX1_tighten 10 = .ok (.iconst 0, 1) := by decide +kernel
theorem dX1_tighten_11 : decode cX1_tighten 11 = .ok (.istore 4, 2) := by decide +kernel
theorem dX1_tighten_13 : decode cX1_tighten 13 = .ok (.iload 4, 2) := by decide +kernel
theorem dX1_tighten_15 : decode cX1_tighten 15 = .ok (.bipush 6, 2) := by decide +kernel
theorem dX1_tighten_17 : decode cX1_tighten 17 = .ok (.if_icmp .ge 107, 3) := by decide +kernel
theorem dX1_tighten_20 : decode cX1_tighten 20 = .ok (.aload_n 1, 1) := by decide +kernel
theorem dX1_tighten_21 : decode cX1_tighten 21 = .ok (.getfield 36, 3) := by decide +kernel
theorem dX1_tighten_24 : decode cX1_tighten 24 = .ok (.iload_n 3, 1) := by decide +kernel
theorem dX1_tighten_25 : decode cX1_tighten 25 = .ok (.bipush 6, 2) := by decide +kernel
theorem dX1_tighten_27 : decode cX1_tighten 27 = .ok (.imul, 1) := by decide +kernel
theorem dX1_tighten_28 : decode cX1_tighten 28 = .ok (.iload 4, 2) := by decide +kernel
theorem dX1_tighten_30 : decode cX1_tighten 30 = .ok (.iadd, 1) := by decide +kernel
theorem dX1_tighten_31 : decode cX1_tighten 31 = .ok (.iaload, 1) := by decide +kernel
theorem dX1_tighten_32 : decode cX1_tighten 32 = .ok (.istore 5, 2) := by decide +kernel
theorem dX1_tighten_34 : decode cX1_tighten 34 = .ok (.iload 5, 2) := by decide +kernel
theorem dX1_tighten_36 : decode cX1_tighten 36 = .ok (.ifCond .lt 40, 3) := by decide +kernel
theorem dX1_tighten_39 : decode cX1_tighten 39 = .ok (.aload_n 0, 1) := by decide +kernel
theorem dX1_tighten_40 : decode cX1_tighten 40 = .ok (.getfield 9, 3) := by decide +kernel
theorem dX1_tighten_43 : decode cX1_tighten 43 = .ok (.iload_n 3, 1) := by decide +kernel
theorem dX1_tighten_44 : decode cX1_tighten 44 = .ok (.iaload, 1) := by decide +kernel
theorem dX1_tighten_45 : decode cX1_tighten 45 = .ok (.aload_n 0, 1) := by decide +kernel
theorem dX1_tighten_46 : decode cX1_tighten 46 = .ok (.getfield 9, 3) := by decide +kernel
theorem dX1_tighten_49 : decode cX1_tighten 49 = .ok (.iload 4, 2) := by decide +kernel
theorem dX1_tighten_51 : decode cX1_tighten 51 = .ok (.iaload, 1) := by decide +kernel
theorem dX1_tighten_52 : decode cX1_tighten 52 = .ok (.iload 5, 2) := by decide +kernel
theorem dX1_tighten_54 : decode cX1_tighten 54 = .ok (.iadd, 1) := by decide +kernel
theorem dX1_tighten_55 : decode cX1_tighten 55 = .ok (.if_icmp .ge 21, 3) := by decide +kernel
theorem dX1_tighten_58 : decode cX1_tighten 58 = .ok (.aload_n 0, 1) := by decide +kernel
theorem dX1_tighten_59 : decode cX1_tighten 59 = .ok (.getfield 9, 3) := by decide +kernel
theorem dX1_tighten_62 : decode cX1_tighten 62 = .ok (.iload_n 3, 1) := by decide +kernel
theorem dX1_tighten_63 : decode cX1_tighten 63 = .ok (.aload_n 0, 1) := by decide +kernel
theorem dX1_tighten_64 : decode cX1_tighten 64 = .ok (.getfield 9, 3) := by decide +kernel
theorem dX1_tighten_67 : decode cX1_tighten 67 = .ok (.iload 4, 2) := by decide +kernel
theorem dX1_tighten_69 : decode cX1_tighten 69 = .ok (.iaload, 1) := by decide +kernel
theorem dX1_tighten_70 : decode cX1_tighten 70 = .ok (.iload 5, 2) := by decide +kernel
theorem dX1_tighten_72 : decode cX1_tighten 72 = .ok (.iadd, 1) := by decide +kernel
theorem dX1_tighten_73 : decode cX1_tighten 73 = .ok (.iastore, 1) := by decide +kernel
theorem dX1_tighten_74 : decode cX1_tighten 74 = .ok (.iconst 1, 1) := by decide +kernel
theorem dX1_tighten_75 : decode cX1_tighten 75 = .ok (.istore_n 2, 1) := by decide +kernel
theorem dX1_tighten_76 : decode cX1_tighten 76 = .ok (.iload 5, 2) := by decide +kernel
theorem dX1_tighten_78 : decode cX1_tighten 78 = .ok (.ifCond .lt 40, 3) := by decide +kernel
theorem dX1_tighten_81 : decode cX1_tighten 81 = .ok (.aload_n 0, 1) := by decide +kernel
theorem dX1_tighten_82 : decode cX1_tighten 82 = .ok (.getfield 15, 3) := by decide +kernel
theorem dX1_tighten_85 : decode cX1_tighten 85 = .ok (.iload 4, 2) := by decide +kernel
theorem dX1_tighten_87 : decode cX1_tighten 87 = .ok (.iaload, 1) := by decide +kernel
theorem dX1_tighten_88 : decode cX1_tighten 88 = .ok (.aload_n 0, 1) := by decide +kernel
theorem dX1_tighten_89 : decode cX1_tighten 89 = .ok (.getfield 15, 3) := by decide +kernel
theorem dX1_tighten_92 : decode cX1_tighten 92 = .ok (.iload_n 3, 1) := by decide +kernel
theorem dX1_tighten_93 : decode cX1_tighten 93 = .ok (.iaload, 1) := by decide +kernel
theorem dX1_tighten_94 : decode cX1_tighten 94 = .ok (.iload 5, 2) := by decide +kernel
theorem dX1_tighten_96 : decode cX1_tighten 96 = .ok (.isub, 1) := by decide +kernel
theorem dX1_tighten_97 : decode cX1_tighten 97 = .ok (.if_icmp .le 21, 3) := by decide +kernel
theorem dX1_tighten_100 : decode cX1_tighten 100 = .ok (.aload_n 0, 1) := by decide +kernel
theorem dX1_tighten_101 : decode cX1_tighten 101 = .ok (.getfield 15, 3) := by decide +kernel
theorem dX1_tighten_104 : decode cX1_tighten 104 = .ok (.iload 4, 2) := by decide +kernel
theorem dX1_tighten_106 : decode cX1_tighten 106 = .ok (.aload_n 0, 1) := by decide +kernel
theorem dX1_tighten_107 : decode cX1_tighten 107 = .ok (.getfield 15, 3) := by decide +kernel
theorem dX1_tighten_110 : decode cX1_tighten 110 = .ok (.iload_n 3, 1) := by decide +kernel
theorem dX1_tighten_111 : decode cX1_tighten 111 = .ok (.iaload, 1) := by decide +kernel
theorem dX1_tighten_112 : decode cX1_tighten 112 = .ok (.iload 5, 2) := by decide +kernel
theorem dX1_tighten_114 : decode cX1_tighten 114 = .ok (.isub, 1) := by decide +kernel
theorem dX1_tighten_115 : decode cX1_tighten 115 = .ok (.iastore, 1) := by decide +kernel
theorem dX1_tighten_116 : decode cX1_tighten 116 = .ok (.iconst 1, 1) := by decide +kernel
theorem dX1_tighten_117 : decode cX1_tighten 117 = .ok (.istore_n 2, 1) := by decide +kernel
theorem dX1_tighten_118 : decode cX1_tighten 118 = .ok (.iinc 4 1, 3) := by decide +kernel
theorem dX1_tighten_121 : decode cX1_tighten 121 = .ok (.goto (-108), 3) := by decide +kernel
theorem dX1_tighten_124 : decode cX1_tighten 124 = .ok (.iinc 3 1, 3) := by decide +kernel
theorem dX1_tighten_127 : decode cX1_tighten 127 = .ok (.goto (-123), 3) := by decide +kernel
theorem dX1_tighten_130 : decode cX1_tighten 130 = .ok (.iload_n 2, 1) := by decide +kernel
theorem dX1_tighten_131 : decode cX1_tighten 131 = .ok (.ireturn, 1) := by decide +kernel
theorem dX2_init_0 : decode cX2_init 0 = .ok (.aload_n 0, 1) := by decide +kernel
theorem dX2_init_1 : decode cX2_init 1 = .ok (.invokespecial 3, 3) := by decide +kernel
theorem dX2_init_4 : decode cX2_init 4 = .ok (.aload_n 0, 1) := by decide +kernel
theorem dX2_init_5 : decode cX2_init 5 = .ok (.sipush 12000, 3) := by decide +kernel
theorem dX2_init_8 : decode cX2_init 8 = .ok (.newarray .int, 2) := by decide +kernel
theorem dX2_init_10 : decode cX2_init 10 = .ok (.putfield 9, 3) := by decide +kernel
theorem dX2_init_13 : decode cX2_init 13 = .ok (.aload_n 0, 1) := by decide +kernel
theorem dX2_init_14 : decode cX2_init 14 = .ok (.sipush 2000, 3) := by decide +kernel
theorem dX2_init_17 : decode cX2_init 17 = .ok (.newarray .long, 2) := by decide +kernel
theorem dX2_init_19 : decode cX2_init 19 = .ok (.putfield 15, 3) := by decide +kernel
theorem dX2_init_22 : decode cX2_init 22 = .ok (.aload_n 0, 1) := by decide +kernel
theorem dX2_init_23 : decode cX2_init 23 = .ok (.sipush 2000, 3) := by decide +kernel
theorem dX2_init_26 : decode cX2_init 26 = .ok (.newarray .boolean, 2) := by decide +kernel
theorem dX2_init_28 : decode cX2_init 28 = .ok (.putfield 19, 3) := by decide +kernel
theorem dX2_init_31 : decode cX2_init 31 = .ok (.return_, 1) := by decide +kernel
theorem dX2_gather_0 : decode cX2_gather 0 = .ok (.aload_n 0, 1) := by decide +kernel
theorem dX2_gather_1 : decode cX2_gather 1 = .ok (.iconst 0, 1) := by decide +kernel
theorem dX2_gather_2 : decode cX2_gather 2 = .ok (.putfield 23, 3) := by decide +kernel
theorem dX2_gather_5 : decode cX2_gather 5 = .ok (.aload_n 1, 1) := by decide +kernel
theorem dX2_gather_6 : decode cX2_gather 6 = .ok (.iload_n 2, 1) := by decide +kernel
theorem dX2_gather_7 : decode cX2_gather 7 = .ok (.invokevirtual 27, 3) := by decide +kernel
theorem dX2_gather_10 : decode cX2_gather 10 = .ok (.ifCond .ne 5, 3) := by decide +kernel
theorem dX2_gather_13 : decode cX2_gather 13 = .ok (.iconst 0, 1) := by decide +kernel
theorem dX2_gather_14 : decode cX2_gather 14 = .ok (.ireturn, 1) := by decide +kernel
theorem dX2_gather_15 : decode cX2_gather 15 = .ok (.iconst 0, 1) := by decide +kernel
theorem dX2_gather_16 : decode cX2_gather 16 = .ok (.istore_n 3, 1) := by decide +kernel
theorem dX2_gather_17 : decode cX2_gather 17 = .ok (.iload_n 3, 1) := by decide +kernel
theorem dX2_gather_18 : decode cX2_gather 18 = .ok (.ldc 33, 2) := by decide +kernel
theorem dX2_gather_20 : decode cX2_gather 20 = .ok (.if_icmp .ge 59, 3) := by decide +kernel
theorem dX2_gather_23 : decode cX2_gather 23 = .ok (.aload_n 1, 1) := by decide +kernel
theorem dX2_gather_24 : decode cX2_gather 24 = .ok (.invokevirtual 34, 3) := by decide +kernel
theorem dX2_gather_27 : decode cX2_gather 27 = .ok (.ifCond .eq 52, 3) := by decide +kernel
theorem dX2_gather_30 : decode cX2_gather 30 = .ok (.aload_n 0, 1) := by decide +kernel
theorem dX2_gather_31 : decode cX2_gather 31 = .ok (.getfield 23, 3) := by decide +kernel
theorem dX2_gather_34 : decode cX2_gather 34 = .ok (.sipush 2000, 3) := by decide +kernel
theorem dX2_gather_37 : decode cX2_gather 37 = .ok (.if_icmp .lt 5, 3) := by decide +kernel
theorem dX2_gather_40 : decode cX2_gather 40 = .ok (.iconst 0, 1) := by decide +kernel
theorem dX2_gather_41 : decode cX2_gather 41 = .ok (.ireturn, 1) := by decide +kernel
theorem dX2_gather_42 : decode cX2_gather 42 = .ok (.aload_n 1, 1) := by decide +kernel
theorem dX2_gather_43 : decode cX2_gather 43 = .ok (.getfield 38, 3) := by decide +kernel
theorem dX2_gather_46 : decode cX2_gather 46 = .ok (.iconst 0, 1) := by decide +kernel
theorem dX2_gather_47 : decode cX2_gather 47 = .ok (.aload_n 0, 1) := by decide +kernel
theorem dX2_gather_48 : decode cX2_gather 48 = .ok (.getfield 9, 3) := by decide +kernel
theorem dX2_gather_51 : decode cX2_gather 51 = .ok (.aload_n 0, 1) := by decide +kernel
theorem dX2_gather_52 : decode cX2_gather 52 = .ok (.getfield 23, 3) := by decide +kernel
theorem dX2_gather_55 : decode cX2_gather 55 = .ok (.bipush 6, 2) := by decide +kernel
theorem dX2_gather_57 : decode cX2_gather 57 = .ok (.imul, 1) := by decide +kernel
theorem dX2_gather_58 : decode cX2_gather 58 = .ok (.bipush 6, 2) := by decide +kernel
theorem dX2_gather_60 : decode cX2_gather 60 = .ok (.invokestatic 41, 3) := by decide +kernel
theorem dX2_gather_63 : decode cX2_gather 63 = .ok (.aload_n 0, 1) := by decide +kernel
theorem dX2_gather_64 : decode cX2_gather 64 = .ok (.dup, 1) := by decide +kernel
theorem dX2_gather_65 : decode cX2_gather 65 = .ok (.getfield 23, 3) := by decide +kernel
theorem dX2_gather_68 : decode cX2_gather 68 = .ok (.iconst 1, 1) := by decide +kernel
theorem dX2_gather_69 : decode cX2_gather 69 = .ok (.iadd, 1) := by decide +kernel
theorem dX2_gather_70 : decode cX2_gather 70 = .ok (.putfield 23, 3) := by decide +kernel
theorem dX2_gather_73 : decode cX2_gather 73 = .ok (.iinc 3 1, 3) := by decide +kernel
theorem dX2_gather_76 : decode cX2_gather 76 = .ok (.goto (-59), 3) := by decide +kernel
theorem dX2_gather_79 : decode cX2_gather 79 = .ok (.iconst 1, 1) := by decide +kernel
theorem dX2_gather_80 : decode cX2_gather 80 = .ok (.ireturn, 1) := by decide +kernel
theorem dX2_ageOf_0 : decode cX2_ageOf 0 = .ok (.aload_n 0, 1) := by decide +kernel
theorem dX2_ageOf_1 : decode cX2_ageOf 1 = .ok (.getfield 9, 3) := by decide +kernel
theorem dX2_ageOf_4 : decode cX2_ageOf 4 = .ok (.iload_n 1, 1) := by decide +kernel
theorem dX2_ageOf_5 : decode cX2_ageOf 5 = .ok (.bipush 6, 2) := by decide +kernel
theorem dX2_ageOf_7 : decode cX2_ageOf 7 = .ok (.imul, 1) := by decide +kernel
theorem dX2_ageOf_8 : decode cX2_ageOf 8 = .ok (.iload_n 2, 1) := by decide +kernel
theorem dX2_ageOf_9 : decode cX2_ageOf 9 = .ok (.iadd, 1) := by decide +kernel
theorem dX2_ageOf_10 : decode cX2_ageOf 10 = .ok (.iaload, 1) := by decide +kernel
theorem dX2_ageOf_11 : decode cX2_ageOf 11 = .ok (.ireturn, 1) := by decide +kernel
theorem dX2_hear_0 : decode cX2_hear 0 = .ok (.iconst 0, 1) := by decide +kernel
theorem dX2_hear_1 : decode cX2_hear 1 = .ok (.istore_n 2, 1) := by decide +kernel
theorem dX2_hear_2 : decode cX2_hear 2 = .ok (.iload_n 2, 1) := by decide +kernel
theorem dX2_hear_3 : decode cX2_hear 3 = .ok (.aload_n 0, 1) := by decide +kernel
theorem dX2_hear_4 : decode cX2_hear 4 = .ok (.getfield 23, 3) := by decide +kernel
theorem dX2_hear_7 : decode cX2_hear 7 = .ok (.if_icmp .ge 62, 3) := by decide +kernel
theorem dX2_hear_10 : decode cX2_hear 10 = .ok (.aload_n 1, 1) := by decide +kernel
theorem dX2_hear_11 : decode cX2_hear 11 = .ok (.getfield 47, 3) := by decide +kernel
theorem dX2_hear_14 : decode cX2_hear 14 = .ok (.istore_n 3, 1) := by decide +kernel
theorem dX2_hear_15 : decode cX2_hear 15 = .ok (.iconst 0, 1) := by decide +kernel
theorem dX2_hear_16 : decode cX2_hear 16 = .ok (.istore 4, 2) := by decide +kernel
theorem dX2_hear_18 : decode cX2_hear 18 = .ok (.iload 4, 2) := by decide +kernel
theorem dX2_hear_20 : decode cX2_hear 20 = .ok (.bipush 6, 2) := by decide +kernel
theorem dX2_hear_22 : decode cX2_hear 22 = .ok (.if_icmp .ge 27, 3) := by decide +kernel
theorem dX2_hear_25 : decode cX2_hear 25 = .ok (.iload_n 3, 1) := by decide +kernel
theorem dX2_hear_26 : decode cX2_hear 26 = .ok (.aload_n 1, 1) := by decide +kernel
theorem dX2_hear_27 : decode cX2_hear 27 = .ok (.getfield 52, 3) := by decide +kernel
theorem dX2_hear_30 : decode cX2_hear 30 = .ok (.iload 4, 2) := by decide +kernel
theorem dX2_hear_32 : decode cX2_hear 32 = .ok (.iaload, 1) := by decide +kernel
theorem dX2_hear_33 : decode cX2_hear 33 = .ok (.aload_n 0, 1) := by decide +kernel
theorem dX2_hear_34 : decode cX2_hear 34 = .ok (.iload_n 2, 1) := by decide +kernel
theorem dX2_hear_35 : decode cX2_hear 35 = .ok (.iload 4, 2) := by decide +kernel
theorem dX2_hear_37 : decode cX2_hear 37 = .ok (.invokevirtual 55, 3) := by decide +kernel
theorem dX2_hear_40 : decode cX2_hear 40 = .ok (.imul, 1) := by decide +kernel
theorem dX2_hear_41 : decode cX2_hear 41 = .ok (.iadd, 1) := by decide +kernel
theorem dX2_hear_42 : decode cX2_hear 42 = .ok (.istore_n 3, 1) := by decide +kernel
theorem dX2_hear_43 : decode cX2_hear 43 = .ok (.iinc 4 1, 3) := by decide +kernel
theorem dX2_hear_46 : decode cX2_hear 46 = .ok (.goto (-28), 3) := by decide +kernel
theorem dX2_hear_49 : decode cX2_hear 49 = .ok (.aload_n 0, 1) := by decide +kernel
theorem dX2_hear_50 : decode cX2_hear 50 = .ok (.getfield 15, 3) := by decide +kernel
theorem dX2_hear_53 : decode cX2_hear 53 = .ok (.iload_n 2, 1) := by decide +kernel
theorem dX2_hear_54 : decode cX2_hear 54 = .ok (.iload_n 3, 1) := by decide +kernel
theorem dX2_hear_55 : decode cX2_hear 55 = .ok (.i2l, 1) := by decide +kernel
theorem dX2_hear_56 : decode cX2_hear 56 = .ok (.bipush 32, 2) := by decide +kernel
theorem dX2_hear_58 : decode cX2_hear 58 = .ok (.lshl, 1) := by decide +kernel
theorem dX2_hear_59 : decode cX2_hear 59 = .ok (.iload_n 2, 1) := by decide +kernel
theorem dX2_hear_60 : decode cX2_hear 60 = .ok (.i2l, 1) := by decide +kernel
theorem dX2_hear_61 : decode cX2_hear 61 = .ok (.lor, 1) := by decide +kernel
theorem dX2_hear_62 : decode cX2_hear 62 = .ok (.lastore, 1) := by decide +kernel
theorem dX2_hear_63 : decode cX2_hear 63 = .ok (.iinc 2 1, 3) := by decide +kernel
theorem dX2_hear_66 : decode cX2_hear 66 = .ok (.goto (-64), 3) := by decide +kernel
theorem dX2_hear_69 : decode cX2_hear 69 = .ok (.aload_n 0, 1) := by decide +kernel
theorem dX2_hear_70 : decode cX2_hear 70 = .ok (.invokevirtual 59, 3) := by decide +kernel
theorem dX2_hear_73 : decode cX2_hear 73 = .ok (.iconst 0, 1) := by decide +kernel
theorem dX2_hear_74 : decode cX2_hear 74 = .ok (.istore_n 2, 1) := by decide +kernel
theorem dX2_hear_75 : decode cX2_hear 75 = .ok (.iload_n 2, 1) := by decide +kernel
theorem dX2_hear_76 : decode cX2_hear 76 = .ok (.aload_n 0, 1) := by decide +kernel
theorem dX2_hear_77 : decode cX2_hear 77 = .ok (.getfield 23, 3) := by decide +kernel
theorem dX2_hear_80 : decode cX2_hear 80 = .ok (.if_icmp .ge 90, 3) := by decide +kernel
theorem dX2_hear_83 : decode cX2_hear 83 = .ok (.iload_n 2, 1) := by decide +kernel
theorem dX2_hear_84 : decode cX2_hear 84 = .ok (.ifCond .le 22, 3) := by decide +kernel
theorem dX2_hear_87 : decode cX2_hear 87 = .ok (.aload_n 0, 1) := by decide +kernel
theorem dX2_hear_88 : decode cX2_hear 88 = .ok (.iload_n 2, 1) := by decide +kernel
theorem dX2_hear_89 : decode cX2_hear 89 = .ok (.iconst 1, 1) := by decide +kernel
theorem dX2_hear_90 : decode cX2_hear 90 = .ok (.isub, 1) := by decide +kernel
theorem dX2_hear_91 : decode cX2_hear 91 = .ok (.invokevirtual 62, 3) := by decide +kernel
theorem dX2_hear_94 : decode cX2_hear 94 = .ok (.aload_n 0, 1) := by decide +kernel
theorem dX2_hear_95 : decode cX2_hear 95 = .ok (.iload_n 2, 1) := by decide +kernel
theorem dX2_hear_96 : decode cX2_hear 96 = .ok (.invokevirtual 62, 3) := by decide +kernel
theorem dX2_hear_99 : decode cX2_hear 99 = .ok (.if_icmp .ne 7, 3) := by decide +kernel
theorem dX2_hear_102 : decode cX2_hear 102 = .ok (.iconst 1, 1) := by decide +kernel
theorem dX2_hear_103 : decode cX2_hear 103 = .ok (.goto 4, 3) := by decide +kernel
theorem dX2_hear_106 : decode cX2_hear 106 = .ok (.iconst 0, 1) := by decide +kernel
theorem dX2_hear_107 : decode cX2_hear 107 = .ok (.istore_n 3, 1) := by decide +kernel
theorem dX2_hear_108 : decode cX2_hear 108 = .ok (.iload_n 2, 1) := by decide +kernel
theorem dX2_hear_109 : decode cX2_hear 109 = .ok (.iconst 1, 1) := by decide +kernel
theorem dX2_hear_110 : decode cX2_hear 110 = .ok (.iadd, 1) := by decide +kernel
theorem dX2_hear_111 : decode cX2_hear 111 = .ok (.aload_n 0, 1) := by decide +kernel
theorem dX2_hear_112 : decode cX2_hear 112 = .ok (.getfield 23, 3) := by decide +kernel
theorem dX2_hear_115 : decode cX2_hear 115 = .ok (.if_icmp .ge 22, 3) := by decide +kernel
theorem dX2_hear_118 : decode cX2_hear 118 = .ok (.aload_n 0, 1) := by decide +kernel
theorem dX2_hear_119 : decode cX2_hear 119 = .ok (.iload_n 2, 1) := by decide +kernel
theorem dX2_hear_120 : decode cX2_hear 120 = .ok (.iconst 1, 1) := by decide +kernel
theorem dX2_hear_121 : decode cX2_hear 121 = .ok (.iadd, 1) := by decide +kernel
theorem dX2_hear_122 : decode cX2_hear 122 = .ok (.invokevirtual 62, 3) := by decide +kernel
theorem dX2_hear_125 : decode cX2_hear 125 = .ok (.aload_n 0, 1) := by decide +kernel
theorem dX2_hear_126 : decode cX2_hear 126 = .ok (.iload_n 2, 1) := by decide +kernel
theorem dX2_hear_127 : decode cX2_hear 127 = .ok (.invokevirtual 62, 3) := by decide +kernel
theorem dX2_hear_130 : decode cX2_hear 130 = .ok (.if_icmp .ne 7, 3) := by decide +kernel
theorem dX2_hear_133 : decode cX2_hear 133 = .ok (.iconst 1, 1) := by decide +kernel
theorem dX2_hear_134 : decode cX2_hear 134 = .ok (.goto 4, 3) := by decide +kernel
theorem dX2_hear_137 : decode cX2_hear 137 = .ok (.iconst 0, 1) := by decide +kernel
theorem dX2_hear_138 : decode cX2_hear 138 = .ok (.istore 4, 2) := by decide +kernel
theorem dX2_hear_140 : decode cX2_hear 140 = .ok (.aload_n 0, 1) := by decide +kernel
theorem dX2_hear_141 : decode cX2_hear 141 = .ok (.getfield 19, 3) := by decide +kernel
theorem dX2_hear_144 : decode cX2_hear 144 = .ok (.aload_n 0, 1) := by decide +kernel
theorem dX2_hear_145 : decode cX2_hear 145 = .ok (.iload_n 2, 1) := by decide +kernel
theorem dX2_hear_146 : decode cX2_hear 146 = .ok (.invokevirtual 66, 3) := by decide +kernel
theorem dX2_hear_149 : decode cX2_hear 149 = .ok (.iload_n 3, 1) := by decide +kernel
theorem dX2_hear_150 : decode cX2_hear 150 = .ok (.ifCond .ne 12, 3) := by decide +kernel
theorem dX2_hear_153 : decode cX2_hear 153 = .ok (.iload 4, 2) := by decide +kernel
theorem dX2_hear_155 : decode cX2_hear 155 = .ok (.ifCond .ne 7, 3) := by decide +kernel
theorem dX2_hear_158 : decode cX2_hear 158 = .ok (.iconst 1, 1) := by decide +kernel
theorem dX2_hear_159 : decode cX2_hear 159 = .ok (.goto 4, 3) := by decide +kernel
theorem dX2_hear_162 : decode cX2_hear 162 = .ok (.iconst 0, 1) := by decide +kernel
theorem dX2_hear_163 : decode cX2_hear 163 = .ok (.bastore, 1) := by decide +kernel
theorem dX2_hear_164 : decode cX2_hear 164 = .ok (.iinc 2 1, 3) := by decide +kernel
theorem dX2_hear_167 : decode cX2_hear 167 = .ok (.goto (-92), 3) := by decide +kernel
theorem dX2_hear_170 : decode cX2_hear 170 = .ok (.return_, 1) := by decide +kernel
theorem dX2_toldAt_0 : decode cX2_toldAt 0 = .ok (.aload_n 0, 1) := by decide +kernel
theorem dX2_toldAt_1 : decode cX2_toldAt 1 = .ok (.getfield 15, 3) := by decide +kernel
theorem dX2_toldAt_4 : decode cX2_toldAt 4 = .ok (.iload_n 1, 1) := by decide +kernel
theorem dX2_toldAt_5 : decode cX2_toldAt 5 = .ok (.laload, 1) := by decide +kernel
theorem dX2_toldAt_6 : decode cX2_toldAt 6 = .ok (.bipush 32, 2) := by decide +kernel
theorem dX2_toldAt_8 : decode cX2_toldAt 8 = .ok (.lshr, 1) := by decide +kernel
theorem dX2_toldAt_9 : decode cX2_toldAt 9 = .ok (.l2i, 1) := by decide +kernel
theorem dX2_toldAt_10 : decode cX2_toldAt 10 = .ok (.ireturn, 1) := by decide +kernel
theorem dX2_rowAt_0 : decode cX2_rowAt 0 = .ok (.aload_n 0, 1) := by decide +kernel
theorem dX2_rowAt_1 : decode cX2_rowAt 1 = .ok (.getfield 15, 3) := by decide +kernel
theorem dX2_rowAt_4 : decode cX2_rowAt 4 = .ok (.iload_n 1, 1) := by decide +kernel
theorem dX2_rowAt_5 : decode cX2_rowAt 5 = .ok (.laload, 1) := by decide +kernel
theorem dX2_rowAt_6 : decode cX2_rowAt 6 = .ok (.ldc2_w 69, 3) := by decide +kernel
theorem dX2_rowAt_9 : decode cX2_rowAt 9 = .ok (.land, 1) := by decide +kernel
theorem dX2_rowAt_10 : decode cX2_rowAt 10 = .ok (.l2i, 1) := by decide +kernel
theorem dX2_rowAt_11 : decode cX2_rowAt 11 = .ok (.sipush 2000, 3) := by decide +kernel
theorem dX2_rowAt_14 : decode cX2_rowAt 14 = .ok (.irem, 1) := by decide +kernel
theorem dX2_rowAt_15 : decode cX2_rowAt 15 = .ok (.ireturn, 1) := by decide +kernel
theorem dX2_sortHeard_0 : decode cX2_sortHeard 0 = .ok (.sipush 1093, 3) := by decide +kernel
theorem dX2_sortHeard_3 : decode cX2_sortHeard 3 = .ok (.istore_n 1, 1) := by decide +kernel
theorem dX2_sortHeard_4 : decode cX2_sortHeard 4 = .ok (.iload_n 1, 1) := by decide +kernel
theorem dX2_sortHeard_5 : decode cX2_sortHeard 5 = .ok (.ifCond .le 89, 3) := by decide +kernel
theorem dX2_sortHeard_8 : decode cX2_sortHeard 8 = .ok (.iload_n 1, 1) := by decide +kernel
theorem dX2_sortHeard_9 : decode cX2_sortHeard 9 = .ok (.istore_n 2, 1) := by decide +kernel
theorem dX2_sortHeard_10 : decode cX2_sortHeard 10 = .ok (.iload_n 2, 1) := by decide +kernel
theorem dX2_sortHeard_11 : decode cX2_sortHeard 11 = .ok (.aload_n 0, 1) := by decide +kernel
theorem dX2_sortHeard_12 : decode cX2_sortHeard 12 = .ok (.getfield 23, 3) := by decide +kernel
theorem dX2_sortHeard_15 : decode cX2_sortHeard 15 = .ok (.if_icmp .ge 72, 3) := by decide +kernel
theorem dX2_sortHeard_18 : decode cX2_sortHeard 18 = .ok (.aload_n 0, 1) := by decide +kernel
theorem dX2_sortHeard_19 : decode cX2_sortHeard 19 = .ok (.getfield 15, 3) := by decide +kernel
theorem dX2_sortHeard_22 : decode cX2_sortHeard 22 = .ok (.iload_n 2, 1) := by decide +kernel
theorem dX2_sortHeard_23 : decode cX2_sortHeard 23 = .ok (.laload, 1) := by decide +kernel
theorem dX2_sortHeard_24 : decode cX2_sortHeard 24 = .ok (.lstore_n 3, 1) := by decide +kernel
theorem dX2_sortHeard_25 : decode cX2_sortHeard 25 = .ok (.iload_n 2, 1) := by decide +kernel
theorem dX2_sortHeard_26 : decode cX2_sortHeard 26 = .ok (.istore 5, 2) := by decide +kernel
theorem dX2_sortHeard_28 : decode cX2_sortHeard 28 = .ok (.iload 5, 2) := by decide +kernel
theorem dX2_sortHeard_30 : decode cX2_sortHeard 30 = .ok (.iload_n 1, 1) := by decide +kernel
theorem dX2_sortHeard_31 : decode cX2_sortHeard 31 = .ok (.if_icmp .lt 42, 3) := by decide +kernel
theorem dX2_sortHeard_34 : decode cX2_sortHeard 34 = .ok (.aload_n 0, 1) := by decide +kernel
theorem dX2_sortHeard_35 : decode cX2_sortHeard 35 = .ok (.getfield 15, 3) := by decide +kernel
theorem dX2_sortHeard_38 : decode cX2_sortHeard 38 = .ok (.iload 5, 2) := by decide +kernel
theorem dX2_sortHeard_40 : decode cX2_sortHeard 40 = .ok (.iload_n 1, 1) := by decide +kernel
theorem dX2_sortHeard_41 : decode cX2_sortHeard 41 = .ok (.isub, 1) := by decide +kernel
theorem dX2_sortHeard_42 : decode cX2_sortHeard 42 = .ok (.laload, 1) := by decide +kernel
theorem dX2_sortHeard_43 : decode cX2_sortHeard 43 = .ok (.lload_n 3, 1) := by decide +kernel
theorem dX2_sortHeard_44 : decode cX2_sortHeard 44 = .ok (.lcmp, 1) := by decide +kernel
theorem dX2_sortHeard_45 : decode cX2_sortHeard 45 = .ok (.ifCond .le 28, 3) := by decide +kernel
theorem dX2_sortHeard_48 : decode cX2_sortHeard 48 = .ok (.aload_n 0, 1) := by decide +kernel
theorem dX2_sortHeard_49 : decode cX2_sortHeard 49 = .ok (.getfield 15, 3) := by decide +kernel
theorem dX2_sortHeard_52 : decode cX2_sortHeard 52 = .ok (.iload 5, 2) := by decide +kernel
theorem dX2_sortHeard_54 : decode cX2_sortHeard 54 = .ok (.aload_n 0, 1) := by decide +kernel
theorem dX2_sortHeard_55 : decode cX2_sortHeard 55 = .ok (.getfield 15, 3) := by decide +kernel
theorem dX2_sortHeard_58 : decode cX2_sortHeard 58 = .ok (.iload 5, 2) := by decide +kernel
theorem dX2_sortHeard_60 : decode cX2_sortHeard 60 = .ok (.iload_n 1, 1) := by decide +kernel
theorem dX2_sortHeard_61 : decode cX2_sortHeard 61 = .ok (.isub, 1) := by decide +kernel
theorem dX2_sortHeard_62 : decode cX2_sortHeard 62 = .ok (.laload, 1) := by decide +kernel
theorem dX2_sortHeard_63 : decode cX2_sortHeard 63 = .ok (.lastore, 1) := by decide +kernel
theorem dX2_sortHeard_64 : decode cX2_sortHeard 64 = .ok (.iload 5, 2) := by decide +kernel
theorem dX2_sortHeard_66 : decode cX2_sortHeard 66 = .ok (.iload_n 1, 1) := by decide +kernel
theorem dX2_sortHeard_67 : decode cX2_sortHeard 67 = .ok (.isub, 1) := by decide +kernel
theorem dX2_sortHeard_68 : decode cX2_sortHeard 68 = .ok (.istore 5, 2) := by decide +kernel
theorem dX2_sortHeard_70 : decode cX2_sortHeard 70 = .ok (.goto (-42), 3) := by decide +kernel
theorem dX2_sortHeard_73 : decode cX2_sortHeard 73 = .ok (.aload_n 0, 1) := by decide +kernel
theorem dX2_sortHeard_74 : decode cX2_sortHeard 74 = .ok (.getfield 15, 3) := by decide +kernel
theorem dX2_sortHeard_77 : decode cX2_sortHeard 77 = .ok (.iload 5, 2) := by decide +kernel
theorem dX2_sortHeard_79 : decode cX2_sortHeard 79 = .ok (.lload_n 3, 1) := by decide +kernel
theorem dX2_sortHeard_80 : decode cX2_sortHeard 80 = .ok (.lastore, 1) := by decide +kernel
theorem dX2_sortHeard_81 : decode cX2_sortHeard 81 = .ok (.iinc 2 1, 3) := by decide +kernel
theorem dX2_sortHeard_84 : decode cX2_sortHeard 84 = .ok (.goto (-74), 3) := by decide +kernel
theorem dX2_sortHeard_87 : decode cX2_sortHeard 87 = .ok (.iload_n 1, 1) := by decide +kernel
theorem dX2_sortHeard_88 : decode cX2_sortHeard 88 = .ok (.iconst 3, 1) := by decide +kernel
theorem dX2_sortHeard_89 : decode cX2_sortHeard 89 = .ok (.idiv, 1) := by decide +kernel
theorem dX2_sortHeard_90 : decode cX2_sortHeard 90 = .ok (.istore_n 1, 1) := by decide +kernel
theorem dX2_sortHeard_91 : decode cX2_sortHeard 91 = .ok (.goto (-87), 3) := by decide +kernel
theorem dX2_sortHeard_94 : decode cX2_sortHeard 94 = .ok (.return_, 1) := by decide +kernel
theorem dX2_alone_0 : decode cX2_alone 0 = .ok (.iconst 0, 1) := by decide +kernel
theorem dX2_alone_1 : decode cX2_alone 1 = .ok (.istore_n 1, 1) := by decide +kernel
theorem dX2_alone_2 : decode cX2_alone 2 = .ok (.iconst 0, 1) := by decide +kernel
theorem dX2_alone_3 : decode cX2_alone 3 = .ok (.istore_n 2, 1) := by decide +kernel
theorem dX2_alone_4 : decode cX2_alone 4 = .ok (.iload_n 2, 1) := by decide +kernel
theorem dX2_alone_5 : decode cX2_alone 5 = .ok (.aload_n 0, 1) := by decide +kernel
theorem dX2_alone_6 : decode cX2_alone 6 = .ok (.getfield 23, 3) := by decide +kernel
theorem dX2_alone_9 : decode cX2_alone 9 = .ok (.if_icmp .ge 26, 3) := by decide +kernel
theorem dX2_alone_12 : decode cX2_alone 12 = .ok (.iload_n 1, 1) := by decide +kernel
theorem dX2_alone_13 : decode cX2_alone 13 = .ok (.aload_n 0, 1) := by decide +kernel
theorem dX2_alone_14 : decode cX2_alone 14 = .ok (.getfield 19, 3) := by decide +kernel
theorem dX2_alone_17 : decode cX2_alone 17 = .ok (.iload_n 2, 1) := by decide +kernel
theorem dX2_alone_18 : decode cX2_alone 18 = .ok (.baload, 1) := by decide +kernel
theorem dX2_alone_19 : decode cX2_alone 19 = .ok (.ifCond .eq 7, 3) := by decide +kernel
theorem dX2_alone_22 : decode cX2_alone 22 = .ok (.iconst 1, 1) := by decide +kernel
theorem dX2_alone_23 : decode cX2_alone 23 = .ok (.goto 4, 3) := by decide +kernel
theorem dX2_alone_26 : decode cX2_alone 26 = .ok (.iconst 0, 1) := by decide +kernel
theorem dX2_alone_27 : decode cX2_alone 27 = .ok (.iadd, 1) := by decide +kernel
theorem dX2_alone_28 : decode cX2_alone 28 = .ok (.istore_n 1, 1) := by decide +kernel
theorem dX2_alone_29 : decode cX2_alone 29 = .ok (.iinc 2 1, 3) := by decide +kernel
theorem dX2_alone_32 : decode cX2_alone 32 = .ok (.goto (-28), 3) := by decide +kernel
theorem dX2_alone_35 : decode cX2_alone 35 = .ok (.iload_n 1, 1) := by decide +kernel
theorem dX2_alone_36 : decode cX2_alone 36 = .ok (.ireturn, 1) := by decide +kernel
theorem dX2_leave_0 : decode cX2_leave 0 = .ok (.iconst 0, 1) := by decide +kernel
theorem dX2_leave_1 : decode cX2_leave 1 = .ok (.istore_n 2, 1) := by decide +kernel
theorem dX2_leave_2 : decode cX2_leave 2 = .ok (.iconst 0, 1) := by decide +kernel
theorem dX2_leave_3 : decode cX2_leave 3 = .ok (.istore_n 3, 1) := by decide +kernel
theorem dX2_leave_4 : decode cX2_leave 4 = .ok (.iload_n 3, 1) := by decide +kernel
theorem dX2_leave_5 : decode cX2_leave 5 = .ok (.aload_n 0, 1) := by decide +kernel
theorem dX2_leave_6 : decode cX2_leave 6 = .ok (.getfield 23, 3) := by decide +kernel
theorem dX2_leave_9 : decode cX2_leave 9 = .ok (.if_icmp .ge 43, 3) := by decide +kernel
theorem dX2_leave_12 : decode cX2_leave 12 = .ok (.aload_n 0, 1) := by decide +kernel
theorem dX2_leave_13 : decode cX2_leave 13 = .ok (.getfield 19, 3) := by decide +kernel
theorem dX2_leave_16 : decode cX2_leave 16 = .ok (.iload_n 3, 1) := by decide +kernel
theorem dX2_leave_17 : decode cX2_leave 17 = .ok (.baload, 1) := by decide +kernel
theorem dX2_leave_18 : decode cX2_leave 18 = .ok (.iload_n 1, 1) := by decide +kernel
theorem dX2_leave_19 : decode cX2_leave 19 = .ok (.if_icmp .ne 27, 3) := by decide +kernel
theorem dX2_leave_22 : decode cX2_leave 22 = .ok (.aload_n 0, 1) := by decide +kernel
theorem dX2_leave_23 : decode cX2_leave 23 = .ok (.getfield 9, 3) := by decide +kernel
theorem dX2_leave_26 : decode cX2_leave 26 = .ok (.iload_n 3, 1) := by decide +kernel
theorem dX2_leave_27 : decode cX2_leave 27 = .ok (.bipush 6, 2) := by decide +kernel
theorem dX2_leave_29 : decode cX2_leave 29 = .ok (.imul, 1) := by decide +kernel
theorem dX2_leave_30 : decode cX2_leave 30 = .ok (.aload_n 0, 1) := by decide +kernel
theorem dX2_leave_31 : decode cX2_leave 31 = .ok (.getfield 9, 3) := by decide +kernel
theorem dX2_leave_34 : decode cX2_leave 34 = .ok (.iload_n 2, 1) := by decide +kernel
theorem dX2_leave_35 : decode cX2_leave 35 = .ok (.bipush 6, 2) := by decide +kernel
theorem dX2_leave_37 : decode cX2_leave 37 = .ok (.imul, 1) := by decide +kernel
theorem dX2_leave_38 : decode cX2_leave 38 = .ok (.bipush 6, 2) := by decide +kernel
theorem dX2_leave_40 : decode cX2_leave 40 = .ok (.invokestatic 41, 3) := by decide +kernel
theorem dX2_leave_43 : decode cX2_leave 43 = .ok (.iinc 2 1, 3) := by decide +kernel
theorem dX2_leave_46 : decode cX2_leave 46 = .ok (.iinc 3 1, 3) := by decide +kernel
theorem dX2_leave_49 : decode cX2_leave 49 = .ok (.goto (-45), 3) := by decide +kernel
theorem dX2_leave_52 : decode cX2_leave 52 = .ok (.aload_n 0, 1) := by decide +kernel
theorem dX2_leave_53 : decode cX2_leave 53 = .ok (.iload_n 2, 1) := by decide +kernel
theorem dX2_leave_54 : decode cX2_leave 54 = .ok (.putfield 23, 3) := by decide +kernel
theorem dX2_leave_57 : decode cX2_leave 57 = .ok (.return_, 1) := by decide +kernel
theorem dX2_countNumbers_0 : decode cX2_countNumbers 0 = .ok (.aload_n 0, 1) := by decide +kernel
theorem dX2_countNumbers_1 : decode cX2_countNumbers 1 = .ok (.iconst 0, 1) := by decide +kernel
theorem dX2_countNumbers_2 : decode cX2_countNumbers 2 = .ok (.putfield 71, 3) := by decide +kernel
theorem dX2_countNumbers_5 : decode cX2_countNumbers 5 = .ok (.aload_n 0, 1) := by decide +kernel
theorem dX2_countNumbers_6 : decode cX2_countNumbers 6 = .ok (.iconst 0, 1) := by decide +kernel
theorem dX2_countNumbers_7 : decode cX2_countNumbers 7 = .ok (.putfield 74, 3) := by decide +kernel
theorem dX2_countNumbers_10 : decode cX2_countNumbers 10 = .ok (.aload_n 0, 1) := by decide +kernel
theorem dX2_countNumbers_11 : decode cX2_countNumbers 11 = .ok (.iconst 0, 1) := by decide +kernel
theorem dX2_countNumbers_12 : decode cX2_countNumbers 12 = .ok (.putfield 76, 3) := by decide +kernel
theorem dX2_countNumbers_15 : decode cX2_countNumbers 15 = .ok (.iconst 0, 1) := by decide +kernel
theorem dX2_countNumbers_16 : decode cX2_countNumbers 16 = .ok (.istore_n 1, 1) := by decide +kernel
theorem dX2_countNumbers_17 : decode cX2_countNumbers 17 = .ok (.iconst 0, 1) := by decide +kernel
theorem dX2_countNumbers_18 : decode cX2_countNumbers 18 = .ok (.istore_n 2, 1) := by decide +kernel
theorem dX2_countNumbers_19 : decode cX2_countNumbers 19 = .ok (.iload_n 2, 1) := by decide +kernel
theorem dX2_countNumbers_20 : decode cX2_countNumbers 20 = .ok (.aload_n 0, 1) := by decide +kernel
theorem dX2_countNumbers_21 : decode cX2_countNumbers 21 = .ok (.getfield 23, 3) := by decide +kernel
theorem dX2_countNumbers_24 : decode cX2_countNumbers 24 = .ok (.if_icmp .ge 86, 3) := by decide +kernel
theorem dX2_countNumbers_27 : decode cX2_countNumbers 27 = .ok (.iload_n 2, 1) := by decide +kernel
theorem dX2_countNumbers_28 : decode cX2_countNumbers 28 = .ok (.ifCond .eq 18, 3) := by decide +kernel
theorem dX2_countNumbers_31 : decode cX2_countNumbers 31 = .ok (.aload_n 0, 1) := by decide +kernel
theorem dX2_countNumbers_32 : decode cX2_countNumbers 32 = .ok (.iload_n 2, 1) := by decide +kernel
theorem dX2_countNumbers_33 : decode cX2_countNumbers 33 = .ok (.iconst 1, 1) := by decide +kernel
theorem dX2_countNumbers_34 : decode cX2_countNumbers 34 = .ok (.isub, 1) := by decide +kernel
theorem dX2_countNumbers_35 : decode cX2_countNumbers 35 = .ok (.invokevirtual 62, 3) := by decide +kernel
theorem dX2_countNumbers_38 : decode cX2_countNumbers 38 = .ok (.aload_n 0, 1) := by decide +kernel
theorem dX2_countNumbers_39 : decode cX2_countNumbers 39 = .ok (.iload_n 2, 1) := by decide +kernel
theorem dX2_countNumbers_40 : decode cX2_countNumbers 40 = .ok (.invokevirtual 62, 3) := by decide +kernel
theorem dX2_countNumbers_43 : decode cX2_countNumbers 43 = .ok (.if_icmp .eq 7, 3) := by decide +kernel
theorem dX2_countNumbers_46 : decode cX2_countNumbers 46 = .ok (.iconst 1, 1) := by decide +kernel
theorem dX2_countNumbers_47 : decode cX2_countNumbers 47 = .ok (.goto 4, 3) := by decide +kernel
theorem dX2_countNumbers_50 : decode cX2_countNumbers 50 = .ok (.iconst 0, 1) := by decide +kernel
theorem dX2_countNumbers_51 : decode cX2_countNumbers 51 = .ok (.istore_n 3, 1) := by decide +kernel
theorem dX2_countNumbers_52 : decode cX2_countNumbers 52 = .ok (.aload_n 0, 1) := by decide +kernel
theorem dX2_countNumbers_53 : decode cX2_countNumbers 53 = .ok (.dup, 1) := by decide +kernel
theorem dX2_countNumbers_54 : decode cX2_countNumbers 54 = .ok (.getfield 71, 3) := by decide +kernel
theorem dX2_countNumbers_57 : decode cX2_countNumbers 57 = .ok (.iload_n 3, 1) := by decide +kernel
theorem dX2_countNumbers_58 : decode cX2_countNumbers 58 = .ok (.ifCond .eq 7, 3) := by decide +kernel
theorem dX2_countNumbers_61 : decode cX2_countNumbers 61 = .ok (.iconst 1, 1) := by decide +kernel
theorem dX2_countNumbers_62 : decode cX2_countNumbers 62 = .ok (.goto 4, 3) := by decide +kernel
theorem dX2_countNumbers_65 : decode cX2_countNumbers 65 = .ok (.iconst 0, 1) := by decide +kernel
theorem dX2_countNumbers_66 : decode cX2_countNumbers 66 = .ok (.iadd, 1) := by decide +kernel
theorem dX2_countNumbers_67 : decode cX2_countNumbers 67 = .ok (.putfield 71, 3) := by decide +kernel
theorem dX2_countNumbers_70 : decode cX2_countNumbers 70 = .ok (.iload_n 3, 1) := by decide +kernel
theorem dX2_countNumbers_71 : decode cX2_countNumbers 71 = .ok (.ifCond .eq 7, 3) := by decide +kernel
theorem dX2_countNumbers_74 : decode cX2_countNumbers 74 = .ok (.iconst 1, 1) := by decide +kernel
theorem dX2_countNumbers_75 : decode cX2_countNumbers 75 = .ok (.goto 6, 3) := by decide +kernel
theorem dX2_countNumbers_78 : decode cX2_countNumbers 78 = .ok (.iload_n 1, 1) := by decide +kernel
theorem dX2_countNumbers_79 : decode cX2_countNumbers 79 = .ok (.iconst 1, 1) := by decide +kernel
theorem dX2_countNumbers_80 : decode cX2_countNumbers 80 = .ok (.iadd, 1) := by decide +kernel
theorem dX2_countNumbers_81 : decode cX2_countNumbers 81 = .ok (.istore_n 1, 1) := by decide +kernel
theorem dX2_countNumbers_82 : decode cX2_countNumbers 82 = .ok (.iload_n 1, 1) := by decide +kernel
theorem dX2_countNumbers_83 : decode cX2_countNumbers 83 = .ok (.aload_n 0, 1) := by decide +kernel
theorem dX2_countNumbers_84 : decode cX2_countNumbers 84 = .ok (.getfield 74, 3) := by decide +kernel
theorem dX2_countNumbers_87 : decode cX2_countNumbers 87 = .ok (.if_icmp .le 17, 3) := by decide +kernel
theorem dX2_countNumbers_90 : decode cX2_countNumbers 90 = .ok (.aload_n 0, 1) := by decide +kernel
theorem dX2_countNumbers_91 : decode cX2_countNumbers 91 = .ok (.iload_n 1, 1) := by decide +kernel
theorem dX2_countNumbers_92 : decode cX2_countNumbers 92 = .ok (.putfield 74, 3) := by decide +kernel
theorem dX2_countNumbers_95 : decode cX2_countNumbers 95 = .ok (.aload_n 0, 1) := by decide +kernel
theorem dX2_countNumbers_96 : decode cX2_countNumbers 96 = .ok (.aload_n 0, 1) := by decide +kernel
theorem dX2_countNumbers_97 : decode cX2_countNumbers 97 = .ok (.iload_n 2, 1) := by decide +kernel
theorem dX2_countNumbers_98 : decode cX2_countNumbers 98 = .ok (.invokevirtual 62, 3) := by decide +kernel
theorem dX2_countNumbers_101 : decode cX2_countNumbers 101 = .ok (.putfield 76, 3) := by decide +kernel
theorem dX2_countNumbers_104 : decode cX2_countNumbers 104 = .ok (.iinc 2 1, 3) := by decide +kernel
theorem dX2_countNumbers_107 : decode cX2_countNumbers 107 = .ok (.goto (-88), 3) := by decide +kernel
theorem dX2_countNumbers_110 : decode cX2_countNumbers 110 = .ok (.return_, 1) := by decide +kernel
theorem dX3_init_0 : decode cX3_init 0 = .ok (.aload_n 0, 1) := by decide +kernel
theorem dX3_init_1 : decode cX3_init 1 = .ok (.invokespecial 3, 3) := by decide +kernel
theorem dX3_init_4 : decode cX3_init 4 = .ok (.aload_n 0, 1) := by decide +kernel
theorem dX3_init_5 : decode cX3_init 5 = .ok (.sipush 1024, 3) := by decide +kernel
theorem dX3_init_8 : decode cX3_init 8 = .ok (.newarray .int, 2) := by decide +kernel
theorem dX3_init_10 : decode cX3_init 10 = .ok (.putfield 9, 3) := by decide +kernel
theorem dX3_init_13 : decode cX3_init 13 = .ok (.return_, 1) := by decide +kernel
theorem dX3_forget_0 : decode cX3_forget 0 = .ok (.aload_n 0, 1) := by decide +kernel
theorem dX3_forget_1 : decode cX3_forget 1 = .ok (.iconst 0, 1) := by decide +kernel
theorem dX3_forget_2 : decode cX3_forget 2 = .ok (.putfield 15, 3) := by decide +kernel
theorem dX3_forget_5 : decode cX3_forget 5 = .ok (.return_, 1) := by decide +kernel
theorem dX3_isCounted_0 : decode cX3_isCounted 0 = .ok (.aload_n 0, 1) := by decide +kernel
theorem dX3_isCounted_1 : decode cX3_isCounted 1 = .ok (.getfield 15, 3) := by decide +kernel
theorem dX3_isCounted_4 : decode cX3_isCounted 4 = .ok (.ifCond .ne 27, 3) := by decide +kernel
theorem dX3_isCounted_7 : decode cX3_isCounted 7 = .ok (.aload_n 1, 1) := by decide +kernel
theorem dX3_isCounted_8 : decode cX3_isCounted 8 = .ok (.aload_n 1, 1) := by decide +kernel
theorem dX3_isCounted_9 : decode cX3_isCounted 9 = .ok (.getfield 19, 3) := by decide +kernel
theorem dX3_isCounted_12 : decode cX3_isCounted 12 = .ok (.invokevirtual 25, 3) := by decide +kernel
theorem dX3_isCounted_15 : decode cX3_isCounted 15 = .ok (.invokevirtual 31, 3) := by decide +kernel
theorem dX3_isCounted_18 : decode cX3_isCounted 18 = .ok (.ifCond .eq 13, 3) := by decide +kernel
theorem dX3_isCounted_21 : decode cX3_isCounted 21 = .ok (.aload_n 0, 1) := by decide +kernel
theorem dX3_isCounted_22 : decode cX3_isCounted 22 = .ok (.aload_n 1, 1) := by decide +kernel
theorem dX3_isCounted_23 : decode cX3_isCounted 23 = .ok (.invokevirtual 35, 3) := by decide +kernel
theorem dX3_isCounted_26 : decode cX3_isCounted 26 = .ok (.aload_n 0, 1) := by decide +kernel
theorem dX3_isCounted_27 : decode cX3_isCounted 27 = .ok (.iconst 1, 1) := by decide +kernel
theorem dX3_isCounted_28 : decode cX3_isCounted 28 = .ok (.putfield 15, 3) := by decide +kernel
theorem dX3_isCounted_31 : decode cX3_isCounted 31 = .ok (.aload_n 0, 1) := by decide +kernel
theorem dX3_isCounted_32 : decode cX3_isCounted 32 = .ok (.getfield 15, 3) := by decide +kernel
theorem dX3_isCounted_35 : decode cX3_isCounted 35 = .ok (.ireturn, 1) := by decide +kernel
theorem dX3_countAll_0 : decode cX3_countAll 0 = .ok (.aload_n 0, 1) := by decide +kernel
theorem dX3_countAll_1 : decode cX3_countAll 1 = .ok (.getfield 9, 3) := by decide +kernel
theorem dX3_countAll_4 : decode cX3_countAll 4 = .ok (.iconst 0, 1) := by decide +kernel
theorem dX3_countAll_5 : decode cX3_countAll 5 = .ok (.invokestatic 39, 3) := by decide +kernel
theorem dX3_countAll_8 : decode cX3_countAll 8 = .ok (.iconst 0, 1) := by decide +kernel
theorem dX3_countAll_9 : decode cX3_countAll 9 = .ok (.istore_n 2, 1) := by decide +kernel
theorem dX3_countAll_10 : decode cX3_countAll 10 = .ok (.iload_n 2, 1) := by decide +kernel
theorem dX3_countAll_11 : decode cX3_countAll 11 = .ok (.ldc 45, 2) := by decide +kernel
theorem dX3_countAll_13 : decode cX3_countAll 13 = .ok (.if_icmp .ge 29, 3) := by decide +kernel
theorem dX3_countAll_16 : decode cX3_countAll 16 = .ok (.aload_n 1, 1) := by decide +kernel
theorem dX3_countAll_17 : decode cX3_countAll 17 = .ok (.invokevirtual 46, 3) := by decide +kernel
theorem dX3_countAll_20 : decode cX3_countAll 20 = .ok (.ifCond .eq 22, 3) := by decide +kernel
theorem dX3_countAll_23 : decode cX3_countAll 23 = .ok (.aload_n 0, 1) := by decide +kernel
theorem dX3_countAll_24 : decode cX3_countAll 24 = .ok (.getfield 9, 3) := by decide +kernel
theorem dX3_countAll_27 : decode cX3_countAll 27 = .ok (.aload_n 1, 1) := by decide +kernel
theorem dX3_countAll_28 : decode cX3_countAll 28 = .ok (.invokevirtual 50, 3) := by decide +kernel
theorem dX3_countAll_31 : decode cX3_countAll 31 = .ok (.dup2, 1) := by decide +kernel
theorem dX3_countAll_32 : decode cX3_countAll 32 = .ok (.iaload, 1) := by decide +kernel
theorem dX3_countAll_33 : decode cX3_countAll 33 = .ok (.iconst 1, 1) := by decide +kernel
theorem dX3_countAll_34 : decode cX3_countAll 34 = .ok (.iadd, 1) := by decide +kernel
theorem dX3_countAll_35 : decode cX3_countAll 35 = .ok (.iastore, 1) := by decide +kernel
theorem dX3_countAll_36 : decode cX3_countAll 36 = .ok (.iinc 2 1, 3) := by decide +kernel
theorem dX3_countAll_39 : decode cX3_countAll 39 = .ok (.goto (-29), 3) := by decide +kernel
theorem dX3_countAll_42 : decode cX3_countAll 42 = .ok (.iconst 0, 1) := by decide +kernel
theorem dX3_countAll_43 : decode cX3_countAll 43 = .ok (.istore_n 2, 1) := by decide +kernel
theorem dX3_countAll_44 : decode cX3_countAll 44 = .ok (.iload_n 2, 1) := by decide +kernel
theorem dX3_countAll_45 : decode cX3_countAll 45 = .ok (.bipush 10, 2) := by decide +kernel
theorem dX3_countAll_47 : decode cX3_countAll 47 = .ok (.if_icmp .ge 56, 3) := by decide +kernel
theorem dX3_countAll_50 : decode cX3_countAll 50 = .ok (.iconst 1, 1) := by decide +kernel
theorem dX3_countAll_51 : decode cX3_countAll 51 = .ok (.iload_n 2, 1) := by decide +kernel
theorem dX3_countAll_52 : decode cX3_countAll 52 = .ok (.ishl, 1) := by decide +kernel
theorem dX3_countAll_53 : decode cX3_countAll 53 = .ok (.istore_n 3, 1) := by decide +kernel
theorem dX3_countAll_54 : decode cX3_countAll 54 = .ok (.iconst 0, 1) := by decide +kernel
theorem dX3_countAll_55 : decode cX3_countAll 55 = .ok (.istore 4, 2) := by decide +kernel
theorem dX3_countAll_57 : decode cX3_countAll 57 = .ok (.iload 4, 2) := by decide +kernel
theorem dX3_countAll_59 : decode cX3_countAll 59 = .ok (.sipush 1024, 3) := by decide +kernel
theorem dX3_countAll_62 : decode cX3_countAll 62 = .ok (.if_icmp .ge 35, 3) := by decide +kernel
theorem dX3_countAll_65 : decode cX3_countAll 65 = .ok (.iload 4, 2) := by decide +kernel
theorem dX3_countAll_67 : decode cX3_countAll 67 = .ok (.iload_n 3, 1) := by decide +kernel
theorem dX3_countAll_68 : decode cX3_countAll 68 = .ok (.iand, 1) := by decide +kernel
theorem dX3_countAll_69 : decode cX3_countAll 69 = .ok (.ifCond .ne 22, 3) := by decide +kernel
theorem dX3_countAll_72 : decode cX3_countAll 72 = .ok (.aload_n 0, 1) := by decide +kernel
theorem dX3_countAll_73 : decode cX3_countAll 73 = .ok (.getfield 9, 3) := by decide +kernel
theorem dX3_countAll_76 : decode cX3_countAll 76 = .ok (.iload 4, 2) := by decide +kernel
theorem dX3_countAll_78 : decode cX3_countAll 78 = .ok (.dup2, 1) := by decide +kernel
theorem dX3_countAll_79 : decode cX3_countAll 79 = .ok (.iaload, 1) := by decide +kernel
theorem dX3_countAll_80 : decode cX3_countAll 80 = .ok (.aload_n 0, 1) := by decide +kernel
theorem dX3_countAll_81 : decode cX3_countAll 81 = .ok (.getfield 9, 3) := by decide +kernel
theorem dX3_countAll_84 : decode cX3_countAll 84 = .ok (.iload 4, 2) := by decide +kernel
theorem dX3_countAll_86 : decode cX3_countAll 86 = .ok (.iload_n 3, 1) := by decide +kernel
theorem dX3_countAll_87 : decode cX3_countAll 87 = .ok (.ior, 1) := by decide +kernel
theorem dX3_countAll_88 : decode cX3_countAll 88 = .ok (.iaload, 1) := by decide +kernel
theorem dX3_countAll_89 : decode cX3_countAll 89 = .ok (.iadd, 1) := by decide +kernel
theorem dX3_countAll_90 : decode cX3_countAll 90 = .ok (.iastore, 1) := by decide +kernel
theorem dX3_countAll_91 : decode cX3_countAll 91 = .ok (.iinc 4 1, 3) := by decide +kernel
theorem dX3_countAll_94 : decode cX3_countAll 94 = .ok (.goto (-37), 3) := by decide +kernel
theorem dX3_countAll_97 : decode cX3_countAll 97 = .ok (.iinc 2 1, 3) := by decide +kernel
theorem dX3_countAll_100 : decode cX3_countAll 100 = .ok (.goto (-56), 3) := by decide +kernel
theorem dX3_countAll_103 : decode cX3_countAll 103 = .ok (.return_, 1) := by decide +kernel
theorem dX3_of_0 : decode cX3_of 0 = .ok (.iload_n 1, 1) := by decide +kernel
theorem dX3_of_1 : decode cX3_of 1 = .ok (.ifCond .lt 19, 3) := by decide +kernel
theorem dX3_of_4 : decode cX3_of 4 = .ok (.iload_n 1, 1) := by decide +kernel
theorem dX3_of_5 : decode cX3_of 5 = .ok (.sipush 1024, 3) := by decide +kernel
theorem dX3_of_8 : decode cX3_of 8 = .ok (.if_icmp .ge 12, 3) := by decide +kernel
theorem dX3_of_11 : decode cX3_of 11 = .ok (.aload_n 0, 1) := by decide +kernel
theorem dX3_of_12 : decode cX3_of 12 = .ok (.getfield 9, 3) := by decide +kernel
theorem dX3_of_15 : decode cX3_of 15 = .ok (.iload_n 1, 1) := by decide +kernel
theorem dX3_of_16 : decode cX3_of 16 = .ok (.iaload, 1) := by decide +kernel
theorem dX3_of_17 : decode cX3_of 17 = .ok (.goto 4, 3) := by decide +kernel
theorem dX3_of_20 : decode cX3_of 20 = .ok (.iconst 0, 1) := by decide +kernel
theorem dX3_of_21 : decode cX3_of 21 = .ok (.ireturn, 1) := by decide +kernel
theorem dX3_allButOne_0 : decode cX3_allButOne 0 = .ok (.aload_n 0, 1) := by decide +kernel
theorem dX3_allButOne_1 : decode cX3_allButOne 1 = .ok (.iload_n 1, 1) := by decide +kernel
theorem dX3_allButOne_2 : decode cX3_allButOne 2 = .ok (.invokevirtual 53, 3) := by decide +kernel
theorem dX3_allButOne_5 : decode cX3_allButOne 5 = .ok (.istore_n 2, 1) := by decide +kernel
theorem dX3_allButOne_6 : decode cX3_allButOne 6 = .ok (.iload_n 2, 1) := by decide +kernel
theorem dX3_allButOne_7 : decode cX3_allButOne 7 = .ok (.istore_n 3, 1) := by decide +kernel
theorem dX3_allButOne_8 : decode cX3_allButOne 8 = .ok (.iconst 0, 1) := by decide +kernel
theorem dX3_allButOne_9 : decode cX3_allButOne 9 = .ok (.istore 4, 2) := by decide +kernel
theorem dX3_allButOne_11 : decode cX3_allButOne 11 = .ok (.iload 4, 2) := by decide +kernel
theorem dX3_allButOne_13 : decode cX3_allButOne 13 = .ok (.bipush 10, 2) := by decide +kernel
theorem dX3_allButOne_15 : decode cX3_allButOne 15 = .ok (.if_icmp .ge 35, 3) := by decide +kernel
theorem dX3_allButOne_18 : decode cX3_allButOne 18 = .ok (.iload_n 1, 1) := by decide +kernel
theorem dX3_allButOne_19 : decode cX3_allButOne 19 = .ok (.iload 4, 2) := by decide +kernel
theorem dX3_allButOne_21 : decode cX3_allButOne 21 = .ok (.ishr, 1) := by decide +kernel
theorem dX3_allButOne_22 : decode cX3_allButOne 22 = .ok (.iconst 1, 1) := by decide +kernel
theorem dX3_allButOne_23 : decode cX3_allButOne 23 = .ok (.iand, 1) := by decide +kernel
theorem dX3_allButOne_24 : decode cX3_allButOne 24 = .ok (.ifCond .eq 20, 3) := by decide +kernel
theorem dX3_allButOne_27 : decode cX3_allButOne 27 = .ok (.iload_n 3, 1) := by decide +kernel
theorem dX3_allButOne_28 : decode cX3_allButOne 28 = .ok (.aload_n 0, 1) := by decide +kernel
theorem dX3_allButOne_29 : decode cX3_allButOne 29 = .ok (.iload_n 1, 1) := by decide +kernel
theorem dX3_allButOne_30 : decode cX3_allButOne 30 = .ok (.iconst 1, 1) := by decide +kernel
theorem dX3_allButOne_31 : decode cX3_allButOne 31 = .ok (.iload 4, 2) := by decide +kernel
theorem dX3_allButOne_33 : decode cX3_allButOne 33 = .ok (.ishl, 1) := by decide +kernel
theorem dX3_allButOne_34 : decode cX3_allButOne 34 = .ok (.iconst (-1), 1) := by decide +kernel
theorem dX3_allButOne_35 : decode cX3_allButOne 35 = .ok (.ixor, 1) := by decide +kernel
theorem dX3_allButOne_36 : decode cX3_allButOne 36 = .ok (.iand, 1) := by decide +kernel
theorem dX3_allButOne_37 : decode cX3_allButOne 37 = .ok (.invokevirtual 53, 3) := by decide +kernel
theorem dX3_allButOne_40 : decode cX3_allButOne 40 = .ok (.iload_n 2, 1) := by decide +kernel
theorem dX3_allButOne_41 : decode cX3_allButOne 41 = .ok (.isub, 1) := by decide +kernel
theorem dX3_allButOne_42 : decode cX3_allButOne 42 = .ok (.iadd, 1) := by decide +kernel
theorem dX3_allButOne_43 : decode cX3_allButOne 43 = .ok (.istore_n 3, 1) := by decide +kernel
theorem dX3_allButOne_44 : decode cX3_allButOne 44 = .ok (.iinc 4 1, 3) := by decide +kernel
theorem dX3_allButOne_47 : decode cX3_allButOne 47 = .ok (.goto (-36), 3) := by decide +kernel
theorem dX3_allButOne_50 : decode cX3_allButOne 50 = .ok (.iload_n 3, 1) := by decide +kernel
theorem dX3_allButOne_51 : decode cX3_allButOne 51 = .ok (.ireturn, 1) := by decide +kernel
theorem dX4_init_0 : decode cX4_init 0 = .ok (.aload_n 0, 1) := by decide +kernel
theorem dX4_init_1 : decode cX4_init 1 = .ok (.invokespecial 3, 3) := by decide +kernel
theorem dX4_init_4 : decode cX4_init 4 = .ok (.aload_n 0, 1) := by decide +kernel
theorem dX4_init_5 : decode cX4_init 5 = .ok (.bipush 6, 2) := by decide +kernel
theorem dX4_init_7 : decode cX4_init 7 = .ok (.newarray .int, 2) := by decide +kernel
theorem dX4_init_9 : decode cX4_init 9 = .ok (.putfield 9, 3) := by decide +kernel
theorem dX4_init_12 : decode cX4_init 12 = .ok (.aload_n 0, 1) := by decide +kernel
theorem dX4_init_13 : decode cX4_init 13 = .ok (.bipush 6, 2) := by decide +kernel
theorem dX4_init_15 : decode cX4_init 15 = .ok (.newarray .int, 2) := by decide +kernel
theorem dX4_init_17 : decode cX4_init 17 = .ok (.putfield 15, 3) := by decide +kernel
theorem dX4_init_20 : decode cX4_init 20 = .ok (.aload_n 0, 1) := by decide +kernel
theorem dX4_init_21 : decode cX4_init 21 = .ok (.bipush 6, 2) := by decide +kernel
theorem dX4_init_23 : decode cX4_init 23 = .ok (.newarray .int, 2) := by decide +kernel
theorem dX4_init_25 : decode cX4_init 25 = .ok (.putfield 18, 3) := by decide +kernel
theorem dX4_init_28 : decode cX4_init 28 = .ok (.return_, 1) := by decide +kernel
theorem dX4_giveAll_0 : decode cX4_giveAll 0 = .ok (.iload_n 3, 1) := by decide +kernel
theorem dX4_giveAll_1 : decode cX4_giveAll 1 = .ok (.invokestatic 21, 3) := by decide +kernel
theorem dX4_giveAll_4 : decode cX4_giveAll 4 = .ok (.bipush 6, 2) := by decide +kernel
theorem dX4_giveAll_6 : decode cX4_giveAll 6 = .ok (.invokestatic 27, 3) := by decide +kernel
theorem dX4_giveAll_9 : decode cX4_giveAll 9 = .ok (.istore 5, 2) := by decide +kernel
theorem dX4_giveAll_11 : decode cX4_giveAll 11 = .ok (.aload_n 0, 1) := by decide +kernel
theorem dX4_giveAll_12 : decode cX4_giveAll 12 = .ok (.iconst 0, 1) := by decide +kernel
theorem dX4_giveAll_13 : decode cX4_giveAll 13 = .ok (.putfield 33, 3) := by decide +kernel
theorem dX4_giveAll_16 : decode cX4_giveAll 16 = .ok (.iconst 0, 1) := by decide +kernel
theorem dX4_giveAll_17 : decode cX4_giveAll 17 = .ok (.istore 6, 2) := by decide +kernel
theorem dX4_giveAll_19 : decode cX4_giveAll 19 = .ok (.iload 6, 2) := by decide +kernel
theorem dX4_giveAll_21 : decode cX4_giveAll 21 = .ok (.bipush 6, 2) := by decide +kernel
theorem dX4_giveAll_23 : decode cX4_giveAll 23 = .ok (.if_icmp .ge 26, 3) := by decide +kernel
theorem dX4_giveAll_26 : decode cX4_giveAll 26 = .ok (.aload_n 0, 1) := by decide +kernel
theorem dX4_giveAll_27 : decode cX4_giveAll 27 = .ok (.getfield 9, 3) := by decide +kernel
theorem dX4_giveAll_30 : decode cX4_giveAll 30 = .ok (.iload 6, 2) := by decide +kernel
theorem dX4_giveAll_32 : decode cX4_giveAll 32 = .ok (.iload 6, 2) := by decide +kernel
theorem dX4_giveAll_34 : decode cX4_giveAll 34 = .ok (.iastore, 1) := by decide +kernel
theorem dX4_giveAll_35 : decode cX4_giveAll 35 = .ok (.aload_n 0, 1) := by decide +kernel
theorem dX4_giveAll_36 : decode cX4_giveAll 36 = .ok (.getfield 15, 3) := by decide +kernel
theorem dX4_giveAll_39 : decode cX4_giveAll 39 = .ok (.iload 6, 2) := by decide +kernel
theorem dX4_giveAll_41 : decode cX4_giveAll 41 = .ok (.iconst 0, 1) := by decide +kernel
theorem dX4_giveAll_42 : decode cX4_giveAll 42 = .ok (.iastore, 1) := by decide +kernel
theorem dX4_giveAll_43 : decode cX4_giveAll 43 = .ok (.iinc 6 1, 3) := by decide +kernel
theorem dX4_giveAll_46 : decode cX4_giveAll 46 = .ok (.goto (-27), 3) := by decide +kernel
theorem dX4_giveAll_49 : decode cX4_giveAll 49 = .ok (.iconst 0, 1) := by decide +kernel
theorem dX4_giveAll_50 : decode cX4_giveAll 50 = .ok (.istore 6, 2) := by decide +kernel
theorem dX4_giveAll_52 : decode cX4_giveAll 52 = .ok (.iload 6, 2) := by decide +kernel
theorem dX4_giveAll_54 : decode cX4_giveAll 54 = .ok (.sipush 720, 3) := by decide +kernel
theorem dX4_giveAll_57 : decode cX4_giveAll 57 = .ok (.if_icmp .ge 40, 3) := by decide +kernel
theorem dX4_giveAll_60 : decode cX4_giveAll 60 = .ok (.aload_n 0, 1) := by decide +kernel
theorem dX4_giveAll_61 : decode cX4_giveAll 61 = .ok (.aload_n 2, 1) := by decide +kernel
theorem dX4_giveAll_62 : decode cX4_giveAll 62 = .ok (.iload_n 3, 1) := by decide +kernel
theorem dX4_giveAll_63 : decode cX4_giveAll 63 = .ok (.invokevirtual 37, 3) := by decide +kernel
theorem dX4_giveAll_66 : decode cX4_giveAll 66 = .ok (.aload_n 0, 1) := by decide +kernel
theorem dX4_giveAll_67 : decode cX4_giveAll 67 = .ok (.aload_n 1, 1) := by decide +kernel
theorem dX4_giveAll_68 : decode cX4_giveAll 68 = .ok (.iload 4, 2) := by decide +kernel
theorem dX4_giveAll_70 : decode cX4_giveAll 70 = .ok (.invokevirtual 41, 3) := by decide +kernel
theorem dX4_giveAll_73 : decode cX4_giveAll 73 = .ok (.ifCond .eq 8, 3) := by decide +kernel
theorem dX4_giveAll_76 : decode cX4_giveAll 76 = .ok (.aload_n 0, 1) := by decide +kernel
theorem dX4_giveAll_77 : decode cX4_giveAll 77 = .ok (.iload_n 3, 1) := by decide +kernel
theorem dX4_giveAll_78 : decode cX4_giveAll 78 = .ok (.invokevirtual 45, 3) := by decide +kernel
theorem dX4_giveAll_81 : decode cX4_giveAll 81 = .ok (.aload_n 0, 1) := by decide +kernel
theorem dX4_giveAll_82 : decode cX4_giveAll 82 = .ok (.iload 5, 2) := by decide +kernel
theorem dX4_giveAll_84 : decode cX4_giveAll 84 = .ok (.invokevirtual 49, 3) := by decide +kernel
theorem dX4_giveAll_87 : decode cX4_giveAll 87 = .ok (.ifCond .ne 4, 3) := by decide +kernel
theorem dX4_giveAll_90 : decode cX4_giveAll 90 = .ok (.return_, 1) := by decide +kernel
theorem dX4_giveAll_91 : decode cX4_giveAll 91 = .ok (.iinc 6 1, 3) := by decide +kernel
theorem dX4_giveAll_94 : decode cX4_giveAll 94 = .ok (.goto (-42), 3) := by decide +kernel
theorem dX4_giveAll_97 : decode cX4_giveAll 97 = .ok (.return_, 1) := by decide +kernel
theorem dX4_give_0 : decode cX4_give 0 = .ok (.iconst 0, 1) := by decide +kernel
theorem dX4_give_1 : decode cX4_give 1 = .ok (.istore_n 3, 1) := by decide +kernel
theorem dX4_give_2 : decode cX4_give 2 = .ok (.iconst 0, 1) := by decide +kernel
theorem dX4_give_3 : decode cX4_give 3 = .ok (.istore 4, 2) := by decide +kernel
theorem dX4_give_5 : decode cX4_give 5 = .ok (.iload 4, 2) := by decide +kernel
theorem dX4_give_7 : decode cX4_give 7 = .ok (.bipush 6, 2) := by decide +kernel
theorem dX4_give_9 : decode cX4_give 9 = .ok (.if_icmp .ge 36, 3) := by decide +kernel
theorem dX4_give_12 : decode cX4_give 12 = .ok (.iload_n 2, 1) := by decide +kernel
theorem dX4_give_13 : decode cX4_give 13 = .ok (.iload 4, 2) := by decide +kernel
theorem dX4_give_15 : decode cX4_give 15 = .ok (.ishr, 1) := by decide +kernel
theorem dX4_give_16 : decode cX4_give 16 = .ok (.iconst 1, 1) := by decide +kernel
theorem dX4_give_17 : decode cX4_give 17 = .ok (.iand, 1) := by decide +kernel
theorem dX4_give_18 : decode cX4_give 18 = .ok (.ifCond .eq 21, 3) := by decide +kernel
theorem dX4_give_21 : decode cX4_give 21 = .ok (.aload_n 0, 1) := by decide +kernel
theorem dX4_give_22 : decode cX4_give 22 = .ok (.getfield 15, 3) := by decide +kernel
theorem dX4_give_25 : decode cX4_give 25 = .ok (.iload 4, 2) := by decide +kernel
theorem dX4_give_27 : decode cX4_give 27 = .ok (.aload_n 1, 1) := by decide +kernel
theorem dX4_give_28 : decode cX4_give 28 = .ok (.aload_n 0, 1) := by decide +kernel
theorem dX4_give_29 : decode cX4_give 29 = .ok (.getfield 9, 3) := by decide +kernel
theorem dX4_give_32 : decode cX4_give 32 = .ok (.iload_n 3, 1) := by decide +kernel
theorem dX4_give_33 : decode cX4_give 33 = .ok (.iaload, 1) := by decide +kernel
theorem dX4_give_34 : decode cX4_give 34 = .ok (.iaload, 1) := by decide +kernel
theorem dX4_give_35 : decode cX4_give 35 = .ok (.iastore, 1) := by decide +kernel
theorem dX4_give_36 : decode cX4_give 36 = .ok (.iinc 3 1, 3) := by decide +kernel
theorem dX4_give_39 : decode cX4_give 39 = .ok (.iinc 4 1, 3) := by decide +kernel
theorem dX4_give_42 : decode cX4_give 42 = .ok (.goto (-37), 3) := by decide +kernel
theorem dX4_give_45 : decode cX4_give 45 = .ok (.return_, 1) := by decide +kernel
theorem dX4_allHold_0 : decode cX4_allHold 0 = .ok (.iconst 0, 1) := by decide +kernel
theorem dX4_allHold_1 : decode cX4_allHold 1 = .ok (.istore_n 3, 1) := by decide +kernel
theorem dX4_allHold_2 : decode cX4_allHold 2 = .ok (.iload_n 3, 1) := by decide +kernel
theorem dX4_allHold_3 : decode cX4_allHold 3 = .ok (.bipush 10, 2) := by decide +kernel
theorem dX4_allHold_5 : decode cX4_allHold 5 = .ok (.if_icmp .ge 45, 3) := by decide +kernel
theorem dX4_allHold_8 : decode cX4_allHold 8 = .ok (.aload_n 1, 1) := by decide +kernel
theorem dX4_allHold_9 : decode cX4_allHold 9 = .ok (.getfield 53, 3) := by decide +kernel
theorem dX4_allHold_12 : decode cX4_allHold 12 = .ok (.iload_n 3, 1) := by decide +kernel
theorem dX4_allHold_13 : decode cX4_allHold 13 = .ok (.aaload, 1) := by decide +kernel
theorem dX4_allHold_14 : decode cX4_allHold 14 = .ok (.astore 4, 2) := by decide +kernel
theorem dX4_allHold_16 : decode cX4_allHold 16 = .ok (.iload_n 2, 1) := by decide +kernel
theorem dX4_allHold_17 : decode cX4_allHold 17 = .ok (.iload_n 3, 1) := by decide +kernel
theorem dX4_allHold_18 : decode cX4_allHold 18 = .ok (.ishr, 1) := by decide +kernel
theorem dX4_allHold_19 : decode cX4_allHold 19 = .ok (.iconst 1, 1) := by decide +kernel
theorem dX4_allHold_20 : decode cX4_allHold 20 = .ok (.iand, 1) := by decide +kernel
theorem dX4_allHold_21 : decode cX4_allHold 21 = .ok (.ifCond .eq 23, 3) := by decide +kernel
theorem dX4_allHold_24 : decode cX4_allHold 24 = .ok (.aload 4, 2) := by decide +kernel
theorem dX4_allHold_26 : decode cX4_allHold 26 = .ok (.aload 4, 2) := by decide +kernel
theorem dX4_allHold_28 : decode cX4_allHold 28 = .ok (.aload_n 0, 1) := by decide +kernel
theorem dX4_allHold_29 : decode cX4_allHold 29 = .ok (.getfield 15, 3) := by decide +kernel
theorem dX4_allHold_32 : decode cX4_allHold 32 = .ok (.iconst 0, 1) := by decide +kernel
theorem dX4_allHold_33 : decode cX4_allHold 33 = .ok (.invokevirtual 59, 3) := by decide +kernel
theorem dX4_allHold_36 : decode cX4_allHold 36 = .ok (.invokevirtual 65, 3) := by decide +kernel
theorem dX4_allHold_39 : decode cX4_allHold 39 = .ok (.ifCond .ne 5, 3) := by decide +kernel
theorem dX4_allHold_42 : decode cX4_allHold 42 = .ok (.iconst 0, 1) := by decide +kernel
theorem dX4_allHold_43 : decode cX4_allHold 43 = .ok (.ireturn, 1) := by decide +kernel
theorem dX4_allHold_44 : decode cX4_allHold 44 = .ok (.iinc 3 1, 3) := by decide +kernel
theorem dX4_allHold_47 : decode cX4_allHold 47 = .ok (.goto (-45), 3) := by decide +kernel
theorem dX4_allHold_50 : decode cX4_allHold 50 = .ok (.iconst 1, 1) := by decide +kernel
theorem dX4_allHold_51 : decode cX4_allHold 51 = .ok (.ireturn, 1) := by decide +kernel
theorem dX4_noteWay_0 : decode cX4_noteWay 0 = .ok (.iconst 0, 1) := by decide +kernel
theorem dX4_noteWay_1 : decode cX4_noteWay 1 = .ok (.istore_n 2, 1) := by decide +kernel
theorem dX4_noteWay_2 : decode cX4_noteWay 2 = .ok (.iconst 0, 1) := by decide +kernel
theorem dX4_noteWay_3 : decode cX4_noteWay 3 = .ok (.istore_n 3, 1) := by decide +kernel
theorem dX4_noteWay_4 : decode cX4_noteWay 4 = .ok (.iload_n 3, 1) := by decide +kernel
theorem dX4_noteWay_5 : decode cX4_noteWay 5 = .ok (.bipush 6, 2) := by decide +kernel
theorem dX4_noteWay_7 : decode cX4_noteWay 7 = .ok (.if_icmp .ge 39, 3) := by decide +kernel
theorem dX4_noteWay_10 : decode cX4_noteWay 10 = .ok (.aload_n 0, 1) := by decide +kernel
theorem dX4_noteWay_11 : decode cX4_noteWay 11 = .ok (.getfield 33, 3) := by decide +kernel
theorem dX4_noteWay_14 : decode cX4_noteWay 14 = .ok (.ifCond .ne 32, 3) := by decide +kernel
theorem dX4_noteWay_17 : decode cX4_noteWay 17 = .ok (.iload_n 1, 1) := by decide +kernel
theorem dX4_noteWay_18 : decode cX4_noteWay 18 = .ok (.iload_n 3, 1) := by decide +kernel
theorem dX4_noteWay_19 : decode cX4_noteWay 19 = .ok (.ishr, 1) := by decide +kernel
theorem dX4_noteWay_20 : decode cX4_noteWay 20 = .ok (.iconst 1, 1) := by decide +kernel
theorem dX4_noteWay_21 : decode cX4_noteWay 21 = .ok (.iand, 1) := by decide +kernel
theorem dX4_noteWay_22 : decode cX4_noteWay 22 = .ok (.ifCond .eq 18, 3) := by decide +kernel
theorem dX4_noteWay_25 : decode cX4_noteWay 25 = .ok (.aload_n 0, 1) := by decide +kernel
theorem dX4_noteWay_26 : decode cX4_noteWay 26 = .ok (.getfield 18, 3) := by decide +kernel
theorem dX4_noteWay_29 : decode cX4_noteWay 29 = .ok (.iload_n 3, 1) := by decide +kernel
theorem dX4_noteWay_30 : decode cX4_noteWay 30 = .ok (.aload_n 0, 1) := by decide +kernel
theorem dX4_noteWay_31 : decode cX4_noteWay 31 = .ok (.getfield 9, 3) := by decide +kernel
theorem dX4_noteWay_34 : decode cX4_noteWay 34 = .ok (.iload_n 2, 1) := by decide +kernel
theorem dX4_noteWay_35 : decode cX4_noteWay 35 = .ok (.iaload, 1) := by decide +kernel
theorem dX4_noteWay_36 : decode cX4_noteWay 36 = .ok (.iastore, 1) := by decide +kernel
theorem dX4_noteWay_37 : decode cX4_noteWay 37 = .ok (.iinc 2 1, 3) := by decide +kernel
theorem dX4_noteWay_40 : decode cX4_noteWay 40 = .ok (.iinc 3 1, 3) := by decide +kernel
theorem dX4_noteWay_43 : decode cX4_noteWay 43 = .ok (.goto (-39), 3) := by decide +kernel
theorem dX4_noteWay_46 : decode cX4_noteWay 46 = .ok (.aload_n 0, 1) := by decide +kernel
theorem dX4_noteWay_47 : decode cX4_noteWay 47 = .ok (.dup, 1) := by decide +kernel
theorem dX4_noteWay_48 : decode cX4_noteWay 48 = .ok (.getfield 33, 3) := by decide +kernel
theorem dX4_noteWay_51 : decode cX4_noteWay 51 = .ok (.iconst 1, 1) := by decide +kernel
theorem dX4_noteWay_52 : decode cX4_noteWay 52 = .ok (.iadd, 1) := by decide +kernel
theorem dX4_noteWay_53 : decode cX4_noteWay 53 = .ok (.putfield 33, 3) := by decide +kernel
theorem dX4_noteWay_56 : decode cX4_noteWay 56 = .ok (.return_, 1) := by decide +kernel
theorem dX4_nextOrder_0 : decode cX4_nextOrder 0 = .ok (.iload_n 1, 1) := by decide +kernel
theorem dX4_nextOrder_1 : decode cX4_nextOrder 1 = .ok (.iconst 2, 1) := by decide +kernel
theorem dX4_nextOrder_2 : decode cX4_nextOrder 2 = .ok (.isub, 1) := by decide +kernel
theorem dX4_nextOrder_3 : decode cX4_nextOrder 3 = .ok (.istore_n 2, 1) := by decide +kernel
theorem dX4_nextOrder_4 : decode cX4_nextOrder 4 = .ok (.iload_n 2, 1) := by decide +kernel
theorem dX4_nextOrder_5 : decode cX4_nextOrder 5 = .ok (.ifCond .lt 26, 3) := by decide +kernel
theorem dX4_nextOrder_8 : decode cX4_nextOrder 8 = .ok (.aload_n 0, 1) := by decide +kernel
theorem dX4_nextOrder_9 : decode cX4_nextOrder 9 = .ok (.getfield 9, 3) := by decide +kernel
theorem dX4_nextOrder_12 : decode cX4_nextOrder 12 = .ok (.iload_n 2, 1) := by decide +kernel
theorem dX4_nextOrder_13 : decode cX4_nextOrder 13 = .ok (.iaload, 1) := by decide +kernel
theorem dX4_nextOrder_14 : decode cX4_nextOrder 14 = .ok (.aload_n 0, 1) := by decide +kernel
theorem dX4_nextOrder_15 : decode cX4_nextOrder 15 = .ok (.getfield 9, 3) := by decide +kernel
theorem dX4_nextOrder_18 : decode cX4_nextOrder 18 = .ok (.iload_n 2, 1) := by decide +kernel
theorem dX4_nextOrder_19 : decode cX4_nextOrder 19 = .ok (.iconst 1, 1) := by decide +kernel
theorem dX4_nextOrder_20 : decode cX4_nextOrder 20 = .ok (.iadd, 1) := by decide +kernel
theorem dX4_nextOrder_21 : decode cX4_nextOrder 21 = .ok (.iaload, 1) := by decide +kernel
theorem dX4_nextOrder_22 : decode cX4_nextOrder 22 = .ok (.if_icmp .le 9, 3) := by decide +kernel
theorem dX4_nextOrder_25 : decode cX4_nextOrder 25 = .ok (.iinc 2 (-1), 3) := by decide +kernel
theorem dX4_nextOrder_28 : decode cX4_nextOrder 28 = .ok (.goto (-24), 3) := by decide +kernel
theorem dX4_nextOrder_31 : decode cX4_nextOrder 31 = .ok (.iload_n 2, 1) := by decide +kernel
theorem dX4_nextOrder_32 : decode cX4_nextOrder 32 = .ok (.ifCond .ge 5, 3) := by decide +kernel
theorem dX4_nextOrder_35 : decode cX4_nextOrder 35 = .ok (.iconst 0, 1) := by decide +kernel
theorem dX4_nextOrder_36 : decode cX4_nextOrder 36 = .ok (.ireturn, 1) := by decide +kernel
theorem dX4_nextOrder_37 : decode cX4_nextOrder 37 = .ok (.iload_n 1, 1) := by decide +kernel
theorem dX4_nextOrder_38 : decode cX4_nextOrder 38 = .ok (.iconst 1, 1) := by decide +kernel
theorem dX4_nextOrder_39 : decode cX4_nextOrder 39 = .ok (.isub, 1) := by decide +kernel
theorem dX4_nextOrder_40 : decode cX4_nextOrder 40 = .ok (.istore_n 3, 1) := by decide +kernel
theorem dX4_nextOrder_41 : decode cX4_nextOrder 41 = .ok (.iload_n 3, 1) := by decide +kernel
theorem dX4_nextOrder_42 : decode cX4_nextOrder 42 = .ok (.iload_n 2, 1) := by decide +kernel
theorem dX4_nextOrder_43 : decode cX4_nextOrder 43 = .ok (.if_icmp .le 24, 3) := by decide +kernel
theorem dX4_nextOrder_46 : decode cX4_nextOrder 46 = .ok (.aload_n 0, 1) := by decide +kernel
theorem dX4_nextOrder_47 : decode cX4_nextOrder 47 = .ok (.getfield 9, 3) := by decide +kernel
theorem dX4_nextOrder_50 : decode cX4_nextOrder 50 = .ok (.iload_n 3, 1) := by decide +kernel
theorem dX4_nextOrder_51 : decode cX4_nextOrder 51 = .ok (.iaload, 1) := by decide +kernel
theorem dX4_nextOrder_52 : decode cX4_nextOrder 52 = .ok (.aload_n 0, 1) := by decide +kernel
theorem dX4_nextOrder_53 : decode cX4_nextOrder 53 = .ok (.getfield 9, 3) := by decide +kernel
theorem dX4_nextOrder_56 : decode cX4_nextOrder 56 = .ok (.iload_n 2, 1) := by decide +kernel
theorem dX4_nextOrder_57 : decode cX4_nextOrder 57 = .ok (.iaload, 1) := by decide +kernel
theorem dX4_nextOrder_58 : decode cX4_nextOrder 58 = .ok (.if_icmp .ge 9, 3) := by decide +kernel
theorem dX4_nextOrder_61 : decode cX4_nextOrder 61 = .ok (.iinc 3 (-1), 3) := by decide +kernel
theorem dX4_nextOrder_64 : decode cX4_nextOrder 64 = .ok (.goto (-23), 3) := by decide +kernel
theorem dX4_nextOrder_67 : decode cX4_nextOrder 67 = .ok (.aload_n 0, 1) := by decide +kernel
theorem dX4_nextOrder_68 : decode cX4_nextOrder 68 = .ok (.iload_n 2, 1) := by decide +kernel
theorem dX4_nextOrder_69 : decode cX4_nextOrder 69 = .ok (.iload_n 3, 1) := by decide +kernel
theorem dX4_nextOrder_70 : decode cX4_nextOrder 70 = .ok (.invokevirtual 68, 3) := by decide +kernel
theorem dX4_nextOrder_73 : decode cX4_nextOrder 73 = .ok (.iload_n 2, 1) := by decide +kernel
theorem dX4_nextOrder_74 : decode cX4_nextOrder 74 = .ok (.iconst 1, 1) := by decide +kernel
theorem dX4_nextOrder_75 : decode cX4_nextOrder 75 = .ok (.iadd, 1) := by decide +kernel
theorem dX4_nextOrder_76 : decode cX4_nextOrder 76 = .ok (.istore 4, 2) := by decide +kernel
theorem dX4_nextOrder_78 : decode cX4_nextOrder 78 = .ok (.iload_n 1, 1) := by decide +kernel
theorem dX4_nextOrder_79 : decode cX4_nextOrder 79 = .ok (.iconst 1, 1) := by decide +kernel
theorem dX4_nextOrder_80 : decode cX4_nextOrder 80 = .ok (.isub, 1) := by decide +kernel
theorem dX4_nextOrder_81 : decode cX4_nextOrder 81 = .ok (.istore 5, 2) := by decide +kernel
theorem dX4_nextOrder_83 : decode cX4_nextOrder 83 = .ok (.iload 4, 2) := by decide +kernel
theorem dX4_nextOrder_85 : decode cX4_nextOrder 85 = .ok (.iload 5, 2) := by decide +kernel
theorem dX4_nextOrder_87 : decode cX4_nextOrder 87 = .ok (.if_icmp .ge 20, 3) := by decide +kernel
theorem dX4_nextOrder_90 : decode cX4_nextOrder 90 = .ok (.aload_n 0, 1) := by decide +kernel
theorem dX4_nextOrder_91 : decode cX4_nextOrder 91 = .ok (.iload 4, 2) := by decide +kernel
theorem dX4_nextOrder_93 : decode cX4_nextOrder 93 = .ok (.iload 5, 2) := by decide +kernel
theorem dX4_nextOrder_95 : decode cX4_nextOrder 95 = .ok (.invokevirtual 68, 3) := by decide +kernel
theorem dX4_nextOrder_98 : decode cX4_nextOrder 98 = .ok (.iinc 4 1, 3) := by decide +kernel
theorem dX4_nextOrder_101 : decode cX4_nextOrder 101 = .ok (.iinc 5 (-1), 3) := by decide +kernel
theorem dX4_nextOrder_104 : decode cX4_nextOrder 104 = .ok (.goto (-21), 3) := by decide +kernel
theorem dX4_nextOrder_107 : decode cX4_nextOrder 107 = .ok (.iconst 1, 1) := by decide +kernel
theorem dX4_nextOrder_108 : decode cX4_nextOrder 108 = .ok (.ireturn, 1) := by decide +kernel
theorem dX4_swap_0 : decode cX4_swap 0 = .ok (.aload_n 0, 1) := by decide +kernel
theorem dX4_swap_1 : decode cX4_swap 1 = .ok (.getfield 9, 3) := by decide +kernel
theorem dX4_swap_4 : decode cX4_swap 4 = .ok (.iload_n 1, 1) := by decide +kernel
theorem dX4_swap_5 : decode cX4_swap 5 = .ok (.iaload, 1) := by decide +kernel
theorem dX4_swap_6 : decode cX4_swap 6 = .ok (.istore_n 3, 1) := by decide +kernel
theorem dX4_swap_7 : decode cX4_swap 7 = .ok (.aload_n 0, 1) := by decide +kernel
theorem dX4_swap_8 : decode cX4_swap 8 = .ok (.getfield 9, 3) := by decide +kernel
theorem dX4_swap_11 : decode cX4_swap 11 = .ok (.iload_n 1, 1) := by decide +kernel
theorem dX4_swap_12 : decode cX4_swap 12 = .ok (.aload_n 0, 1) := by decide +kernel
theorem dX4_swap_13 : decode cX4_swap 13 = .ok (.getfield 9, 3) := by decide +kernel
theorem dX4_swap_16 : decode cX4_swap 16 = .ok (.iload_n 2, 1) := by decide +kernel
theorem dX4_swap_17 : decode cX4_swap 17 = .ok (.iaload, 1) := by decide +kernel
theorem dX4_swap_18 : decode cX4_swap 18 = .ok (.iastore, 1) := by decide +kernel
theorem dX4_swap_19 : decode cX4_swap 19 = .ok (.aload_n 0, 1) := by decide +kernel
theorem dX4_swap_20 : decode cX4_swap 20 = .ok (.getfield 9, 3) := by decide +kernel
theorem dX4_swap_23 : decode cX4_swap 23 = .ok (.iload_n 2, 1) := by decide +kernel
theorem dX4_swap_24 : decode cX4_swap 24 = .ok (.iload_n 3, 1) := by decide +kernel
theorem dX4_swap_25 : decode cX4_swap 25 = .ok (.iastore, 1) := by decide +kernel
theorem dX4_swap_26 : decode cX4_swap 26 = .ok (.return_, 1) := by decide +kernel
theorem dX5_init_0 : decode cX5_init 0 = .ok (.aload_n 0, 1) := by decide +kernel
theorem dX5_init_1 : decode cX5_init 1 = .ok (.invokespecial 3, 3) := by decide +kernel
theorem dX5_init_4 : decode cX5_init 4 = .ok (.aload_n 0, 1) := by decide +kernel
theorem dX5_init_5 : decode cX5_init 5 = .ok (.bipush 6, 2) := by decide +kernel
theorem dX5_init_7 : decode cX5_init 7 = .ok (.newarray .int, 2) := by decide +kernel
theorem dX5_init_9 : decode cX5_init 9 = .ok (.putfield 9, 3) := by decide +kernel
theorem dX5_init_12 : decode cX5_init 12 = .ok (.return_, 1) := by decide +kernel
theorem dX5_become_0 : decode cX5_become 0 = .ok (.aload_n 1, 1) := by decide +kernel
theorem dX5_become_1 : decode cX5_become 1 = .ok (.getfield 9, 3) := by decide +kernel
theorem dX5_become_4 : decode cX5_become 4 = .ok (.iconst 0, 1) := by decide +kernel
theorem dX5_become_5 : decode cX5_become 5 = .ok (.aload_n 0, 1) := by decide +kernel
theorem dX5_become_6 : decode cX5_become 6 = .ok (.getfield 9, 3) := by decide +kernel
theorem dX5_become_9 : decode cX5_become 9 = .ok (.iconst 0, 1) := by decide +kernel
theorem dX5_become_10 : decode cX5_become 10 = .ok (.bipush 6, 2) := by decide +kernel
theorem dX5_become_12 : decode cX5_become 12 = .ok (.invokestatic 15, 3) := by decide +kernel
theorem dX5_become_15 : decode cX5_become 15 = .ok (.aload_n 0, 1) := by decide +kernel
theorem dX5_become_16 : decode cX5_become 16 = .ok (.aload_n 1, 1) := by decide +kernel
theorem dX5_become_17 : decode cX5_become 17 = .ok (.getfield 21, 3) := by decide +kernel
theorem dX5_become_20 : decode cX5_become 20 = .ok (.putfield 21, 3) := by decide +kernel
theorem dX5_become_23 : decode cX5_become 23 = .ok (.aload_n 0, 1) := by decide +kernel
theorem dX5_become_24 : decode cX5_become 24 = .ok (.aload_n 1, 1) := by decide +kernel
theorem dX5_become_25 : decode cX5_become 25 = .ok (.getfield 25, 3) := by decide +kernel
theorem dX5_become_28 : decode cX5_become 28 = .ok (.putfield 25, 3) := by decide +kernel
theorem dX5_become_31 : decode cX5_become 31 = .ok (.aload_n 0, 1) := by decide +kernel
theorem dX5_become_32 : decode cX5_become 32 = .ok (.aload_n 1, 1) := by decide +kernel
theorem dX5_become_33 : decode cX5_become 33 = .ok (.getfield 28, 3) := by decide +kernel
theorem dX5_become_36 : decode cX5_become 36 = .ok (.putfield 28, 3) := by decide +kernel
theorem dX5_become_39 : decode cX5_become 39 = .ok (.aload_n 0, 1) := by decide +kernel
theorem dX5_become_40 : decode cX5_become 40 = .ok (.aload_n 1, 1) := by decide +kernel
theorem dX5_become_41 : decode cX5_become 41 = .ok (.getfield 31, 3) := by decide +kernel
theorem dX5_become_44 : decode cX5_become 44 = .ok (.putfield 31, 3) := by decide +kernel
theorem dX5_become_47 : decode cX5_become 47 = .ok (.aload_n 0, 1) := by decide +kernel
theorem dX5_become_48 : decode cX5_become 48 = .ok (.aload_n 1, 1) := by decide +kernel
theorem dX5_become_49 : decode cX5_become 49 = .ok (.getfield 34, 3) := by decide +kernel
theorem dX5_become_52 : decode cX5_become 52 = .ok (.putfield 34, 3) := by decide +kernel
theorem dX5_become_55 : decode cX5_become 55 = .ok (.aload_n 0, 1) := by decide +kernel
theorem dX5_become_56 : decode cX5_become 56 = .ok (.aload_n 1, 1) := by decide +kernel
theorem dX5_become_57 : decode cX5_become 57 = .ok (.getfield 37, 3) := by decide +kernel
theorem dX5_become_60 : decode cX5_become 60 = .ok (.putfield 37, 3) := by decide +kernel
theorem dX5_become_63 : decode cX5_become 63 = .ok (.return_, 1) := by decide +kernel
theorem dX5_tells_0 : decode cX5_tells 0 = .ok (.aload_n 0, 1) := by decide +kernel
theorem dX5_tells_1 : decode cX5_tells 1 = .ok (.getfield 25, 3) := by decide +kernel
theorem dX5_tells_4 : decode cX5_tells 4 = .ok (.istore_n 2, 1) := by decide +kernel
theorem dX5_tells_5 : decode cX5_tells 5 = .ok (.iconst 0, 1) := by decide +kernel
theorem dX5_tells_6 : decode cX5_tells 6 = .ok (.istore_n 3, 1) := by decide +kernel
theorem dX5_tells_7 : decode cX5_tells 7 = .ok (.iload_n 3, 1) := by decide +kernel
theorem dX5_tells_8 : decode cX5_tells 8 = .ok (.bipush 6, 2) := by decide +kernel
theorem dX5_tells_10 : decode cX5_tells 10 = .ok (.if_icmp .ge 22, 3) := by decide +kernel
theorem dX5_tells_13 : decode cX5_tells 13 = .ok (.iload_n 2, 1) := by decide +kernel
theorem dX5_tells_14 : decode cX5_tells 14 = .ok (.aload_n 0, 1) := by decide +kernel
theorem dX5_tells_15 : decode cX5_tells 15 = .ok (.getfield 9, 3) := by decide +kernel
theorem dX5_tells_18 : decode cX5_tells 18 = .ok (.iload_n 3, 1) := by decide +kernel
theorem dX5_tells_19 : decode cX5_tells 19 = .ok (.iaload, 1) := by decide +kernel
theorem dX5_tells_20 : decode cX5_tells 20 = .ok (.aload_n 1, 1) := by decide +kernel
theorem dX5_tells_21 : decode cX5_tells 21 = .ok (.iload_n 3, 1) := by decide +kernel
theorem dX5_tells_22 : decode cX5_tells 22 = .ok (.iaload, 1) := by decide +kernel
theorem dX5_tells_23 : decode cX5_tells 23 = .ok (.imul, 1) := by decide +kernel
theorem dX5_tells_24 : decode cX5_tells 24 = .ok (.iadd, 1) := by decide +kernel
theorem dX5_tells_25 : decode cX5_tells 25 = .ok (.istore_n 2, 1) := by decide +kernel
theorem dX5_tells_26 : decode cX5_tells 26 = .ok (.iinc 3 1, 3) := by decide +kernel
theorem dX5_tells_29 : decode cX5_tells 29 = .ok (.goto (-22), 3) := by decide +kernel
theorem dX5_tells_32 : decode cX5_tells 32 = .ok (.iload_n 2, 1) := by decide +kernel
theorem dX5_tells_33 : decode cX5_tells 33 = .ok (.ireturn, 1) := by decide +kernel
theorem dX5_tellsIn_0 : decode cX5_tellsIn 0 = .ok (.aload_n 0, 1) := by decide +kernel
theorem dX5_tellsIn_1 : decode cX5_tellsIn 1 = .ok (.getfield 21, 3) := by decide +kernel
theorem dX5_tellsIn_4 : decode cX5_tellsIn 4 = .ok (.istore_n 3, 1) := by decide +kernel
theorem dX5_tellsIn_5 : decode cX5_tellsIn 5 = .ok (.iconst 0, 1) := by decide +kernel
theorem dX5_tellsIn_6 : decode cX5_tellsIn 6 = .ok (.istore 4, 2) := by decide +kernel
theorem dX5_tellsIn_8 : decode cX5_tellsIn 8 = .ok (.iload 4, 2) := by decide +kernel
theorem dX5_tellsIn_10 : decode cX5_tellsIn 10 = .ok (.bipush 6, 2) := by decide +kernel
theorem dX5_tellsIn_12 : decode cX5_tellsIn 12 = .ok (.if_icmp .ge 26, 3) := by decide +kernel
theorem dX5_tellsIn_15 : decode cX5_tellsIn 15 = .ok (.iload_n 3, 1) := by decide +kernel
theorem dX5_tellsIn_16 : decode cX5_tellsIn 16 = .ok (.aload_n 0, 1) := by decide +kernel
theorem dX5_tellsIn_17 : decode cX5_tellsIn 17 = .ok (.getfield 9, 3) := by decide +kernel
theorem dX5_tellsIn_20 : decode cX5_tellsIn 20 = .ok (.iload 4, 2) := by decide +kernel
theorem dX5_tellsIn_22 : decode cX5_tellsIn 22 = .ok (.iaload, 1) := by decide +kernel
theorem dX5_tellsIn_23 : decode cX5_tellsIn 23 = .ok (.aload_n 1, 1) := by decide +kernel
theorem dX5_tellsIn_24 : decode cX5_tellsIn 24 = .ok (.iload 4, 2) := by decide +kernel
theorem dX5_tellsIn_26 : decode cX5_tellsIn 26 = .ok (.iaload, 1) := by decide +kernel
theorem dX5_tellsIn_27 : decode cX5_tellsIn 27 = .ok (.iload_n 2, 1) := by decide +kernel
theorem dX5_tellsIn_28 : decode cX5_tellsIn 28 = .ok (.iadd, 1) := by decide +kernel
theorem dX5_tellsIn_29 : decode cX5_tellsIn 29 = .ok (.imul, 1) := by decide +kernel
theorem dX5_tellsIn_30 : decode cX5_tellsIn 30 = .ok (.iadd, 1) := by decide +kernel
theorem dX5_tellsIn_31 : decode cX5_tellsIn 31 = .ok (.istore_n 3, 1) := by decide +kernel
theorem dX5_tellsIn_32 : decode cX5_tellsIn 32 = .ok (.iinc 4 1, 3) := by decide +kernel
theorem dX5_tellsIn_35 : decode cX5_tellsIn 35 = .ok (.goto (-27), 3) := by decide +kernel
theorem dX5_tellsIn_38 : decode cX5_tellsIn 38 = .ok (.iload_n 3, 1) := by decide +kernel
theorem dX5_tellsIn_39 : decode cX5_tellsIn 39 = .ok (.ireturn, 1) := by decide +kernel
theorem dX5_holds_0 : decode cX5_holds 0 = .ok (.aload_n 0, 1) := by decide +kernel
theorem dX5_holds_1 : decode cX5_holds 1 = .ok (.getfield 28, 3) := by decide +kernel
theorem dX5_holds_4 : decode cX5_holds 4 = .ok (.tableswitch 58 0 2 #[28, 38, 48], 28) := by decide +kernel
theorem dX5_holds_32 : decode cX5_holds 32 = .ok (.iload_n 1, 1) := by decide +kernel
theorem dX5_holds_33 : decode cX5_holds 33 = .ok (.ifCond .ne 7, 3) := by decide +kernel
theorem dX5_holds_36 : decode cX5_holds 36 = .ok (.iconst 1, 1) := by decide +kernel
theorem dX5_holds_37 : decode cX5_holds 37 = .ok (.goto 4, 3) := by decide +kernel
theorem dX5_holds_40 : decode cX5_holds 40 = .ok (.iconst 0, 1) := by decide +kernel
theorem dX5_holds_41 : decode cX5_holds 41 = .ok (.ireturn, 1) := by decide +kernel
theorem dX5_holds_42 : decode cX5_holds 42 = .ok (.iload_n 1, 1) := by decide +kernel
theorem dX5_holds_43 : decode cX5_holds 43 = .ok (.ifCond .ge 7, 3) := by decide +kernel
theorem dX5_holds_46 : decode cX5_holds 46 = .ok (.iconst 1, 1) := by decide +kernel
theorem dX5_holds_47 : decode cX5_holds 47 = .ok (.goto 4, 3) := by decide +kernel
theorem dX5_holds_50 : decode cX5_holds 50 = .ok (.iconst 0, 1) := by decide +kernel
theorem dX5_holds_51 : decode cX5_holds 51 = .ok (.ireturn, 1) := by decide +kernel
theorem dX5_holds_52 : decode cX5_holds 52 = .ok (.iload_n 1, 1) := by decide +kernel
theorem dX5_holds_53 : decode cX5_holds 53 = .ok (.ifCond .le 7, 3) := by decide +kernel
theorem dX5_holds_56 : decode cX5_holds 56 = .ok (.iconst 1, 1) := by decide +kernel
theorem dX5_holds_57 : decode cX5_holds 57 = .ok (.goto 4, 3) := by decide +kernel
theorem dX5_holds_60 : decode cX5_holds 60 = .ok (.iconst 0, 1) := by decide +kernel
theorem dX5_holds_61 : decode cX5_holds 61 = .ok (.ireturn, 1) := by decide +kernel
theorem dX5_holds_62 : decode cX5_holds 62 = .ok (.aload_n 0, 1) := by decide +kernel
theorem dX5_holds_63 : decode cX5_holds 63 = .ok (.getfield 31, 3) := by decide +kernel
theorem dX5_holds_66 : decode cX5_holds 66 = .ok (.ifCond .eq 16, 3) := by decide +kernel
theorem dX5_holds_69 : decode cX5_holds 69 = .ok (.iload_n 1, 1) := by decide +kernel
theorem dX5_holds_70 : decode cX5_holds 70 = .ok (.aload_n 0, 1) := by decide +kernel
theorem dX5_holds_71 : decode cX5_holds 71 = .ok (.getfield 31, 3) := by decide +kernel
theorem dX5_holds_74 : decode cX5_holds 74 = .ok (.irem, 1) := by decide +kernel
theorem dX5_holds_75 : decode cX5_holds 75 = .ok (.ifCond .ne 7, 3) := by decide +kernel
theorem dX5_holds_78 : decode cX5_holds 78 = .ok (.iconst 1, 1) := by decide +kernel
theorem dX5_holds_79 : decode cX5_holds 79 = .ok (.goto 4, 3) := by decide +kernel
theorem dX5_holds_82 : decode cX5_holds 82 = .ok (.iconst 0, 1) := by decide +kernel
theorem dX5_holds_83 : decode cX5_holds 83 = .ok (.ireturn, 1) := by decide +kernel
theorem dX6_init_0 : decode cX6_init 0 = .ok (.aload_n 0, 1) := by decide +kernel
theorem dX6_init_1 : decode cX6_init 1 = .ok (.invokespecial 3, 3) := by decide +kernel
theorem dX6_init_4 : decode cX6_init 4 = .ok (.aload_n 0, 1) := by decide +kernel
theorem dX6_init_5 : decode cX6_init 5 = .ok (.bipush 7, 2) := by decide +kernel
theorem dX6_init_7 : decode cX6_init 7 = .ok (.bipush 7, 2) := by decide +kernel
theorem dX6_init_9 : decode cX6_init 9 = .ok (.multianewarray 11 2, 4) := by decide +kernel
theorem dX6_init_13 : decode cX6_init 13 = .ok (.putfield 13, 3) := by decide +kernel
theorem dX6_init_16 : decode cX6_init 16 = .ok (.aload_n 0, 1) := by decide +kernel
theorem dX6_init_17 : decode cX6_init 17 = .ok (.bipush 7, 2) := by decide +kernel
theorem dX6_init_19 : decode cX6_init 19 = .ok (.bipush 7, 2) := by decide +kernel
theorem dX6_init_21 : decode cX6_init 21 = .ok (.multianewarray 11 2, 4) := by decide +kernel
theorem dX6_init_25 : decode cX6_init 25 = .ok (.putfield 16, 3) := by decide +kernel
theorem dX6_init_28 : decode cX6_init 28 = .ok (.aload_n 0, 1) := by decide +kernel
theorem dX6_init_29 : decode cX6_init 29 = .ok (.bipush 7, 2) := by decide +kernel
theorem dX6_init_31 : decode cX6_init 31 = .ok (.bipush 7, 2) := by decide +kernel
theorem dX6_init_33 : decode cX6_init 33 = .ok (.multianewarray 11 2, 4) := by decide +kernel
theorem dX6_init_37 : decode cX6_init 37 = .ok (.putfield 19, 3) := by decide +kernel
theorem dX6_init_40 : decode cX6_init 40 = .ok (.aload_n 0, 1) := by decide +kernel
theorem dX6_init_41 : decode cX6_init 41 = .ok (.bipush 7, 2) := by decide +kernel
theorem dX6_init_43 : decode cX6_init 43 = .ok (.newarray .int, 2) := by decide +kernel
theorem dX6_init_45 : decode cX6_init 45 = .ok (.putfield 22, 3) := by decide +kernel
theorem dX6_init_48 : decode cX6_init 48 = .ok (.aload_n 0, 1) := by decide +kernel
theorem dX6_init_49 : decode cX6_init 49 = .ok (.aload_n 1, 1) := by decide +kernel
theorem dX6_init_50 : decode cX6_init 50 = .ok (.putfield 26, 3) := by decide +kernel
theorem dX6_init_53 : decode cX6_init 53 = .ok (.return_, 1) := by decide +kernel
theorem dX6_read_0 : decode cX6_read 0 = .ok (.aload_n 0, 1) := by decide +kernel
theorem dX6_read_1 : decode cX6_read 1 = .ok (.iload_n 1, 1) := by decide +kernel
theorem dX6_read_2 : decode cX6_read 2 = .ok (.aload_n 0, 1) := by decide +kernel
theorem dX6_read_3 : decode cX6_read 3 = .ok (.getfield 26, 3) := by decide +kernel
theorem dX6_read_6 : decode cX6_read 6 = .ok (.arraylength, 1) := by decide +kernel
theorem dX6_read_7 : decode cX6_read 7 = .ok (.invokestatic 29, 3) := by decide +kernel
theorem dX6_read_10 : decode cX6_read 10 = .ok (.putfield 35, 3) := by decide +kernel
theorem dX6_read_13 : decode cX6_read 13 = .ok (.aload_n 0, 1) := by decide +kernel
theorem dX6_read_14 : decode cX6_read 14 = .ok (.iload_n 2, 1) := by decide +kernel
theorem dX6_read_15 : decode cX6_read 15 = .ok (.putfield 39, 3) := by decide +kernel
theorem dX6_read_18 : decode cX6_read 18 = .ok (.aload_n 0, 1) := by decide +kernel
theorem dX6_read_19 : decode cX6_read 19 = .ok (.iconst 0, 1) := by decide +kernel
theorem dX6_read_20 : decode cX6_read 20 = .ok (.putfield 42, 3) := by decide +kernel
theorem dX6_read_23 : decode cX6_read 23 = .ok (.aload_n 0, 1) := by decide +kernel
theorem dX6_read_24 : decode cX6_read 24 = .ok (.iconst 0, 1) := by decide +kernel
theorem dX6_read_25 : decode cX6_read 25 = .ok (.putfield 45, 3) := by decide +kernel
theorem dX6_read_28 : decode cX6_read 28 = .ok (.aload_n 0, 1) := by decide +kernel
theorem dX6_read_29 : decode cX6_read 29 = .ok (.iconst 0, 1) := by decide +kernel
theorem dX6_read_30 : decode cX6_read 30 = .ok (.putfield 48, 3) := by decide +kernel
theorem dX6_read_33 : decode cX6_read 33 = .ok (.aload_n 0, 1) := by decide +kernel
theorem dX6_read_34 : decode cX6_read 34 = .ok (.iconst 0, 1) := by decide +kernel
theorem dX6_read_35 : decode cX6_read 35 = .ok (.putfield 53, 3) := by decide +kernel
theorem dX6_read_38 : decode cX6_read 38 = .ok (.aload_n 0, 1) := by decide +kernel
theorem dX6_read_39 : decode cX6_read 39 = .ok (.iconst 0, 1) := by decide +kernel
theorem dX6_read_40 : decode cX6_read 40 = .ok (.putfield 56, 3) := by decide +kernel
theorem dX6_read_43 : decode cX6_read 43 = .ok (.aload_n 0, 1) := by decide +kernel
theorem dX6_read_44 : decode cX6_read 44 = .ok (.iconst 0, 1) := by decide +kernel
theorem dX6_read_45 : decode cX6_read 45 = .ok (.putfield 59, 3) := by decide +kernel
theorem dX6_read_48 : decode cX6_read 48 = .ok (.aload_n 0, 1) := by decide +kernel
theorem dX6_read_49 : decode cX6_read 49 = .ok (.iconst 0, 1) := by decide +kernel
theorem dX6_read_50 : decode cX6_read 50 = .ok (.putfield 62, 3) := by decide +kernel
theorem dX6_read_53 : decode cX6_read 53 = .ok (.aload_n 0, 1) := by decide +kernel
theorem dX6_read_54 : decode cX6_read 54 = .ok (.iconst 0, 1) := by decide +kernel
theorem dX6_read_55 : decode cX6_read 55 = .ok (.invokevirtual 65, 3) := by decide +kernel
theorem dX6_read_58 : decode cX6_read 58 = .ok (.ifCond .ne 5, 3) := by decide +kernel
theorem dX6_read_61 : decode cX6_read 61 = .ok (.iconst 0, 1) := by decide +kernel
theorem dX6_read_62 : decode cX6_read 62 = .ok (.ireturn, 1) := by decide +kernel
theorem dX6_read_63 : decode cX6_read 63 = .ok (.aload_n 0, 1) := by decide +kernel
theorem dX6_read_64 : decode cX6_read 64 = .ok (.getfield 13, 3) := by decide +kernel
theorem dX6_read_67 : decode cX6_read 67 = .ok (.iconst 0, 1) := by decide +kernel
theorem dX6_read_68 : decode cX6_read 68 = .ok (.aaload, 1) := by decide +kernel
theorem dX6_read_69 : decode cX6_read 69 = .ok (.iconst 0, 1) := by decide +kernel
theorem dX6_read_70 : decode cX6_read 70 = .ok (.aload_n 0, 1) := by decide +kernel
theorem dX6_read_71 : decode cX6_read 71 = .ok (.getfield 22, 3) := by decide +kernel
theorem dX6_read_74 : decode cX6_read 74 = .ok (.iconst 0, 1) := by decide +kernel
theorem dX6_read_75 : decode cX6_read 75 = .ok (.bipush 7, 2) := by decide +kernel
theorem dX6_read_77 : decode cX6_read 77 = .ok (.invokestatic 69, 3) := by decide +kernel
theorem dX6_read_80 : decode cX6_read 80 = .ok (.iload_n 3, 1) := by decide +kernel
theorem dX6_read_81 : decode cX6_read 81 = .ok (.ifCond .eq 10, 3) := by decide +kernel
theorem dX6_read_84 : decode cX6_read 84 = .ok (.aload_n 0, 1) := by decide +kernel
theorem dX6_read_85 : decode cX6_read 85 = .ok (.invokevirtual 75, 3) := by decide +kernel
theorem dX6_read_88 : decode cX6_read 88 = .ok (.ifCond .eq 30, 3) := by decide +kernel
theorem dX6_read_91 : decode cX6_read 91 = .ok (.aload_n 0, 1) := by decide +kernel
theorem dX6_read_92 : decode cX6_read 92 = .ok (.getfield 42, 3) := by decide +kernel
theorem dX6_read_95 : decode cX6_read 95 = .ok (.aload_n 0, 1) := by decide +kernel
theorem dX6_read_96 : decode cX6_read 96 = .ok (.getfield 35, 3) := by decide +kernel
theorem dX6_read_99 : decode cX6_read 99 = .ok (.if_icmp .eq 15, 3) := by decide +kernel
theorem dX6_read_102 : decode cX6_read 102 = .ok (.aload_n 0, 1) := by decide +kernel
theorem dX6_read_103 : decode cX6_read 103 = .ok (.iconst 1, 1) := by decide +kernel
theorem dX6_read_104 : decode cX6_read 104 = .ok (.aload_n 0, 1) := by decide +kernel
theorem dX6_read_105 : decode cX6_read 105 = .ok (.getfield 42, 3) := by decide +kernel
theorem dX6_read_108 : decode cX6_read 108 = .ok (.invokevirtual 79, 3) := by decide +kernel
theorem dX6_read_111 : decode cX6_read 111 = .ok (.ifCond .eq 7, 3) := by decide +kernel
theorem dX6_read_114 : decode cX6_read 114 = .ok (.iconst 1, 1) := by decide +kernel
theorem dX6_read_115 : decode cX6_read 115 = .ok (.goto 4, 3) := by decide +kernel
theorem dX6_read_118 : decode cX6_read 118 = .ok (.iconst 0, 1) := by decide +kernel
theorem dX6_read_119 : decode cX6_read 119 = .ok (.ireturn, 1) := by decide +kernel
theorem dX6_writeTo_0 : decode cX6_writeTo 0 = .ok (.aload_n 0, 1) := by decide +kernel
theorem dX6_writeTo_1 : decode cX6_writeTo 1 = .ok (.getfield 22, 3) := by decide +kernel
theorem dX6_writeTo_4 : decode cX6_writeTo 4 = .ok (.iconst 0, 1) := by decide +kernel
theorem dX6_writeTo_5 : decode cX6_writeTo 5 = .ok (.aload_n 1, 1) := by decide +kernel
theorem dX6_writeTo_6 : decode cX6_writeTo 6 = .ok (.getfield 83, 3) := by decide +kernel
theorem dX6_writeTo_9 : decode cX6_writeTo 9 = .ok (.iconst 0, 1) := by decide +kernel
theorem dX6_writeTo_10 : decode cX6_writeTo 10 = .ok (.bipush 6, 2) := by decide +kernel
theorem dX6_writeTo_12 : decode cX6_writeTo 12 = .ok (.invokestatic 69, 3) := by decide +kernel
theorem dX6_writeTo_15 : decode cX6_writeTo 15 = .ok (.aload_n 1, 1) := by decide +kernel
theorem dX6_writeTo_16 : decode cX6_writeTo 16 = .ok (.aload_n 0, 1) := by decide +kernel
theorem dX6_writeTo_17 : decode cX6_writeTo 17 = .ok (.getfield 22, 3) := by decide +kernel
theorem dX6_writeTo_20 : decode cX6_writeTo 20 = .ok (.bipush 6, 2) := by decide +kernel
theorem dX6_writeTo_22 : decode cX6_writeTo 22 = .ok (.iaload, 1) := by decide +kernel
theorem dX6_writeTo_23 : decode cX6_writeTo 23 = .ok (.putfield 86, 3) := by decide +kernel
theorem dX6_writeTo_26 : decode cX6_writeTo 26 = .ok (.aload_n 1, 1) := by decide +kernel
theorem dX6_writeTo_27 : decode cX6_writeTo 27 = .ok (.aload_n 0, 1) := by decide +kernel
theorem dX6_writeTo_28 : decode cX6_writeTo 28 = .ok (.getfield 22, 3) := by decide +kernel
theorem dX6_writeTo_31 : decode cX6_writeTo 31 = .ok (.bipush 6, 2) := by decide +kernel
theorem dX6_writeTo_33 : decode cX6_writeTo 33 = .ok (.iaload, 1) := by decide +kernel
theorem dX6_writeTo_34 : decode cX6_writeTo 34 = .ok (.putfield 89, 3) := by decide +kernel
theorem dX6_writeTo_37 : decode cX6_writeTo 37 = .ok (.iconst 0, 1) := by decide +kernel
theorem dX6_writeTo_38 : decode cX6_writeTo 38 = .ok (.istore_n 3, 1) := by decide +kernel
theorem dX6_writeTo_39 : decode cX6_writeTo 39 = .ok (.iload_n 3, 1) := by decide +kernel
theorem dX6_writeTo_40 : decode cX6_writeTo 40 = .ok (.bipush 6, 2) := by decide +kernel
theorem dX6_writeTo_42 : decode cX6_writeTo 42 = .ok (.if_icmp .ge 30, 3) := by decide +kernel
theorem dX6_writeTo_45 : decode cX6_writeTo 45 = .ok (.aload_n 1, 1) := by decide +kernel
theorem dX6_writeTo_46 : decode cX6_writeTo 46 = .ok (.dup, 1) := by decide +kernel
theorem dX6_writeTo_47 : decode cX6_writeTo 47 = .ok (.getfield 89, 3) := by decide +kernel
theorem dX6_writeTo_50 : decode cX6_writeTo 50 = .ok (.aload_n 0, 1) := by decide +kernel
theorem dX6_writeTo_51 : decode cX6_writeTo 51 = .ok (.getfield 22, 3) := by decide +kernel
theorem dX6_writeTo_54 : decode cX6_writeTo 54 = .ok (.iload_n 3, 1) := by decide +kernel
theorem dX6_writeTo_55 : decode cX6_writeTo 55 = .ok (.iaload, 1) := by decide +kernel
theorem dX6_writeTo_56 : decode cX6_writeTo 56 = .ok (.aload_n 2, 1) := by decide +kernel
theorem dX6_writeTo_57 : decode cX6_writeTo 57 = .ok (.iload_n 3, 1) := by decide +kernel
theorem dX6_writeTo_58 : decode cX6_writeTo 58 = .ok (.invokevirtual 92, 3) := by decide +kernel
theorem dX6_writeTo_61 : decode cX6_writeTo 61 = .ok (.imul, 1) := by decide +kernel
theorem dX6_writeTo_62 : decode cX6_writeTo 62 = .ok (.iadd, 1) := by decide +kernel
theorem dX6_writeTo_63 : decode cX6_writeTo 63 = .ok (.putfield 89, 3) := by decide +kernel
theorem dX6_writeTo_66 : decode cX6_writeTo 66 = .ok (.iinc 3 1, 3) := by decide +kernel
theorem dX6_writeTo_69 : decode cX6_writeTo 69 = .ok (.goto (-30), 3) := by decide +kernel
theorem dX6_writeTo_72 : decode cX6_writeTo 72 = .ok (.aload_n 1, 1) := by decide +kernel
theorem dX6_writeTo_73 : decode cX6_writeTo 73 = .ok (.aload_n 0, 1) := by decide +kernel
theorem dX6_writeTo_74 : decode cX6_writeTo 74 = .ok (.getfield 53, 3) := by decide +kernel
theorem dX6_writeTo_77 : decode cX6_writeTo 77 = .ok (.putfield 98, 3) := by decide +kernel
theorem dX6_writeTo_80 : decode cX6_writeTo 80 = .ok (.aload_n 1, 1) := by decide +kernel
theorem dX6_writeTo_81 : decode cX6_writeTo 81 = .ok (.aload_n 0, 1) := by decide +kernel
theorem dX6_writeTo_82 : decode cX6_writeTo 82 = .ok (.getfield 56, 3) := by decide +kernel
theorem dX6_writeTo_85 : decode cX6_writeTo 85 = .ok (.putfield 99, 3) := by decide +kernel
theorem dX6_writeTo_88 : decode cX6_writeTo 88 = .ok (.aload_n 1, 1) := by decide +kernel
theorem dX6_writeTo_89 : decode cX6_writeTo 89 = .ok (.aload_n 2, 1) := by decide +kernel
theorem dX6_writeTo_90 : decode cX6_writeTo 90 = .ok (.getfield 100, 3) := by decide +kernel
theorem dX6_writeTo_93 : decode cX6_writeTo 93 = .ok (.putfield 103, 3) := by decide +kernel
theorem dX6_writeTo_96 : decode cX6_writeTo 96 = .ok (.aload_n 1, 1) := by decide +kernel
theorem dX6_writeTo_97 : decode cX6_writeTo 97 = .ok (.aload_n 0, 1) := by decide +kernel
theorem dX6_writeTo_98 : decode cX6_writeTo 98 = .ok (.getfield 48, 3) := by decide +kernel
theorem dX6_writeTo_101 : decode cX6_writeTo 101 = .ok (.putfield 104, 3) := by decide +kernel
theorem dX6_writeTo_104 : decode cX6_writeTo 104 = .ok (.return_, 1) := by decide +kernel
theorem dX6_readSecondHalf_0 : decode cX6_readSecondHalf 0 = .ok (.aload_n 0, 1) := by decide +kernel
theorem dX6_readSecondHalf_1 : decode cX6_readSecondHalf 1 = .ok (.invokevirtual 105, 3) := by decide +kernel
theorem dX6_readSecondHalf_4 : decode cX6_readSecondHalf 4 = .ok (.istore_n 1, 1) := by decide +kernel
theorem dX6_readSecondHalf_5 : decode cX6_readSecondHalf 5 = .ok (.iload_n 1, 1) := by decide +kernel
theorem dX6_readSecondHalf_6 : decode cX6_readSecondHalf 6 = .ok (.bipush 126, 2) := by decide +kernel
theorem dX6_readSecondHalf_8 : decode cX6_readSecondHalf 8 = .ok (.if_icmp .ne 23, 3) := by decide +kernel
theorem dX6_readSecondHalf_11 : decode cX6_readSecondHalf 11 = .ok (.aload_n 0, 1) := by decide +kernel
theorem dX6_readSecondHalf_12 : decode cX6_readSecondHalf 12 = .ok (.iconst 3, 1) := by decide +kernel
theorem dX6_readSecondHalf_13 : decode cX6_readSecondHalf 13 = .ok (.putfield 53, 3) := by decide +kernel
theorem dX6_readSecondHalf_16 : decode cX6_readSecondHalf 16 = .ok (.aload_n 0, 1) := by decide +kernel
theorem dX6_readSecondHalf_17 : decode cX6_readSecondHalf 17 = .ok (.dup, 1) := by decide +kernel
theorem dX6_readSecondHalf_18 : decode cX6_readSecondHalf 18 = .ok (.getfield 42, 3) := by decide +kernel
theorem dX6_readSecondHalf_21 : decode cX6_readSecondHalf 21 = .ok (.iconst 1, 1) := by decide +kernel
theorem dX6_readSecondHalf_22 : decode cX6_readSecondHalf 22 = .ok (.iadd, 1) := by decide +kernel
theorem dX6_readSecondHalf_23 : decode cX6_readSecondHalf 23 = .ok (.putfield 42, 3) := by decide +kernel
theorem dX6_readSecondHalf_26 : decode cX6_readSecondHalf 26 = .ok (.aload_n 0, 1) := by decide +kernel
theorem dX6_readSecondHalf_27 : decode cX6_readSecondHalf 27 = .ok (.invokevirtual 109, 3) := by decide +kernel
theorem dX6_readSecondHalf_30 : decode cX6_readSecondHalf 30 = .ok (.ireturn, 1) := by decide +kernel
theorem dX6_readSecondHalf_31 : decode cX6_readSecondHalf 31 = .ok (.iload_n 1, 1) := by decide +kernel
theorem dX6_readSecondHalf_32 : decode cX6_readSecondHalf 32 = .ok (.bipush 61, 2) := by decide +kernel
theorem dX6_readSecondHalf_34 : decode cX6_readSecondHalf 34 = .ok (.if_icmp .eq 25, 3) := by decide +kernel
theorem dX6_readSecondHalf_37 : decode cX6_readSecondHalf 37 = .ok (.iload_n 1, 1) := by decide +kernel
theorem dX6_readSecondHalf_38 : decode cX6_readSecondHalf 38 = .ok (.bipush 60, 2) := by decide +kernel
theorem dX6_readSecondHalf_40 : decode cX6_readSecondHalf 40 = .ok (.if_icmp .eq 19, 3) := by decide +kernel
theorem dX6_readSecondHalf_43 : decode cX6_readSecondHalf 43 = .ok (.iload_n 1, 1) := by decide +kernel
theorem dX6_readSecondHalf_44 : decode cX6_readSecondHalf 44 = .ok (.bipush 62, 2) := by decide +kernel
theorem dX6_readSecondHalf_46 : decode cX6_readSecondHalf 46 = .ok (.if_icmp .eq 13, 3) := by decide +kernel
theorem dX6_readSecondHalf_49 : decode cX6_readSecondHalf 49 = .ok (.aload_n 0, 1) := by decide +kernel
theorem dX6_readSecondHalf_50 : decode cX6_readSecondHalf 50 = .ok (.iconst 1, 1) := by decide +kernel
theorem dX6_readSecondHalf_51 : decode cX6_readSecondHalf 51 = .ok (.aload_n 0, 1) := by decide +kernel
theorem dX6_readSecondHalf_52 : decode cX6_readSecondHalf 52 = .ok (.getfield 42, 3) := by decide +kernel
theorem dX6_readSecondHalf_55 : decode cX6_readSecondHalf 55 = .ok (.invokevirtual 79, 3) := by decide +kernel
theorem dX6_readSecondHalf_58 : decode cX6_readSecondHalf 58 = .ok (.ireturn, 1) := by decide +kernel
theorem dX6_readSecondHalf_59 : decode cX6_readSecondHalf 59 = .ok (.aload_n 0, 1) := by decide +kernel
theorem dX6_readSecondHalf_60 : decode cX6_readSecondHalf 60 = .ok (.iload_n 1, 1) := by decide +kernel
theorem dX6_readSecondHalf_61 : decode cX6_readSecondHalf 61 = .ok (.bipush 61, 2) := by decide +kernel
theorem dX6_readSecondHalf_63 : decode cX6_readSecondHalf 63 = .ok (.if_icmp .ne 7, 3) := by decide +kernel
theorem dX6_readSecondHalf_66 : decode cX6_readSecondHalf 66 = .ok (.iconst 0, 1) := by decide +kernel
theorem dX6_readSecondHalf_67 : decode cX6_readSecondHalf 67 = .ok (.goto 14, 3) := by decide +kernel
theorem dX6_readSecondHalf_70 : decode cX6_readSecondHalf 70 = .ok (.iload_n 1, 1) := by decide +kernel
theorem dX6_readSecondHalf_71 : decode cX6_readSecondHalf 71 = .ok (.bipush 60, 2) := by decide +kernel
theorem dX6_readSecondHalf_73 : decode cX6_readSecondHalf 73 = .ok (.if_icmp .ne 7, 3) := by decide +kernel
theorem dX6_readSecondHalf_76 : decode cX6_readSecondHalf 76 = .ok (.iconst 1, 1) := by decide +kernel
theorem dX6_readSecondHalf_77 : decode cX6_readSecondHalf 77 = .ok (.goto 4, 3) := by decide +kernel
theorem dX6_readSecondHalf_80 : decode cX6_readSecondHalf 80 = .ok (.iconst 2, 1) := by decide +kernel
theorem dX6_readSecondHalf_81 : decode cX6_readSecondHalf 81 = .ok (.putfield 53, 3) := by decide +kernel
theorem dX6_readSecondHalf_84 : decode cX6_readSecondHalf 84 = .ok (.aload_n 0, 1) := by decide +kernel
theorem dX6_readSecondHalf_85 : decode cX6_readSecondHalf 85 = .ok (.dup, 1) := by decide +kernel
theorem dX6_readSecondHalf_86 : decode cX6_readSecondHalf 86 = .ok (.getfield 42, 3) := by decide +kernel
theorem dX6_readSecondHalf_89 : decode cX6_readSecondHalf 89 = .ok (.iconst 1, 1) := by decide +kernel
theorem dX6_readSecondHalf_90 : decode cX6_readSecondHalf 90 = .ok (.iadd, 1) := by decide +kernel
theorem dX6_readSecondHalf_91 : decode cX6_readSecondHalf 91 = .ok (.putfield 42, 3) := by decide +kernel
theorem dX6_readSecondHalf_94 : decode cX6_readSecondHalf 94 = .ok (.aload_n 0, 1) := by decide +kernel
theorem dX6_readSecondHalf_95 : decode cX6_readSecondHalf 95 = .ok (.iconst 0, 1) := by decide +kernel
theorem dX6_readSecondHalf_96 : decode cX6_readSecondHalf 96 = .ok (.invokevirtual 65, 3) := by decide +kernel
theorem dX6_readSecondHalf_99 : decode cX6_readSecondHalf 99 = .ok (.ifCond .ne 5, 3) := by decide +kernel
theorem dX6_readSecondHalf_102 : decode cX6_readSecondHalf 102 = .ok (.iconst 0, 1) := by decide +kernel
theorem dX6_readSecondHalf_103 : decode cX6_readSecondHalf 103 = .ok (.ireturn, 1) := by decide +kernel
theorem dX6_readSecondHalf_104 : decode cX6_readSecondHalf 104 = .ok (.aload_n 0, 1) := by decide +kernel
theorem dX6_readSecondHalf_105 : decode cX6_readSecondHalf 105 = .ok (.getfield 22, 3) := by decide +kernel
theorem dX6_readSecondHalf_108 : decode cX6_readSecondHalf 108 = .ok (.aload_n 0, 1) := by decide +kernel
theorem dX6_readSecondHalf_109 : decode cX6_readSecondHalf 109 = .ok (.getfield 13, 3) := by decide +kernel
theorem dX6_readSecondHalf_112 : decode cX6_readSecondHalf 112 = .ok (.iconst 0, 1) := by decide +kernel
theorem dX6_readSecondHalf_113 : decode cX6_readSecondHalf 113 = .ok (.aaload, 1) := by decide +kernel
theorem dX6_readSecondHalf_114 : decode cX6_readSecondHalf 114 = .ok (.iconst (-1), 1) := by decide +kernel
theorem dX6_readSecondHalf_115 : decode cX6_readSecondHalf 115 = .ok (.invokestatic 112, 3) := by decide +kernel
theorem dX6_readSecondHalf_118 : decode cX6_readSecondHalf 118 = .ok (.iconst 1, 1) := by decide +kernel
theorem dX6_readSecondHalf_119 : decode cX6_readSecondHalf 119 = .ok (.ireturn, 1) := by decide +kernel
theorem dX6_readDivisor_0 : decode cX6_readDivisor 0 = .ok (.aload_n 0, 1) := by decide +kernel
theorem dX6_readDivisor_1 : decode cX6_readDivisor 1 = .ok (.getfield 42, 3) := by decide +kernel
theorem dX6_readDivisor_4 : decode cX6_readDivisor 4 = .ok (.istore_n 1, 1) := by decide +kernel
theorem dX6_readDivisor_5 : decode cX6_readDivisor 5 = .ok (.aload_n 0, 1) := by decide +kernel
theorem dX6_readDivisor_6 : decode cX6_readDivisor 6 = .ok (.invokevirtual 116, 3) := by decide +kernel
theorem dX6_readDivisor_9 : decode cX6_readDivisor 9 = .ok (.ifCond .ne 5, 3) := by decide +kernel
theorem dX6_readDivisor_12 : decode cX6_readDivisor 12 = .ok (.iconst 0, 1) := by decide +kernel
theorem dX6_readDivisor_13 : decode cX6_readDivisor 13 = .ok (.ireturn, 1) := by decide +kernel
theorem dX6_readDivisor_14 : decode cX6_readDivisor 14 = .ok (.aload_n 0, 1) := by decide +kernel
theorem dX6_readDivisor_15 : decode cX6_readDivisor 15 = .ok (.aload_n 0, 1) := by decide +kernel
theorem dX6_readDivisor_16 : decode cX6_readDivisor 16 = .ok (.getfield 119, 3) := by decide +kernel
theorem dX6_readDivisor_19 : decode cX6_readDivisor 19 = .ok (.putfield 56, 3) := by decide +kernel
theorem dX6_readDivisor_22 : decode cX6_readDivisor 22 = .ok (.aload_n 0, 1) := by decide +kernel
theorem dX6_readDivisor_23 : decode cX6_readDivisor 23 = .ok (.getfield 56, 3) := by decide +kernel
theorem dX6_readDivisor_26 : decode cX6_readDivisor 26 = .ok (.ifCond .ne 12, 3) := by decide +kernel
theorem dX6_readDivisor_29 : decode cX6_readDivisor 29 = .ok (.aload_n 0, 1) := by decide +kernel
theorem dX6_readDivisor_30 : decode cX6_readDivisor 30 = .ok (.iconst 3, 1) := by decide +kernel
theorem dX6_readDivisor_31 : decode cX6_readDivisor 31 = .ok (.iload_n 1, 1) := by decide +kernel
theorem dX6_readDivisor_32 : decode cX6_readDivisor 32 = .ok (.invokevirtual 79, 3) := by decide +kernel
theorem dX6_readDivisor_35 : decode cX6_readDivisor 35 = .ok (.ifCond .eq 7, 3) := by decide +kernel
theorem dX6_readDivisor_38 : decode cX6_readDivisor 38 = .ok (.iconst 1, 1) := by decide +kernel
theorem dX6_readDivisor_39 : decode cX6_readDivisor 39 = .ok (.goto 4, 3) := by decide +kernel
theorem dX6_readDivisor_42 : decode cX6_readDivisor 42 = .ok (.iconst 0, 1) := by decide +kernel
theorem dX6_readDivisor_43 : decode cX6_readDivisor 43 = .ok (.ireturn, 1) := by decide +kernel
theorem dX6_readSide_0 : decode cX6_readSide 0 = .ok (.iload_n 1, 1) := by decide +kernel
theorem dX6_readSide_1 : decode cX6_readSide 1 = .ok (.bipush 6, 2) := by decide +kernel
theorem dX6_readSide_3 : decode cX6_readSide 3 = .ok (.if_icmp .le 13, 3) := by decide +kernel
theorem dX6_readSide_6 : decode cX6_readSide 6 = .ok (.aload_n 0, 1) := by decide +kernel
theorem dX6_readSide_7 : decode cX6_readSide 7 = .ok (.iconst 5, 1) := by decide +kernel
theorem dX6_readSide_8 : decode cX6_readSide 8 = .ok (.aload_n 0, 1) := by decide +kernel
theorem dX6_readSide_9 : decode cX6_readSide 9 = .ok (.getfield 42, 3) := by decide +kernel
theorem dX6_readSide_12 : decode cX6_readSide 12 = .ok (.invokevirtual 79, 3) := by decide +kernel
theorem dX6_readSide_15 : decode cX6_readSide 15 = .ok (.ireturn, 1) := by decide +kernel
theorem dX6_readSide_16 : decode cX6_readSide 16 = .ok (.aload_n 0, 1) := by decide +kernel
theorem dX6_readSide_17 : decode cX6_readSide 17 = .ok (.getfield 13, 3) := by decide +kernel
theorem dX6_readSide_20 : decode cX6_readSide 20 = .ok (.iload_n 1, 1) := by decide +kernel
theorem dX6_readSide_21 : decode cX6_readSide 21 = .ok (.aaload, 1) := by decide +kernel
theorem dX6_readSide_22 : decode cX6_readSide 22 = .ok (.astore_n 2, 1) := by decide +kernel
theorem dX6_readSide_23 : decode cX6_readSide 23 = .ok (.aload_n 2, 1) := by decide +kernel
theorem dX6_readSide_24 : decode cX6_readSide 24 = .ok (.iconst 0, 1) := by decide +kernel
theorem dX6_readSide_25 : decode cX6_readSide 25 = .ok (.invokestatic 122, 3) := by decide +kernel
theorem dX6_readSide_28 : decode cX6_readSide 28 = .ok (.iconst 1, 1) := by decide +kernel
theorem dX6_readSide_29 : decode cX6_readSide 29 = .ok (.istore_n 3, 1) := by decide +kernel
theorem dX6_readSide_30 : decode cX6_readSide 30 = .ok (.iconst 0, 1) := by decide +kernel
theorem dX6_readSide_31 : decode cX6_readSide 31 = .ok (.istore 4, 2) := by decide +kernel
theorem dX6_readSide_33 : decode cX6_readSide 33 = .ok (.iload 4, 2) := by decide +kernel
theorem dX6_readSide_35 : decode cX6_readSide 35 = .ok (.bipush 60, 2) := by decide +kernel
theorem dX6_readSide_37 : decode cX6_readSide 37 = .ok (.if_icmp .gt 75, 3) := by decide +kernel
theorem dX6_readSide_40 : decode cX6_readSide 40 = .ok (.aload_n 0, 1) := by decide +kernel
theorem dX6_readSide_41 : decode cX6_readSide 41 = .ok (.iload_n 1, 1) := by decide +kernel
theorem dX6_readSide_42 : decode cX6_readSide 42 = .ok (.invokevirtual 128, 3) := by decide +kernel
theorem dX6_readSide_45 : decode cX6_readSide 45 = .ok (.ifCond .ne 5, 3) := by decide +kernel
theorem dX6_readSide_48 : decode cX6_readSide 48 = .ok (.iconst 0, 1) := by decide +kernel
theorem dX6_readSide_49 : decode cX6_readSide 49 = .ok (.ireturn, 1) := by decide +kernel
theorem dX6_readSide_50 : decode cX6_readSide 50 = .ok (.aload_n 2, 1) := by decide +kernel
theorem dX6_readSide_51 : decode cX6_readSide 51 = .ok (.aload_n 0, 1) := by decide +kernel
theorem dX6_readSide_52 : decode cX6_readSide 52 = .ok (.getfield 16, 3) := by decide +kernel
theorem dX6_readSide_55 : decode cX6_readSide 55 = .ok (.iload_n 1, 1) := by decide +kernel
theorem dX6_readSide_56 : decode cX6_readSide 56 = .ok (.aaload, 1) := by decide +kernel
theorem dX6_readSide_57 : decode cX6_readSide 57 = .ok (.iload_n 3, 1) := by decide +kernel
theorem dX6_readSide_58 : decode cX6_readSide 58 = .ok (.invokestatic 112, 3) := by decide +kernel
theorem dX6_readSide_61 : decode cX6_readSide 61 = .ok (.aload_n 0, 1) := by decide +kernel
theorem dX6_readSide_62 : decode cX6_readSide 62 = .ok (.invokevirtual 105, 3) := by decide +kernel
theorem dX6_readSide_65 : decode cX6_readSide 65 = .ok (.istore 5, 2) := by decide +kernel
theorem dX6_readSide_67 : decode cX6_readSide 67 = .ok (.iload 5, 2) := by decide +kernel
theorem dX6_readSide_69 : decode cX6_readSide 69 = .ok (.bipush 43, 2) := by decide +kernel
theorem dX6_readSide_71 : decode cX6_readSide 71 = .ok (.if_icmp .eq 12, 3) := by decide +kernel
theorem dX6_readSide_74 : decode cX6_readSide 74 = .ok (.iload 5, 2) := by decide +kernel
theorem dX6_readSide_76 : decode cX6_readSide 76 = .ok (.bipush 45, 2) := by decide +kernel
theorem dX6_readSide_78 : decode cX6_readSide 78 = .ok (.if_icmp .eq 5, 3) := by decide +kernel
theorem dX6_readSide_81 : decode cX6_readSide 81 = .ok (.iconst 1, 1) := by decide +kernel
theorem dX6_readSide_82 : decode cX6_readSide 82 = .ok (.ireturn, 1) := by decide +kernel
theorem dX6_readSide_83 : decode cX6_readSide 83 = .ok (.iload 5, 2) := by decide +kernel
theorem dX6_readSide_85 : decode cX6_readSide 85 = .ok (.bipush 43, 2) := by decide +kernel
theorem dX6_readSide_87 : decode cX6_readSide 87 = .ok (.if_icmp .ne 7, 3) := by decide +kernel
theorem dX6_readSide_90 : decode cX6_readSide 90 = .ok (.iconst 1, 1) := by decide +kernel
theorem dX6_readSide_91 : decode cX6_readSide 91 = .ok (.goto 4, 3) := by decide +kernel
theorem dX6_readSide_94 : decode cX6_readSide 94 = .ok (.iconst (-1), 1) := by decide +kernel
theorem dX6_readSide_95 : decode cX6_readSide 95 = .ok (.istore_n 3, 1) := by decide +kernel
theorem dX6_readSide_96 : decode cX6_readSide 96 = .ok (.aload_n 0, 1) := by decide +kernel
theorem dX6_readSide_97 : decode cX6_readSide 97 = .ok (.dup, 1) := by decide +kernel
theorem dX6_readSide_98 : decode cX6_readSide 98 = .ok (.getfield 42, 3) := by decide +kernel
theorem dX6_readSide_101 : decode cX6_readSide 101 = .ok (.iconst 1, 1) := by decide +kernel
theorem dX6_readSide_102 : decode cX6_readSide 102 = .ok (.iadd, 1) := by decide +kernel
theorem dX6_readSide_103 : decode cX6_readSide 103 = .ok (.putfield 42, 3) := by decide +kernel
theorem dX6_readSide_106 : decode cX6_readSide 106 = .ok (.iinc 4 1, 3) := by decide +kernel
theorem dX6_readSide_109 : decode cX6_readSide 109 = .ok (.goto (-76), 3) := by decide +kernel
theorem dX6_readSide_112 : decode cX6_readSide 112 = .ok (.aload_n 0, 1) := by decide +kernel
theorem dX6_readSide_113 : decode cX6_readSide 113 = .ok (.iconst 1, 1) := by decide +kernel
theorem dX6_readSide_114 : decode cX6_readSide 114 = .ok (.aload_n 0, 1) := by decide +kernel
theorem dX6_readSide_115 : decode cX6_readSide 115 = .ok (.getfield 42, 3) := by decide +kernel
theorem dX6_readSide_118 : decode cX6_readSide 118 = .ok (.invokevirtual 79, 3) := by decide +kernel
theorem dX6_readSide_121 : decode cX6_readSide 121 = .ok (.ireturn, 1) := by decide +kernel
theorem dX6_readTerm_0 : decode cX6_readTerm 0 = .ok (.aload_n 0, 1) := by decide +kernel
theorem dX6_readTerm_1 : decode cX6_readTerm 1 = .ok (.getfield 16, 3) := by decide +kernel
theorem dX6_readTerm_4 : decode cX6_readTerm 4 = .ok (.iload_n 1, 1) := by decide +kernel
theorem dX6_readTerm_5 : decode cX6_readTerm 5 = .ok (.aaload, 1) := by decide +kernel

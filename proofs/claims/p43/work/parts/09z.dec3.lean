theorem dX10_together_159 : decode cX10_together 159 = .ok (.goto (-42), 3) := by decide +kernel
theorem dX10_together_162 : decode cX10_together 162 = .ok (.iload 4, 2) := by decide +kernel
theorem dX10_together_164 : decode cX10_together 164 = .ok (.iconst 1, 1) := by decide +kernel
theorem dX10_together_165 : decode cX10_together 165 = .ok (.isub, 1) := by decide +kernel
theorem dX10_together_166 : decode cX10_together 166 = .ok (.istore 7, 2) := by decide +kernel
theorem dX10_together_168 : decode cX10_together 168 = .ok (.iload 7, 2) := by decide +kernel
theorem dX10_together_170 : decode cX10_together 170 = .ok (.iconst 1, 1) := by decide +kernel
theorem dX10_together_171 : decode cX10_together 171 = .ok (.if_icmp .lt 11, 3) := by decide +kernel
theorem dX10_together_174 : decode cX10_together 174 = .ok (.iload 6, 2) := by decide +kernel
theorem dX10_together_176 : decode cX10_together 176 = .ok (.iload 7, 2) := by decide +kernel
theorem dX10_together_178 : decode cX10_together 178 = .ok (.irem, 1) := by decide +kernel
theorem dX10_together_179 : decode cX10_together 179 = .ok (.ifCond .eq 7, 3) := by decide +kernel
theorem dX10_together_182 : decode cX10_together 182 = .ok (.sipush (-1000), 3) := by decide +kernel
theorem dX10_together_185 : decode cX10_together 185 = .ok (.ireturn, 1) := by decide +kernel
theorem dX10_together_186 : decode cX10_together 186 = .ok (.iload 6, 2) := by decide +kernel
theorem dX10_together_188 : decode cX10_together 188 = .ok (.iload 7, 2) := by decide +kernel
theorem dX10_together_190 : decode cX10_together 190 = .ok (.idiv, 1) := by decide +kernel
theorem dX10_together_191 : decode cX10_together 191 = .ok (.ireturn, 1) := by decide +kernel
theorem dX10_turned_0 : decode cX10_turned 0 = .ok (.aload_n 0, 1) := by decide +kernel
theorem dX10_turned_1 : decode cX10_turned 1 = .ok (.iload_n 1, 1) := by decide +kernel
theorem dX10_turned_2 : decode cX10_turned 2 = .ok (.invokevirtual 182, 3) := by decide +kernel
theorem dX10_turned_5 : decode cX10_turned 5 = .ok (.ifCond .eq 41, 3) := by decide +kernel
theorem dX10_turned_8 : decode cX10_turned 8 = .ok (.aload_n 0, 1) := by decide +kernel
theorem dX10_turned_9 : decode cX10_turned 9 = .ok (.getfield 10, 3) := by decide +kernel
theorem dX10_turned_12 : decode cX10_turned 12 = .ok (.iload_n 2, 1) := by decide +kernel
theorem dX10_turned_13 : decode cX10_turned 13 = .ok (.invokevirtual 106, 3) := by decide +kernel
theorem dX10_turned_16 : decode cX10_turned 16 = .ok (.ifCond .eq 30, 3) := by decide +kernel
theorem dX10_turned_19 : decode cX10_turned 19 = .ok (.aload_n 0, 1) := by decide +kernel
theorem dX10_turned_20 : decode cX10_turned 20 = .ok (.getfield 10, 3) := by decide +kernel
theorem dX10_turned_23 : decode cX10_turned 23 = .ok (.iload_n 3, 1) := by decide +kernel
theorem dX10_turned_24 : decode cX10_turned 24 = .ok (.invokevirtual 106, 3) := by decide +kernel
theorem dX10_turned_27 : decode cX10_turned 27 = .ok (.ifCond .eq 19, 3) := by decide +kernel
theorem dX10_turned_30 : decode cX10_turned 30 = .ok (.iload_n 2, 1) := by decide +kernel
theorem dX10_turned_31 : decode cX10_turned 31 = .ok (.iload_n 3, 1) := by decide +kernel
theorem dX10_turned_32 : decode cX10_turned 32 = .ok (.if_icmp .eq 14, 3) := by decide +kernel
theorem dX10_turned_35 : decode cX10_turned 35 = .ok (.iload 4, 2) := by decide +kernel
theorem dX10_turned_37 : decode cX10_turned 37 = .ok (.ifCond .lt 9, 3) := by decide +kernel
theorem dX10_turned_40 : decode cX10_turned 40 = .ok (.iload 4, 2) := by decide +kernel
theorem dX10_turned_42 : decode cX10_turned 42 = .ok (.iconst 1, 1) := by decide +kernel
theorem dX10_turned_43 : decode cX10_turned 43 = .ok (.if_icmp .le 5, 3) := by decide +kernel
theorem dX10_turned_46 : decode cX10_turned 46 = .ok (.iconst (-1), 1) := by decide +kernel
theorem dX10_turned_47 : decode cX10_turned 47 = .ok (.ireturn, 1) := by decide +kernel
theorem dX10_turned_48 : decode cX10_turned 48 = .ok (.aload_n 0, 1) := by decide +kernel
theorem dX10_turned_49 : decode cX10_turned 49 = .ok (.getfield 37, 3) := by decide +kernel
theorem dX10_turned_52 : decode cX10_turned 52 = .ok (.iload_n 1, 1) := by decide +kernel
theorem dX10_turned_53 : decode cX10_turned 53 = .ok (.invokevirtual 185, 3) := by decide +kernel
theorem dX10_turned_56 : decode cX10_turned 56 = .ok (.istore 5, 2) := by decide +kernel
theorem dX10_turned_58 : decode cX10_turned 58 = .ok (.iload 5, 2) := by decide +kernel
theorem dX10_turned_60 : decode cX10_turned 60 = .ok (.ifCond .ge 6, 3) := by decide +kernel
theorem dX10_turned_63 : decode cX10_turned 63 = .ok (.iload 5, 2) := by decide +kernel
theorem dX10_turned_65 : decode cX10_turned 65 = .ok (.ireturn, 1) := by decide +kernel
theorem dX10_turned_66 : decode cX10_turned 66 = .ok (.iconst 0, 1) := by decide +kernel
theorem dX10_turned_67 : decode cX10_turned 67 = .ok (.istore 6, 2) := by decide +kernel
theorem dX10_turned_69 : decode cX10_turned 69 = .ok (.bipush (-2), 2) := by decide +kernel
theorem dX10_turned_71 : decode cX10_turned 71 = .ok (.istore 7, 2) := by decide +kernel
theorem dX10_turned_73 : decode cX10_turned 73 = .ok (.bipush 99, 2) := by decide +kernel
theorem dX10_turned_75 : decode cX10_turned 75 = .ok (.istore 8, 2) := by decide +kernel
theorem dX10_turned_77 : decode cX10_turned 77 = .ok (.iload 8, 2) := by decide +kernel
theorem dX10_turned_79 : decode cX10_turned 79 = .ok (.ifCond .lt 62, 3) := by decide +kernel
theorem dX10_turned_82 : decode cX10_turned 82 = .ok (.aload_n 0, 1) := by decide +kernel
theorem dX10_turned_83 : decode cX10_turned 83 = .ok (.getfield 37, 3) := by decide +kernel
theorem dX10_turned_86 : decode cX10_turned 86 = .ok (.getfield 188, 3) := by decide +kernel
theorem dX10_turned_89 : decode cX10_turned 89 = .ok (.iload_n 2, 1) := by decide +kernel
theorem dX10_turned_90 : decode cX10_turned 90 = .ok (.iaload, 1) := by decide +kernel
theorem dX10_turned_91 : decode cX10_turned 91 = .ok (.aload_n 0, 1) := by decide +kernel
theorem dX10_turned_92 : decode cX10_turned 92 = .ok (.getfield 10, 3) := by decide +kernel
theorem dX10_turned_95 : decode cX10_turned 95 = .ok (.getfield 110, 3) := by decide +kernel
theorem dX10_turned_98 : decode cX10_turned 98 = .ok (.iadd, 1) := by decide +kernel
theorem dX10_turned_99 : decode cX10_turned 99 = .ok (.iload 8, 2) := by decide +kernel
theorem dX10_turned_101 : decode cX10_turned 101 = .ok (.iadd, 1) := by decide +kernel
theorem dX10_turned_102 : decode cX10_turned 102 = .ok (.aload_n 0, 1) := by decide +kernel
theorem dX10_turned_103 : decode cX10_turned 103 = .ok (.getfield 37, 3) := by decide +kernel
theorem dX10_turned_106 : decode cX10_turned 106 = .ok (.getfield 188, 3) := by decide +kernel
theorem dX10_turned_109 : decode cX10_turned 109 = .ok (.iload_n 3, 1) := by decide +kernel
theorem dX10_turned_110 : decode cX10_turned 110 = .ok (.iaload, 1) := by decide +kernel
theorem dX10_turned_111 : decode cX10_turned 111 = .ok (.aload_n 0, 1) := by decide +kernel
theorem dX10_turned_112 : decode cX10_turned 112 = .ok (.getfield 10, 3) := by decide +kernel
theorem dX10_turned_115 : decode cX10_turned 115 = .ok (.getfield 110, 3) := by decide +kernel
theorem dX10_turned_118 : decode cX10_turned 118 = .ok (.iadd, 1) := by decide +kernel
theorem dX10_turned_119 : decode cX10_turned 119 = .ok (.iload 8, 2) := by decide +kernel
theorem dX10_turned_121 : decode cX10_turned 121 = .ok (.iadd, 1) := by decide +kernel
theorem dX10_turned_122 : decode cX10_turned 122 = .ok (.invokestatic 311, 3) := by decide +kernel
theorem dX10_turned_125 : decode cX10_turned 125 = .ok (.ifCond .eq 10, 3) := by decide +kernel
theorem dX10_turned_128 : decode cX10_turned 128 = .ok (.iinc 6 1, 3) := by decide +kernel
theorem dX10_turned_131 : decode cX10_turned 131 = .ok (.iload 8, 2) := by decide +kernel
theorem dX10_turned_133 : decode cX10_turned 133 = .ok (.istore 7, 2) := by decide +kernel
theorem dX10_turned_135 : decode cX10_turned 135 = .ok (.iinc 8 (-1), 3) := by decide +kernel
theorem dX10_turned_138 : decode cX10_turned 138 = .ok (.goto (-61), 3) := by decide +kernel
theorem dX10_turned_141 : decode cX10_turned 141 = .ok (.iload 4, 2) := by decide +kernel
theorem dX10_turned_143 : decode cX10_turned 143 = .ok (.ifCond .ne 8, 3) := by decide +kernel
theorem dX10_turned_146 : decode cX10_turned 146 = .ok (.iload 6, 2) := by decide +kernel
theorem dX10_turned_148 : decode cX10_turned 148 = .ok (.goto 5, 3) := by decide +kernel
theorem dX10_turned_151 : decode cX10_turned 151 = .ok (.iload 7, 2) := by decide +kernel
theorem dX10_turned_153 : decode cX10_turned 153 = .ok (.ireturn, 1) := by decide +kernel
theorem dX10_areTurned_0 : decode cX10_areTurned 0 = .ok (.iload_n 0, 1) := by decide +kernel
theorem dX10_areTurned_1 : decode cX10_areTurned 1 = .ok (.bipush 10, 2) := by decide +kernel
theorem dX10_areTurned_3 : decode cX10_areTurned 3 = .ok (.if_icmp .lt 41, 3) := by decide +kernel
theorem dX10_areTurned_6 : decode cX10_areTurned 6 = .ok (.iload_n 0, 1) := by decide +kernel
theorem dX10_areTurned_7 : decode cX10_areTurned 7 = .ok (.bipush 99, 2) := by decide +kernel
theorem dX10_areTurned_9 : decode cX10_areTurned 9 = .ok (.if_icmp .gt 35, 3) := by decide +kernel
theorem dX10_areTurned_12 : decode cX10_areTurned 12 = .ok (.iload_n 1, 1) := by decide +kernel
theorem dX10_areTurned_13 : decode cX10_areTurned 13 = .ok (.bipush 10, 2) := by decide +kernel
theorem dX10_areTurned_15 : decode cX10_areTurned 15 = .ok (.if_icmp .lt 29, 3) := by decide +kernel
theorem dX10_areTurned_18 : decode cX10_areTurned 18 = .ok (.iload_n 1, 1) := by decide +kernel
theorem dX10_areTurned_19 : decode cX10_areTurned 19 = .ok (.bipush 99, 2) := by decide +kernel
theorem dX10_areTurned_21 : decode cX10_areTurned 21 = .ok (.if_icmp .gt 23, 3) := by decide +kernel
theorem dX10_areTurned_24 : decode cX10_areTurned 24 = .ok (.iload_n 1, 1) := by decide +kernel
theorem dX10_areTurned_25 : decode cX10_areTurned 25 = .ok (.iload_n 0, 1) := by decide +kernel
theorem dX10_areTurned_26 : decode cX10_areTurned 26 = .ok (.bipush 10, 2) := by decide +kernel
theorem dX10_areTurned_28 : decode cX10_areTurned 28 = .ok (.irem, 1) := by decide +kernel
theorem dX10_areTurned_29 : decode cX10_areTurned 29 = .ok (.bipush 10, 2) := by decide +kernel
theorem dX10_areTurned_31 : decode cX10_areTurned 31 = .ok (.imul, 1) := by decide +kernel
theorem dX10_areTurned_32 : decode cX10_areTurned 32 = .ok (.iload_n 0, 1) := by decide +kernel
theorem dX10_areTurned_33 : decode cX10_areTurned 33 = .ok (.bipush 10, 2) := by decide +kernel
theorem dX10_areTurned_35 : decode cX10_areTurned 35 = .ok (.idiv, 1) := by decide +kernel
theorem dX10_areTurned_36 : decode cX10_areTurned 36 = .ok (.iadd, 1) := by decide +kernel
theorem dX10_areTurned_37 : decode cX10_areTurned 37 = .ok (.if_icmp .ne 7, 3) := by decide +kernel
theorem dX10_areTurned_40 : decode cX10_areTurned 40 = .ok (.iconst 1, 1) := by decide +kernel
theorem dX10_areTurned_41 : decode cX10_areTurned 41 = .ok (.goto 4, 3) := by decide +kernel
theorem dX10_areTurned_44 : decode cX10_areTurned 44 = .ok (.iconst 0, 1) := by decide +kernel
theorem dX10_areTurned_45 : decode cX10_areTurned 45 = .ok (.ireturn, 1) := by decide +kernel
theorem dX10_squares_0 : decode cX10_squares 0 = .ok (.aload_n 0, 1) := by decide +kernel
theorem dX10_squares_1 : decode cX10_squares 1 = .ok (.iload_n 1, 1) := by decide +kernel
theorem dX10_squares_2 : decode cX10_squares 2 = .ok (.invokevirtual 182, 3) := by decide +kernel
theorem dX10_squares_5 : decode cX10_squares 5 = .ok (.ifCond .eq 13, 3) := by decide +kernel
theorem dX10_squares_8 : decode cX10_squares 8 = .ok (.iload_n 2, 1) := by decide +kernel
theorem dX10_squares_9 : decode cX10_squares 9 = .ok (.ifCond .lt 9, 3) := by decide +kernel
theorem dX10_squares_12 : decode cX10_squares 12 = .ok (.iload_n 2, 1) := by decide +kernel
theorem dX10_squares_13 : decode cX10_squares 13 = .ok (.bipush 100, 2) := by decide +kernel
theorem dX10_squares_15 : decode cX10_squares 15 = .ok (.if_icmp .le 5, 3) := by decide +kernel
theorem dX10_squares_18 : decode cX10_squares 18 = .ok (.iconst (-1), 1) := by decide +kernel
theorem dX10_squares_19 : decode cX10_squares 19 = .ok (.ireturn, 1) := by decide +kernel
theorem dX10_squares_20 : decode cX10_squares 20 = .ok (.aload_n 0, 1) := by decide +kernel
theorem dX10_squares_21 : decode cX10_squares 21 = .ok (.getfield 37, 3) := by decide +kernel
theorem dX10_squares_24 : decode cX10_squares 24 = .ok (.iload_n 1, 1) := by decide +kernel
theorem dX10_squares_25 : decode cX10_squares 25 = .ok (.invokevirtual 185, 3) := by decide +kernel
theorem dX10_squares_28 : decode cX10_squares 28 = .ok (.istore_n 3, 1) := by decide +kernel
theorem dX10_squares_29 : decode cX10_squares 29 = .ok (.iload_n 3, 1) := by decide +kernel
theorem dX10_squares_30 : decode cX10_squares 30 = .ok (.ifCond .ge 5, 3) := by decide +kernel
theorem dX10_squares_33 : decode cX10_squares 33 = .ok (.iload_n 3, 1) := by decide +kernel
theorem dX10_squares_34 : decode cX10_squares 34 = .ok (.ireturn, 1) := by decide +kernel
theorem dX10_squares_35 : decode cX10_squares 35 = .ok (.iload_n 2, 1) := by decide +kernel
theorem dX10_squares_36 : decode cX10_squares 36 = .ok (.bipush 100, 2) := by decide +kernel
theorem dX10_squares_38 : decode cX10_squares 38 = .ok (.if_icmp .ge 17, 3) := by decide +kernel
theorem dX10_squares_41 : decode cX10_squares 41 = .ok (.aload_n 0, 1) := by decide +kernel
theorem dX10_squares_42 : decode cX10_squares 42 = .ok (.aload_n 0, 1) := by decide +kernel
theorem dX10_squares_43 : decode cX10_squares 43 = .ok (.getfield 10, 3) := by decide +kernel
theorem dX10_squares_46 : decode cX10_squares 46 = .ok (.getfield 110, 3) := by decide +kernel
theorem dX10_squares_49 : decode cX10_squares 49 = .ok (.iload_n 2, 1) := by decide +kernel
theorem dX10_squares_50 : decode cX10_squares 50 = .ok (.iadd, 1) := by decide +kernel
theorem dX10_squares_51 : decode cX10_squares 51 = .ok (.invokevirtual 314, 3) := by decide +kernel
theorem dX10_squares_54 : decode cX10_squares 54 = .ok (.ireturn, 1) := by decide +kernel
theorem dX10_squares_55 : decode cX10_squares 55 = .ok (.iconst 0, 1) := by decide +kernel
theorem dX10_squares_56 : decode cX10_squares 56 = .ok (.istore 4, 2) := by decide +kernel
theorem dX10_squares_58 : decode cX10_squares 58 = .ok (.iconst 1, 1) := by decide +kernel
theorem dX10_squares_59 : decode cX10_squares 59 = .ok (.istore 5, 2) := by decide +kernel
theorem dX10_squares_61 : decode cX10_squares 61 = .ok (.iload 5, 2) := by decide +kernel
theorem dX10_squares_63 : decode cX10_squares 63 = .ok (.bipush 100, 2) := by decide +kernel
theorem dX10_squares_65 : decode cX10_squares 65 = .ok (.if_icmp .ge 44, 3) := by decide +kernel
theorem dX10_squares_68 : decode cX10_squares 68 = .ok (.aload_n 0, 1) := by decide +kernel
theorem dX10_squares_69 : decode cX10_squares 69 = .ok (.aload_n 0, 1) := by decide +kernel
theorem dX10_squares_70 : decode cX10_squares 70 = .ok (.getfield 10, 3) := by decide +kernel
theorem dX10_squares_73 : decode cX10_squares 73 = .ok (.getfield 110, 3) := by decide +kernel
theorem dX10_squares_76 : decode cX10_squares 76 = .ok (.iload 5, 2) := by decide +kernel
theorem dX10_squares_78 : decode cX10_squares 78 = .ok (.iadd, 1) := by decide +kernel
theorem dX10_squares_79 : decode cX10_squares 79 = .ok (.invokevirtual 314, 3) := by decide +kernel
theorem dX10_squares_82 : decode cX10_squares 82 = .ok (.aload_n 0, 1) := by decide +kernel
theorem dX10_squares_83 : decode cX10_squares 83 = .ok (.aload_n 0, 1) := by decide +kernel
theorem dX10_squares_84 : decode cX10_squares 84 = .ok (.getfield 10, 3) := by decide +kernel
theorem dX10_squares_87 : decode cX10_squares 87 = .ok (.getfield 110, 3) := by decide +kernel
theorem dX10_squares_90 : decode cX10_squares 90 = .ok (.iload 4, 2) := by decide +kernel
theorem dX10_squares_92 : decode cX10_squares 92 = .ok (.iadd, 1) := by decide +kernel
theorem dX10_squares_93 : decode cX10_squares 93 = .ok (.invokevirtual 314, 3) := by decide +kernel
theorem dX10_squares_96 : decode cX10_squares 96 = .ok (.if_icmp .le 7, 3) := by decide +kernel
theorem dX10_squares_99 : decode cX10_squares 99 = .ok (.iload 5, 2) := by decide +kernel
theorem dX10_squares_101 : decode cX10_squares 101 = .ok (.istore 4, 2) := by decide +kernel
theorem dX10_squares_103 : decode cX10_squares 103 = .ok (.iinc 5 1, 3) := by decide +kernel
theorem dX10_squares_106 : decode cX10_squares 106 = .ok (.goto (-45), 3) := by decide +kernel
theorem dX10_squares_109 : decode cX10_squares 109 = .ok (.iload 4, 2) := by decide +kernel
theorem dX10_squares_111 : decode cX10_squares 111 = .ok (.ireturn, 1) := by decide +kernel
theorem dX10_squaresIn_0 : decode cX10_squaresIn 0 = .ok (.iconst 0, 1) := by decide +kernel
theorem dX10_squaresIn_1 : decode cX10_squaresIn 1 = .ok (.istore_n 2, 1) := by decide +kernel
theorem dX10_squaresIn_2 : decode cX10_squaresIn 2 = .ok (.iconst 0, 1) := by decide +kernel
theorem dX10_squaresIn_3 : decode cX10_squaresIn 3 = .ok (.istore_n 3, 1) := by decide +kernel
theorem dX10_squaresIn_4 : decode cX10_squaresIn 4 = .ok (.iload_n 3, 1) := by decide +kernel
theorem dX10_squaresIn_5 : decode cX10_squaresIn 5 = .ok (.bipush 6, 2) := by decide +kernel
theorem dX10_squaresIn_7 : decode cX10_squaresIn 7 = .ok (.if_icmp .ge 40, 3) := by decide +kernel
theorem dX10_squaresIn_10 : decode cX10_squaresIn 10 = .ok (.aload_n 0, 1) := by decide +kernel
theorem dX10_squaresIn_11 : decode cX10_squaresIn 11 = .ok (.getfield 10, 3) := by decide +kernel
theorem dX10_squaresIn_14 : decode cX10_squaresIn 14 = .ok (.iload_n 3, 1) := by decide +kernel
theorem dX10_squaresIn_15 : decode cX10_squaresIn 15 = .ok (.invokevirtual 106, 3) := by decide +kernel
theorem dX10_squaresIn_18 : decode cX10_squaresIn 18 = .ok (.ifCond .eq 23, 3) := by decide +kernel
theorem dX10_squaresIn_21 : decode cX10_squaresIn 21 = .ok (.aload_n 0, 1) := by decide +kernel
theorem dX10_squaresIn_22 : decode cX10_squaresIn 22 = .ok (.getfield 37, 3) := by decide +kernel
theorem dX10_squaresIn_25 : decode cX10_squaresIn 25 = .ok (.getfield 188, 3) := by decide +kernel
theorem dX10_squaresIn_28 : decode cX10_squaresIn 28 = .ok (.iload_n 3, 1) := by decide +kernel
theorem dX10_squaresIn_29 : decode cX10_squaresIn 29 = .ok (.iaload, 1) := by decide +kernel
theorem dX10_squaresIn_30 : decode cX10_squaresIn 30 = .ok (.iload_n 1, 1) := by decide +kernel
theorem dX10_squaresIn_31 : decode cX10_squaresIn 31 = .ok (.iadd, 1) := by decide +kernel
theorem dX10_squaresIn_32 : decode cX10_squaresIn 32 = .ok (.invokestatic 317, 3) := by decide +kernel
theorem dX10_squaresIn_35 : decode cX10_squaresIn 35 = .ok (.ifCond .eq 6, 3) := by decide +kernel
theorem dX10_squaresIn_38 : decode cX10_squaresIn 38 = .ok (.iinc 2 1, 3) := by decide +kernel
theorem dX10_squaresIn_41 : decode cX10_squaresIn 41 = .ok (.iinc 3 1, 3) := by decide +kernel
theorem dX10_squaresIn_44 : decode cX10_squaresIn 44 = .ok (.goto (-40), 3) := by decide +kernel
theorem dX10_squaresIn_47 : decode cX10_squaresIn 47 = .ok (.iload_n 2, 1) := by decide +kernel
theorem dX10_squaresIn_48 : decode cX10_squaresIn 48 = .ok (.ireturn, 1) := by decide +kernel
theorem dX10_isSquare_0 : decode cX10_isSquare 0 = .ok (.iconst 0, 1) := by decide +kernel
theorem dX10_isSquare_1 : decode cX10_isSquare 1 = .ok (.istore_n 1, 1) := by decide +kernel
theorem dX10_isSquare_2 : decode cX10_isSquare 2 = .ok (.iload_n 1, 1) := by decide +kernel
theorem dX10_isSquare_3 : decode cX10_isSquare 3 = .ok (.bipush 99, 2) := by decide +kernel
theorem dX10_isSquare_5 : decode cX10_isSquare 5 = .ok (.if_icmp .gt 18, 3) := by decide +kernel
theorem dX10_isSquare_8 : decode cX10_isSquare 8 = .ok (.iload_n 1, 1) := by decide +kernel
theorem dX10_isSquare_9 : decode cX10_isSquare 9 = .ok (.iload_n 1, 1) := by decide +kernel
theorem dX10_isSquare_10 : decode cX10_isSquare 10 = .ok (.imul, 1) := by decide +kernel
theorem dX10_isSquare_11 : decode cX10_isSquare 11 = .ok (.iload_n 0, 1) := by decide +kernel
theorem dX10_isSquare_12 : decode cX10_isSquare 12 = .ok (.if_icmp .ne 5, 3) := by decide +kernel
theorem dX10_isSquare_15 : decode cX10_isSquare 15 = .ok (.iconst 1, 1) := by decide +kernel
theorem dX10_isSquare_16 : decode cX10_isSquare 16 = .ok (.ireturn, 1) := by decide +kernel
theorem dX10_isSquare_17 : decode cX10_isSquare 17 = .ok (.iinc 1 1, 3) := by decide +kernel
theorem dX10_isSquare_20 : decode cX10_isSquare 20 = .ok (.goto (-18), 3) := by decide +kernel
theorem dX10_isSquare_23 : decode cX10_isSquare 23 = .ok (.iconst 0, 1) := by decide +kernel
theorem dX10_isSquare_24 : decode cX10_isSquare 24 = .ok (.ireturn, 1) := by decide +kernel
theorem dX10_when_0 : decode cX10_when 0 = .ok (.aload_n 0, 1) := by decide +kernel
theorem dX10_when_1 : decode cX10_when 1 = .ok (.iload_n 1, 1) := by decide +kernel
theorem dX10_when_2 : decode cX10_when 2 = .ok (.invokevirtual 182, 3) := by decide +kernel
theorem dX10_when_5 : decode cX10_when 5 = .ok (.ifCond .eq 38, 3) := by decide +kernel
theorem dX10_when_8 : decode cX10_when 8 = .ok (.aload_n 0, 1) := by decide +kernel
theorem dX10_when_9 : decode cX10_when 9 = .ok (.getfield 10, 3) := by decide +kernel
theorem dX10_when_12 : decode cX10_when 12 = .ok (.iload_n 2, 1) := by decide +kernel
theorem dX10_when_13 : decode cX10_when 13 = .ok (.invokevirtual 106, 3) := by decide +kernel
theorem dX10_when_16 : decode cX10_when 16 = .ok (.ifCond .eq 27, 3) := by decide +kernel
theorem dX10_when_19 : decode cX10_when 19 = .ok (.aload_n 0, 1) := by decide +kernel
theorem dX10_when_20 : decode cX10_when 20 = .ok (.getfield 10, 3) := by decide +kernel
theorem dX10_when_23 : decode cX10_when 23 = .ok (.iload_n 3, 1) := by decide +kernel
theorem dX10_when_24 : decode cX10_when 24 = .ok (.invokevirtual 106, 3) := by decide +kernel
theorem dX10_when_27 : decode cX10_when 27 = .ok (.ifCond .eq 16, 3) := by decide +kernel
theorem dX10_when_30 : decode cX10_when 30 = .ok (.iload 4, 2) := by decide +kernel
theorem dX10_when_32 : decode cX10_when 32 = .ok (.ifCond .lt 11, 3) := by decide +kernel
theorem dX10_when_35 : decode cX10_when 35 = .ok (.iload 4, 2) := by decide +kernel
theorem dX10_when_37 : decode cX10_when 37 = .ok (.sipush 199, 3) := by decide +kernel
theorem dX10_when_40 : decode cX10_when 40 = .ok (.if_icmp .le 7, 3) := by decide +kernel
theorem dX10_when_43 : decode cX10_when 43 = .ok (.sipush (-4000), 3) := by decide +kernel
theorem dX10_when_46 : decode cX10_when 46 = .ok (.ireturn, 1) := by decide +kernel
theorem dX10_when_47 : decode cX10_when 47 = .ok (.aload_n 0, 1) := by decide +kernel
theorem dX10_when_48 : decode cX10_when 48 = .ok (.getfield 37, 3) := by decide +kernel
theorem dX10_when_51 : decode cX10_when 51 = .ok (.iload_n 1, 1) := by decide +kernel
theorem dX10_when_52 : decode cX10_when 52 = .ok (.invokevirtual 185, 3) := by decide +kernel
theorem dX10_when_55 : decode cX10_when 55 = .ok (.istore 5, 2) := by decide +kernel
theorem dX10_when_57 : decode cX10_when 57 = .ok (.iload 5, 2) := by decide +kernel
theorem dX10_when_59 : decode cX10_when 59 = .ok (.ifCond .ge 20, 3) := by decide +kernel
theorem dX10_when_62 : decode cX10_when 62 = .ok (.iload 5, 2) := by decide +kernel
theorem dX10_when_64 : decode cX10_when 64 = .ok (.bipush (-3), 2) := by decide +kernel
theorem dX10_when_66 : decode cX10_when 66 = .ok (.if_icmp .ne 9, 3) := by decide +kernel
theorem dX10_when_69 : decode cX10_when 69 = .ok (.sipush (-3000), 3) := by decide +kernel
theorem dX10_when_72 : decode cX10_when 72 = .ok (.goto 6, 3) := by decide +kernel
theorem dX10_when_75 : decode cX10_when 75 = .ok (.sipush (-1000), 3) := by decide +kernel
theorem dX10_when_78 : decode cX10_when 78 = .ok (.ireturn, 1) := by decide +kernel
theorem dX10_when_79 : decode cX10_when 79 = .ok (.aload_n 0, 1) := by decide +kernel
theorem dX10_when_80 : decode cX10_when 80 = .ok (.getfield 37, 3) := by decide +kernel
theorem dX10_when_83 : decode cX10_when 83 = .ok (.getfield 188, 3) := by decide +kernel
theorem dX10_when_86 : decode cX10_when 86 = .ok (.iload_n 2, 1) := by decide +kernel
theorem dX10_when_87 : decode cX10_when 87 = .ok (.iaload, 1) := by decide +kernel
theorem dX10_when_88 : decode cX10_when 88 = .ok (.aload_n 0, 1) := by decide +kernel
theorem dX10_when_89 : decode cX10_when 89 = .ok (.getfield 37, 3) := by decide +kernel
theorem dX10_when_92 : decode cX10_when 92 = .ok (.getfield 188, 3) := by decide +kernel
theorem dX10_when_95 : decode cX10_when 95 = .ok (.iload_n 3, 1) := by decide +kernel
theorem dX10_when_96 : decode cX10_when 96 = .ok (.iaload, 1) := by decide +kernel
theorem dX10_when_97 : decode cX10_when 97 = .ok (.isub, 1) := by decide +kernel
theorem dX10_when_98 : decode cX10_when 98 = .ok (.iload 4, 2) := by decide +kernel
theorem dX10_when_100 : decode cX10_when 100 = .ok (.iadd, 1) := by decide +kernel
theorem dX10_when_101 : decode cX10_when 101 = .ok (.ireturn, 1) := by decide +kernel
theorem dX10_check_0 : decode cX10_check 0 = .ok (.iload_n 1, 1) := by decide +kernel
theorem dX10_check_1 : decode cX10_check 1 = .ok (.ifCond .lt 17, 3) := by decide +kernel
theorem dX10_check_4 : decode cX10_check 4 = .ok (.iload_n 1, 1) := by decide +kernel
theorem dX10_check_5 : decode cX10_check 5 = .ok (.bipush 6, 2) := by decide +kernel
theorem dX10_check_7 : decode cX10_check 7 = .ok (.if_icmp .gt 11, 3) := by decide +kernel
theorem dX10_check_10 : decode cX10_check 10 = .ok (.iload_n 1, 1) := by decide +kernel
theorem dX10_check_11 : decode cX10_check 11 = .ok (.aload_n 0, 1) := by decide +kernel
theorem dX10_check_12 : decode cX10_check 12 = .ok (.getfield 113, 3) := by decide +kernel
theorem dX10_check_15 : decode cX10_check 15 = .ok (.if_icmp .le 6, 3) := by decide +kernel
theorem dX10_check_18 : decode cX10_check 18 = .ok (.bipush (-2), 2) := by decide +kernel
theorem dX10_check_20 : decode cX10_check 20 = .ok (.ireturn, 1) := by decide +kernel
theorem dX10_check_21 : decode cX10_check 21 = .ok (.aload_n 0, 1) := by decide +kernel
theorem dX10_check_22 : decode cX10_check 22 = .ok (.iconst 0, 1) := by decide +kernel
theorem dX10_check_23 : decode cX10_check 23 = .ok (.putfield 113, 3) := by decide +kernel
theorem dX10_check_26 : decode cX10_check 26 = .ok (.aload_n 0, 1) := by decide +kernel
theorem dX10_check_27 : decode cX10_check 27 = .ok (.getfield 37, 3) := by decide +kernel
theorem dX10_check_30 : decode cX10_check 30 = .ok (.aload_n 0, 1) := by decide +kernel
theorem dX10_check_31 : decode cX10_check 31 = .ok (.getfield 10, 3) := by decide +kernel
theorem dX10_check_34 : decode cX10_check 34 = .ok (.invokevirtual 169, 3) := by decide +kernel
theorem dX10_check_37 : decode cX10_check 37 = .ok (.invokevirtual 185, 3) := by decide +kernel
theorem dX10_check_40 : decode cX10_check 40 = .ok (.ifCond .ge 6, 3) := by decide +kernel
theorem dX10_check_43 : decode cX10_check 43 = .ok (.bipush (-2), 2) := by decide +kernel
theorem dX10_check_45 : decode cX10_check 45 = .ok (.ireturn, 1) := by decide +kernel
theorem dX10_check_46 : decode cX10_check 46 = .ok (.iconst 0, 1) := by decide +kernel
theorem dX10_check_47 : decode cX10_check 47 = .ok (.istore_n 2, 1) := by decide +kernel
theorem dX10_check_48 : decode cX10_check 48 = .ok (.iload_n 2, 1) := by decide +kernel
theorem dX10_check_49 : decode cX10_check 49 = .ok (.iload_n 1, 1) := by decide +kernel
theorem dX10_check_50 : decode cX10_check 50 = .ok (.if_icmp .ge 46, 3) := by decide +kernel
theorem dX10_check_53 : decode cX10_check 53 = .ok (.aload_n 0, 1) := by decide +kernel
theorem dX10_check_54 : decode cX10_check 54 = .ok (.getfield 10, 3) := by decide +kernel
theorem dX10_check_57 : decode cX10_check 57 = .ok (.iload_n 2, 1) := by decide +kernel
theorem dX10_check_58 : decode cX10_check 58 = .ok (.invokevirtual 106, 3) := by decide +kernel
theorem dX10_check_61 : decode cX10_check 61 = .ok (.ifCond .eq 15, 3) := by decide +kernel
theorem dX10_check_64 : decode cX10_check 64 = .ok (.aload_n 0, 1) := by decide +kernel
theorem dX10_check_65 : decode cX10_check 65 = .ok (.getfield 37, 3) := by decide +kernel
theorem dX10_check_68 : decode cX10_check 68 = .ok (.getfield 188, 3) := by decide +kernel
theorem dX10_check_71 : decode cX10_check 71 = .ok (.iload_n 2, 1) := by decide +kernel
theorem dX10_check_72 : decode cX10_check 72 = .ok (.iaload, 1) := by decide +kernel
theorem dX10_check_73 : decode cX10_check 73 = .ok (.goto 4, 3) := by decide +kernel
theorem dX10_check_76 : decode cX10_check 76 = .ok (.iconst 0, 1) := by decide +kernel
theorem dX10_check_77 : decode cX10_check 77 = .ok (.istore_n 3, 1) := by decide +kernel
theorem dX10_check_78 : decode cX10_check 78 = .ok (.aload_n 0, 1) := by decide +kernel
theorem dX10_check_79 : decode cX10_check 79 = .ok (.getfield 19, 3) := by decide +kernel
theorem dX10_check_82 : decode cX10_check 82 = .ok (.iload_n 2, 1) := by decide +kernel
theorem dX10_check_83 : decode cX10_check 83 = .ok (.iaload, 1) := by decide +kernel
theorem dX10_check_84 : decode cX10_check 84 = .ok (.iload_n 3, 1) := by decide +kernel
theorem dX10_check_85 : decode cX10_check 85 = .ok (.if_icmp .eq 5, 3) := by decide +kernel
theorem dX10_check_88 : decode cX10_check 88 = .ok (.iload_n 2, 1) := by decide +kernel
theorem dX10_check_89 : decode cX10_check 89 = .ok (.ireturn, 1) := by decide +kernel
theorem dX10_check_90 : decode cX10_check 90 = .ok (.iinc 2 1, 3) := by decide +kernel
theorem dX10_check_93 : decode cX10_check 93 = .ok (.goto (-45), 3) := by decide +kernel
theorem dX10_check_96 : decode cX10_check 96 = .ok (.iconst (-1), 1) := by decide +kernel
theorem dX10_check_97 : decode cX10_check 97 = .ok (.ireturn, 1) := by decide +kernel
theorem dX10_shortest_0 : decode cX10_shortest 0 = .ok (.aload_n 0, 1) := by decide +kernel
theorem dX10_shortest_1 : decode cX10_shortest 1 = .ok (.iload_n 1, 1) := by decide +kernel
theorem dX10_shortest_2 : decode cX10_shortest 2 = .ok (.invokevirtual 182, 3) := by decide +kernel
theorem dX10_shortest_5 : decode cX10_shortest 5 = .ok (.ifCond .eq 12, 3) := by decide +kernel
theorem dX10_shortest_8 : decode cX10_shortest 8 = .ok (.iload_n 2, 1) := by decide +kernel
theorem dX10_shortest_9 : decode cX10_shortest 9 = .ok (.ifCond .lt 8, 3) := by decide +kernel
theorem dX10_shortest_12 : decode cX10_shortest 12 = .ok (.iload_n 2, 1) := by decide +kernel
theorem dX10_shortest_13 : decode cX10_shortest 13 = .ok (.iconst 4, 1) := by decide +kernel
theorem dX10_shortest_14 : decode cX10_shortest 14 = .ok (.if_icmp .le 5, 3) := by decide +kernel
theorem dX10_shortest_17 : decode cX10_shortest 17 = .ok (.iconst (-1), 1) := by decide +kernel
theorem dX10_shortest_18 : decode cX10_shortest 18 = .ok (.ireturn, 1) := by decide +kernel
theorem dX10_shortest_19 : decode cX10_shortest 19 = .ok (.aload_n 0, 1) := by decide +kernel
theorem dX10_shortest_20 : decode cX10_shortest 20 = .ok (.getfield 51, 3) := by decide +kernel
theorem dX10_shortest_23 : decode cX10_shortest 23 = .ok (.aload_n 0, 1) := by decide +kernel
theorem dX10_shortest_24 : decode cX10_shortest 24 = .ok (.getfield 37, 3) := by decide +kernel
theorem dX10_shortest_27 : decode cX10_shortest 27 = .ok (.iload_n 1, 1) := by decide +kernel
theorem dX10_shortest_28 : decode cX10_shortest 28 = .ok (.invokevirtual 254, 3) := by decide +kernel
theorem dX10_shortest_31 : decode cX10_shortest 31 = .ok (.ifCond .ne 6, 3) := by decide +kernel
theorem dX10_shortest_34 : decode cX10_shortest 34 = .ok (.bipush (-3), 2) := by decide +kernel
theorem dX10_shortest_36 : decode cX10_shortest 36 = .ok (.ireturn, 1) := by decide +kernel
theorem dX10_shortest_37 : decode cX10_shortest 37 = .ok (.aload_n 0, 1) := by decide +kernel
theorem dX10_shortest_38 : decode cX10_shortest 38 = .ok (.getfield 51, 3) := by decide +kernel
theorem dX10_shortest_41 : decode cX10_shortest 41 = .ok (.getfield 274, 3) := by decide +kernel
theorem dX10_shortest_44 : decode cX10_shortest 44 = .ok (.ifCond .eq 21, 3) := by decide +kernel
theorem dX10_shortest_47 : decode cX10_shortest 47 = .ok (.aload_n 0, 1) := by decide +kernel
theorem dX10_shortest_48 : decode cX10_shortest 48 = .ok (.getfield 58, 3) := by decide +kernel
theorem dX10_shortest_51 : decode cX10_shortest 51 = .ok (.aload_n 0, 1) := by decide +kernel
theorem dX10_shortest_52 : decode cX10_shortest 52 = .ok (.getfield 51, 3) := by decide +kernel
theorem dX10_shortest_55 : decode cX10_shortest 55 = .ok (.aload_n 0, 1) := by decide +kernel
theorem dX10_shortest_56 : decode cX10_shortest 56 = .ok (.getfield 10, 3) := by decide +kernel
theorem dX10_shortest_59 : decode cX10_shortest 59 = .ok (.invokevirtual 320, 3) := by decide +kernel
theorem dX10_shortest_62 : decode cX10_shortest 62 = .ok (.ifCond .ne 6, 3) := by decide +kernel
theorem dX10_shortest_65 : decode cX10_shortest 65 = .ok (.bipush (-2), 2) := by decide +kernel
theorem dX10_shortest_67 : decode cX10_shortest 67 = .ok (.ireturn, 1) := by decide +kernel
theorem dX10_shortest_68 : decode cX10_shortest 68 = .ok (.iload_n 2, 1) := by decide +kernel
theorem dX10_shortest_69 : decode cX10_shortest 69 = .ok (.tableswitch 78 0 3 #[31, 39, 47, 55], 31) := by decide +kernel
theorem dX10_shortest_100 : decode cX10_shortest 100 = .ok (.aload_n 0, 1) := by decide +kernel
theorem dX10_shortest_101 : decode cX10_shortest 101 = .ok (.getfield 58, 3) := by decide +kernel
theorem dX10_shortest_104 : decode cX10_shortest 104 = .ok (.getfield 324, 3) := by decide +kernel
theorem dX10_shortest_107 : decode cX10_shortest 107 = .ok (.ireturn, 1) := by decide +kernel
theorem dX10_shortest_108 : decode cX10_shortest 108 = .ok (.aload_n 0, 1) := by decide +kernel
theorem dX10_shortest_109 : decode cX10_shortest 109 = .ok (.getfield 58, 3) := by decide +kernel
theorem dX10_shortest_112 : decode cX10_shortest 112 = .ok (.getfield 327, 3) := by decide +kernel
theorem dX10_shortest_115 : decode cX10_shortest 115 = .ok (.ireturn, 1) := by decide +kernel
theorem dX10_shortest_116 : decode cX10_shortest 116 = .ok (.aload_n 0, 1) := by decide +kernel
theorem dX10_shortest_117 : decode cX10_shortest 117 = .ok (.getfield 58, 3) := by decide +kernel
theorem dX10_shortest_120 : decode cX10_shortest 120 = .ok (.getfield 330, 3) := by decide +kernel
theorem dX10_shortest_123 : decode cX10_shortest 123 = .ok (.ireturn, 1) := by decide +kernel
theorem dX10_shortest_124 : decode cX10_shortest 124 = .ok (.aload_n 0, 1) := by decide +kernel
theorem dX10_shortest_125 : decode cX10_shortest 125 = .ok (.getfield 58, 3) := by decide +kernel
theorem dX10_shortest_128 : decode cX10_shortest 128 = .ok (.getfield 327, 3) := by decide +kernel
theorem dX10_shortest_131 : decode cX10_shortest 131 = .ok (.ifCond .ne 8, 3) := by decide +kernel
theorem dX10_shortest_134 : decode cX10_shortest 134 = .ok (.bipush (-2), 2) := by decide +kernel
theorem dX10_shortest_136 : decode cX10_shortest 136 = .ok (.goto 10, 3) := by decide +kernel
theorem dX10_shortest_139 : decode cX10_shortest 139 = .ok (.aload_n 0, 1) := by decide +kernel
theorem dX10_shortest_140 : decode cX10_shortest 140 = .ok (.getfield 58, 3) := by decide +kernel
theorem dX10_shortest_143 : decode cX10_shortest 143 = .ok (.getfield 333, 3) := by decide +kernel
theorem dX10_shortest_146 : decode cX10_shortest 146 = .ok (.ireturn, 1) := by decide +kernel
theorem dX10_shortest_147 : decode cX10_shortest 147 = .ok (.aload_n 0, 1) := by decide +kernel
theorem dX10_shortest_148 : decode cX10_shortest 148 = .ok (.getfield 58, 3) := by decide +kernel
theorem dX10_shortest_151 : decode cX10_shortest 151 = .ok (.getfield 336, 3) := by decide +kernel
theorem dX10_shortest_154 : decode cX10_shortest 154 = .ok (.ireturn, 1) := by decide +kernel
theorem dX10_whoIsWho_0 : decode cX10_whoIsWho 0 = .ok (.aload_n 0, 1) := by decide +kernel
theorem dX10_whoIsWho_1 : decode cX10_whoIsWho 1 = .ok (.iload_n 1, 1) := by decide +kernel
theorem dX10_whoIsWho_2 : decode cX10_whoIsWho 2 = .ok (.bipush 6, 2) := by decide +kernel
theorem dX10_whoIsWho_4 : decode cX10_whoIsWho 4 = .ok (.invokevirtual 120, 3) := by decide +kernel
theorem dX10_whoIsWho_7 : decode cX10_whoIsWho 7 = .ok (.ifCond .eq 57, 3) := by decide +kernel
theorem dX10_whoIsWho_10 : decode cX10_whoIsWho 10 = .ok (.iload_n 1, 1) := by decide +kernel
theorem dX10_whoIsWho_11 : decode cX10_whoIsWho 11 = .ok (.iconst 2, 1) := by decide +kernel
theorem dX10_whoIsWho_12 : decode cX10_whoIsWho 12 = .ok (.if_icmp .lt 52, 3) := by decide +kernel
theorem dX10_whoIsWho_15 : decode cX10_whoIsWho 15 = .ok (.iload_n 2, 1) := by decide +kernel
theorem dX10_whoIsWho_16 : decode cX10_whoIsWho 16 = .ok (.aload_n 0, 1) := by decide +kernel
theorem dX10_whoIsWho_17 : decode cX10_whoIsWho 17 = .ok (.getfield 10, 3) := by decide +kernel
theorem dX10_whoIsWho_20 : decode cX10_whoIsWho 20 = .ok (.getfield 99, 3) := by decide +kernel
theorem dX10_whoIsWho_23 : decode cX10_whoIsWho 23 = .ok (.iconst (-1), 1) := by decide +kernel
theorem dX10_whoIsWho_24 : decode cX10_whoIsWho 24 = .ok (.ixor, 1) := by decide +kernel
theorem dX10_whoIsWho_25 : decode cX10_whoIsWho 25 = .ok (.iand, 1) := by decide +kernel
theorem dX10_whoIsWho_26 : decode cX10_whoIsWho 26 = .ok (.ifCond .ne 38, 3) := by decide +kernel
theorem dX10_whoIsWho_29 : decode cX10_whoIsWho 29 = .ok (.iload_n 2, 1) := by decide +kernel
theorem dX10_whoIsWho_30 : decode cX10_whoIsWho 30 = .ok (.invokestatic 150, 3) := by decide +kernel
theorem dX10_whoIsWho_33 : decode cX10_whoIsWho 33 = .ok (.iload_n 1, 1) := by decide +kernel
theorem dX10_whoIsWho_34 : decode cX10_whoIsWho 34 = .ok (.if_icmp .ne 30, 3) := by decide +kernel
theorem dX10_whoIsWho_37 : decode cX10_whoIsWho 37 = .ok (.aload_n 0, 1) := by decide +kernel
theorem dX10_whoIsWho_38 : decode cX10_whoIsWho 38 = .ok (.iload_n 3, 1) := by decide +kernel
theorem dX10_whoIsWho_39 : decode cX10_whoIsWho 39 = .ok (.invokevirtual 182, 3) := by decide +kernel
theorem dX10_whoIsWho_42 : decode cX10_whoIsWho 42 = .ok (.ifCond .eq 22, 3) := by decide +kernel
theorem dX10_whoIsWho_45 : decode cX10_whoIsWho 45 = .ok (.iload 4, 2) := by decide +kernel
theorem dX10_whoIsWho_47 : decode cX10_whoIsWho 47 = .ok (.bipush 100, 2) := by decide +kernel
theorem dX10_whoIsWho_49 : decode cX10_whoIsWho 49 = .ok (.if_icmp .eq 17, 3) := by decide +kernel
theorem dX10_whoIsWho_52 : decode cX10_whoIsWho 52 = .ok (.aload_n 0, 1) := by decide +kernel
theorem dX10_whoIsWho_53 : decode cX10_whoIsWho 53 = .ok (.getfield 10, 3) := by decide +kernel
theorem dX10_whoIsWho_56 : decode cX10_whoIsWho 56 = .ok (.iload 4, 2) := by decide +kernel
theorem dX10_whoIsWho_58 : decode cX10_whoIsWho 58 = .ok (.invokevirtual 106, 3) := by decide +kernel
theorem dX10_whoIsWho_61 : decode cX10_whoIsWho 61 = .ok (.ifCond .ne 5, 3) := by decide +kernel
theorem dX10_whoIsWho_64 : decode cX10_whoIsWho 64 = .ok (.iconst (-1), 1) := by decide +kernel
theorem dX10_whoIsWho_65 : decode cX10_whoIsWho 65 = .ok (.ireturn, 1) := by decide +kernel
theorem dX10_whoIsWho_66 : decode cX10_whoIsWho 66 = .ok (.iload 4, 2) := by decide +kernel
theorem dX10_whoIsWho_68 : decode cX10_whoIsWho 68 = .ok (.bipush 100, 2) := by decide +kernel
theorem dX10_whoIsWho_70 : decode cX10_whoIsWho 70 = .ok (.if_icmp .eq 14, 3) := by decide +kernel
theorem dX10_whoIsWho_73 : decode cX10_whoIsWho 73 = .ok (.iload_n 2, 1) := by decide +kernel
theorem dX10_whoIsWho_74 : decode cX10_whoIsWho 74 = .ok (.iload 4, 2) := by decide +kernel
theorem dX10_whoIsWho_76 : decode cX10_whoIsWho 76 = .ok (.ishr, 1) := by decide +kernel
theorem dX10_whoIsWho_77 : decode cX10_whoIsWho 77 = .ok (.iconst 1, 1) := by decide +kernel
theorem dX10_whoIsWho_78 : decode cX10_whoIsWho 78 = .ok (.iand, 1) := by decide +kernel
theorem dX10_whoIsWho_79 : decode cX10_whoIsWho 79 = .ok (.ifCond .ne 5, 3) := by decide +kernel
theorem dX10_whoIsWho_82 : decode cX10_whoIsWho 82 = .ok (.iconst (-1), 1) := by decide +kernel
theorem dX10_whoIsWho_83 : decode cX10_whoIsWho 83 = .ok (.ireturn, 1) := by decide +kernel
theorem dX10_whoIsWho_84 : decode cX10_whoIsWho 84 = .ok (.aload_n 0, 1) := by decide +kernel
theorem dX10_whoIsWho_85 : decode cX10_whoIsWho 85 = .ok (.iconst 0, 1) := by decide +kernel
theorem dX10_whoIsWho_86 : decode cX10_whoIsWho 86 = .ok (.putfield 113, 3) := by decide +kernel
theorem dX10_whoIsWho_89 : decode cX10_whoIsWho 89 = .ok (.aload_n 0, 1) := by decide +kernel
theorem dX10_whoIsWho_90 : decode cX10_whoIsWho 90 = .ok (.iload_n 1, 1) := by decide +kernel
theorem dX10_whoIsWho_91 : decode cX10_whoIsWho 91 = .ok (.invokevirtual 337, 3) := by decide +kernel
theorem dX10_whoIsWho_94 : decode cX10_whoIsWho 94 = .ok (.ifCond .ne 12, 3) := by decide +kernel
theorem dX10_whoIsWho_97 : decode cX10_whoIsWho 97 = .ok (.aload_n 0, 1) := by decide +kernel
theorem dX10_whoIsWho_98 : decode cX10_whoIsWho 98 = .ok (.iload_n 2, 1) := by decide +kernel
theorem dX10_whoIsWho_99 : decode cX10_whoIsWho 99 = .ok (.iload_n 3, 1) := by decide +kernel
theorem dX10_whoIsWho_100 : decode cX10_whoIsWho 100 = .ok (.invokevirtual 340, 3) := by decide +kernel
theorem dX10_whoIsWho_103 : decode cX10_whoIsWho 103 = .ok (.ifCond .ne 6, 3) := by decide +kernel
theorem dX10_whoIsWho_106 : decode cX10_whoIsWho 106 = .ok (.bipush (-3), 2) := by decide +kernel
theorem dX10_whoIsWho_108 : decode cX10_whoIsWho 108 = .ok (.ireturn, 1) := by decide +kernel
theorem dX10_whoIsWho_109 : decode cX10_whoIsWho 109 = .ok (.aload_n 0, 1) := by decide +kernel
theorem dX10_whoIsWho_110 : decode cX10_whoIsWho 110 = .ok (.getfield 65, 3) := by decide +kernel
theorem dX10_whoIsWho_113 : decode cX10_whoIsWho 113 = .ok (.aload_n 0, 1) := by decide +kernel
theorem dX10_whoIsWho_114 : decode cX10_whoIsWho 114 = .ok (.getfield 10, 3) := by decide +kernel
theorem dX10_whoIsWho_117 : decode cX10_whoIsWho 117 = .ok (.aload_n 0, 1) := by decide +kernel
theorem dX10_whoIsWho_118 : decode cX10_whoIsWho 118 = .ok (.getfield 19, 3) := by decide +kernel
theorem dX10_whoIsWho_121 : decode cX10_whoIsWho 121 = .ok (.iload_n 2, 1) := by decide +kernel
theorem dX10_whoIsWho_122 : decode cX10_whoIsWho 122 = .ok (.iload_n 3, 1) := by decide +kernel
theorem dX10_whoIsWho_123 : decode cX10_whoIsWho 123 = .ok (.invokevirtual 343, 3) := by decide +kernel
theorem dX10_whoIsWho_126 : decode cX10_whoIsWho 126 = .ok (.iload 4, 2) := by decide +kernel
theorem dX10_whoIsWho_128 : decode cX10_whoIsWho 128 = .ok (.bipush 100, 2) := by decide +kernel
theorem dX10_whoIsWho_130 : decode cX10_whoIsWho 130 = .ok (.if_icmp .ne 11, 3) := by decide +kernel
theorem dX10_whoIsWho_133 : decode cX10_whoIsWho 133 = .ok (.aload_n 0, 1) := by decide +kernel
theorem dX10_whoIsWho_134 : decode cX10_whoIsWho 134 = .ok (.getfield 65, 3) := by decide +kernel
theorem dX10_whoIsWho_137 : decode cX10_whoIsWho 137 = .ok (.getfield 347, 3) := by decide +kernel
theorem dX10_whoIsWho_140 : decode cX10_whoIsWho 140 = .ok (.ireturn, 1) := by decide +kernel
theorem dX10_whoIsWho_141 : decode cX10_whoIsWho 141 = .ok (.aload_n 0, 1) := by decide +kernel
theorem dX10_whoIsWho_142 : decode cX10_whoIsWho 142 = .ok (.getfield 65, 3) := by decide +kernel
theorem dX10_whoIsWho_145 : decode cX10_whoIsWho 145 = .ok (.getfield 347, 3) := by decide +kernel
theorem dX10_whoIsWho_148 : decode cX10_whoIsWho 148 = .ok (.ifCond .ne 8, 3) := by decide +kernel
theorem dX10_whoIsWho_151 : decode cX10_whoIsWho 151 = .ok (.bipush (-2), 2) := by decide +kernel
theorem dX10_whoIsWho_153 : decode cX10_whoIsWho 153 = .ok (.goto 13, 3) := by decide +kernel
theorem dX10_whoIsWho_156 : decode cX10_whoIsWho 156 = .ok (.aload_n 0, 1) := by decide +kernel
theorem dX10_whoIsWho_157 : decode cX10_whoIsWho 157 = .ok (.getfield 65, 3) := by decide +kernel
theorem dX10_whoIsWho_160 : decode cX10_whoIsWho 160 = .ok (.getfield 349, 3) := by decide +kernel
theorem dX10_whoIsWho_163 : decode cX10_whoIsWho 163 = .ok (.iload 4, 2) := by decide +kernel
theorem dX10_whoIsWho_165 : decode cX10_whoIsWho 165 = .ok (.iaload, 1) := by decide +kernel
theorem dX10_whoIsWho_166 : decode cX10_whoIsWho 166 = .ok (.ireturn, 1) := by decide +kernel
theorem dX10_hasAgeAbove_0 : decode cX10_hasAgeAbove 0 = .ok (.iconst 0, 1) := by decide +kernel
theorem dX10_hasAgeAbove_1 : decode cX10_hasAgeAbove 1 = .ok (.istore_n 2, 1) := by decide +kernel
theorem dX10_hasAgeAbove_2 : decode cX10_hasAgeAbove 2 = .ok (.iload_n 2, 1) := by decide +kernel
theorem dX10_hasAgeAbove_3 : decode cX10_hasAgeAbove 3 = .ok (.iload_n 1, 1) := by decide +kernel
theorem dX10_hasAgeAbove_4 : decode cX10_hasAgeAbove 4 = .ok (.if_icmp .ge 29, 3) := by decide +kernel
theorem dX10_hasAgeAbove_7 : decode cX10_hasAgeAbove 7 = .ok (.iload_n 2, 1) := by decide +kernel
theorem dX10_hasAgeAbove_8 : decode cX10_hasAgeAbove 8 = .ok (.sipush 260, 3) := by decide +kernel
theorem dX10_hasAgeAbove_11 : decode cX10_hasAgeAbove 11 = .ok (.if_icmp .ge 22, 3) := by decide +kernel
theorem dX10_hasAgeAbove_14 : decode cX10_hasAgeAbove 14 = .ok (.aload_n 0, 1) := by decide +kernel
theorem dX10_hasAgeAbove_15 : decode cX10_hasAgeAbove 15 = .ok (.getfield 19, 3) := by decide +kernel
theorem dX10_hasAgeAbove_18 : decode cX10_hasAgeAbove 18 = .ok (.iload_n 2, 1) := by decide +kernel
theorem dX10_hasAgeAbove_19 : decode cX10_hasAgeAbove 19 = .ok (.iaload, 1) := by decide +kernel
theorem dX10_hasAgeAbove_20 : decode cX10_hasAgeAbove 20 = .ok (.bipush 99, 2) := by decide +kernel
theorem dX10_hasAgeAbove_22 : decode cX10_hasAgeAbove 22 = .ok (.if_icmp .le 5, 3) := by decide +kernel
theorem dX10_hasAgeAbove_25 : decode cX10_hasAgeAbove 25 = .ok (.iconst 1, 1) := by decide +kernel
theorem dX10_hasAgeAbove_26 : decode cX10_hasAgeAbove 26 = .ok (.ireturn, 1) := by decide +kernel
theorem dX10_hasAgeAbove_27 : decode cX10_hasAgeAbove 27 = .ok (.iinc 2 1, 3) := by decide +kernel
theorem dX10_hasAgeAbove_30 : decode cX10_hasAgeAbove 30 = .ok (.goto (-28), 3) := by decide +kernel
theorem dX10_hasAgeAbove_33 : decode cX10_hasAgeAbove 33 = .ok (.iconst 0, 1) := by decide +kernel
theorem dX10_hasAgeAbove_34 : decode cX10_hasAgeAbove 34 = .ok (.ireturn, 1) := by decide +kernel
theorem dX10_standAlone_0 : decode cX10_standAlone 0 = .ok (.iconst 0, 1) := by decide +kernel
theorem dX10_standAlone_1 : decode cX10_standAlone 1 = .ok (.istore_n 3, 1) := by decide +kernel
theorem dX10_standAlone_2 : decode cX10_standAlone 2 = .ok (.iload_n 3, 1) := by decide +kernel
theorem dX10_standAlone_3 : decode cX10_standAlone 3 = .ok (.bipush 10, 2) := by decide +kernel
theorem dX10_standAlone_5 : decode cX10_standAlone 5 = .ok (.if_icmp .ge 38, 3) := by decide +kernel
theorem dX10_standAlone_8 : decode cX10_standAlone 8 = .ok (.iload_n 2, 1) := by decide +kernel
theorem dX10_standAlone_9 : decode cX10_standAlone 9 = .ok (.iload_n 3, 1) := by decide +kernel
theorem dX10_standAlone_10 : decode cX10_standAlone 10 = .ok (.ishr, 1) := by decide +kernel
theorem dX10_standAlone_11 : decode cX10_standAlone 11 = .ok (.iconst 1, 1) := by decide +kernel
theorem dX10_standAlone_12 : decode cX10_standAlone 12 = .ok (.iand, 1) := by decide +kernel
theorem dX10_standAlone_13 : decode cX10_standAlone 13 = .ok (.ifCond .eq 24, 3) := by decide +kernel
theorem dX10_standAlone_16 : decode cX10_standAlone 16 = .ok (.aload_n 0, 1) := by decide +kernel
theorem dX10_standAlone_17 : decode cX10_standAlone 17 = .ok (.getfield 10, 3) := by decide +kernel
theorem dX10_standAlone_20 : decode cX10_standAlone 20 = .ok (.getfield 138, 3) := by decide +kernel
theorem dX10_standAlone_23 : decode cX10_standAlone 23 = .ok (.iload_n 3, 1) := by decide +kernel
theorem dX10_standAlone_24 : decode cX10_standAlone 24 = .ok (.aaload, 1) := by decide +kernel
theorem dX10_standAlone_25 : decode cX10_standAlone 25 = .ok (.getfield 352, 3) := by decide +kernel
theorem dX10_standAlone_28 : decode cX10_standAlone 28 = .ok (.iload_n 1, 1) := by decide +kernel
theorem dX10_standAlone_29 : decode cX10_standAlone 29 = .ok (.iconst (-1), 1) := by decide +kernel
theorem dX10_standAlone_30 : decode cX10_standAlone 30 = .ok (.ixor, 1) := by decide +kernel
theorem dX10_standAlone_31 : decode cX10_standAlone 31 = .ok (.iand, 1) := by decide +kernel
theorem dX10_standAlone_32 : decode cX10_standAlone 32 = .ok (.ifCond .eq 5, 3) := by decide +kernel
theorem dX10_standAlone_35 : decode cX10_standAlone 35 = .ok (.iconst 0, 1) := by decide +kernel
theorem dX10_standAlone_36 : decode cX10_standAlone 36 = .ok (.ireturn, 1) := by decide +kernel
theorem dX10_standAlone_37 : decode cX10_standAlone 37 = .ok (.iinc 3 1, 3) := by decide +kernel
theorem dX10_standAlone_40 : decode cX10_standAlone 40 = .ok (.goto (-38), 3) := by decide +kernel
theorem dX10_standAlone_43 : decode cX10_standAlone 43 = .ok (.iconst 1, 1) := by decide +kernel
theorem dX10_standAlone_44 : decode cX10_standAlone 44 = .ok (.ireturn, 1) := by decide +kernel
theorem dX10_tree_0 : decode cX10_tree 0 = .ok (.aload_n 0, 1) := by decide +kernel
theorem dX10_tree_1 : decode cX10_tree 1 = .ok (.getfield 10, 3) := by decide +kernel
theorem dX10_tree_4 : decode cX10_tree 4 = .ok (.iload_n 1, 1) := by decide +kernel
theorem dX10_tree_5 : decode cX10_tree 5 = .ok (.invokevirtual 106, 3) := by decide +kernel
theorem dX10_tree_8 : decode cX10_tree 8 = .ok (.ifCond .eq 12, 3) := by decide +kernel
theorem dX10_tree_11 : decode cX10_tree 11 = .ok (.iload_n 2, 1) := by decide +kernel
theorem dX10_tree_12 : decode cX10_tree 12 = .ok (.ifCond .lt 8, 3) := by decide +kernel
theorem dX10_tree_15 : decode cX10_tree 15 = .ok (.iload_n 2, 1) := by decide +kernel
theorem dX10_tree_16 : decode cX10_tree 16 = .ok (.iconst 1, 1) := by decide +kernel
theorem dX10_tree_17 : decode cX10_tree 17 = .ok (.if_icmp .le 5, 3) := by decide +kernel
theorem dX10_tree_20 : decode cX10_tree 20 = .ok (.iconst (-1), 1) := by decide +kernel
theorem dX10_tree_21 : decode cX10_tree 21 = .ok (.ireturn, 1) := by decide +kernel
theorem dX10_tree_22 : decode cX10_tree 22 = .ok (.aload_n 0, 1) := by decide +kernel
theorem dX10_tree_23 : decode cX10_tree 23 = .ok (.getfield 72, 3) := by decide +kernel
theorem dX10_tree_26 : decode cX10_tree 26 = .ok (.aload_n 0, 1) := by decide +kernel
theorem dX10_tree_27 : decode cX10_tree 27 = .ok (.getfield 10, 3) := by decide +kernel
theorem dX10_tree_30 : decode cX10_tree 30 = .ok (.invokevirtual 353, 3) := by decide +kernel
theorem dX10_tree_33 : decode cX10_tree 33 = .ok (.ifCond .ne 6, 3) := by decide +kernel
theorem dX10_tree_36 : decode cX10_tree 36 = .ok (.bipush (-2), 2) := by decide +kernel
theorem dX10_tree_38 : decode cX10_tree 38 = .ok (.ireturn, 1) := by decide +kernel
theorem dX10_tree_39 : decode cX10_tree 39 = .ok (.iload_n 2, 1) := by decide +kernel
theorem dX10_tree_40 : decode cX10_tree 40 = .ok (.ifCond .ne 15, 3) := by decide +kernel
theorem dX10_tree_43 : decode cX10_tree 43 = .ok (.aload_n 0, 1) := by decide +kernel
theorem dX10_tree_44 : decode cX10_tree 44 = .ok (.getfield 72, 3) := by decide +kernel
theorem dX10_tree_47 : decode cX10_tree 47 = .ok (.getfield 357, 3) := by decide +kernel
theorem dX10_tree_50 : decode cX10_tree 50 = .ok (.iload_n 1, 1) := by decide +kernel
theorem dX10_tree_51 : decode cX10_tree 51 = .ok (.iaload, 1) := by decide +kernel
theorem dX10_tree_52 : decode cX10_tree 52 = .ok (.goto 12, 3) := by decide +kernel
theorem dX10_tree_55 : decode cX10_tree 55 = .ok (.aload_n 0, 1) := by decide +kernel
theorem dX10_tree_56 : decode cX10_tree 56 = .ok (.getfield 72, 3) := by decide +kernel
theorem dX10_tree_59 : decode cX10_tree 59 = .ok (.getfield 358, 3) := by decide +kernel
theorem dX10_tree_62 : decode cX10_tree 62 = .ok (.iload_n 1, 1) := by decide +kernel
theorem dX10_tree_63 : decode cX10_tree 63 = .ok (.iaload, 1) := by decide +kernel
theorem dX10_tree_64 : decode cX10_tree 64 = .ok (.ireturn, 1) := by decide +kernel
theorem dX10_tyres_0 : decode cX10_tyres 0 = .ok (.aload_n 0, 1) := by decide +kernel
theorem dX10_tyres_1 : decode cX10_tyres 1 = .ok (.iload_n 1, 1) := by decide +kernel
theorem dX10_tyres_2 : decode cX10_tyres 2 = .ok (.bipush 8, 2) := by decide +kernel
theorem dX10_tyres_4 : decode cX10_tyres 4 = .ok (.invokevirtual 120, 3) := by decide +kernel
theorem dX10_tyres_7 : decode cX10_tyres 7 = .ok (.ifCond .eq 14, 3) := by decide +kernel
theorem dX10_tyres_10 : decode cX10_tyres 10 = .ok (.iload_n 2, 1) := by decide +kernel
theorem dX10_tyres_11 : decode cX10_tyres 11 = .ok (.iconst 1, 1) := by decide +kernel
theorem dX10_tyres_12 : decode cX10_tyres 12 = .ok (.if_icmp .lt 9, 3) := by decide +kernel
theorem dX10_tyres_15 : decode cX10_tyres 15 = .ok (.iload_n 2, 1) := by decide +kernel
theorem dX10_tyres_16 : decode cX10_tyres 16 = .ok (.bipush 8, 2) := by decide +kernel
theorem dX10_tyres_18 : decode cX10_tyres 18 = .ok (.if_icmp .le 5, 3) := by decide +kernel
theorem dX10_tyres_21 : decode cX10_tyres 21 = .ok (.iconst (-1), 1) := by decide +kernel
theorem dX10_tyres_22 : decode cX10_tyres 22 = .ok (.ireturn, 1) := by decide +kernel
theorem dX10_tyres_23 : decode cX10_tyres 23 = .ok (.aload_n 0, 1) := by decide +kernel
theorem dX10_tyres_24 : decode cX10_tyres 24 = .ok (.iconst 0, 1) := by decide +kernel
theorem dX10_tyres_25 : decode cX10_tyres 25 = .ok (.putfield 113, 3) := by decide +kernel
theorem dX10_tyres_28 : decode cX10_tyres 28 = .ok (.iconst 0, 1) := by decide +kernel
theorem dX10_tyres_29 : decode cX10_tyres 29 = .ok (.istore_n 3, 1) := by decide +kernel
theorem dX10_tyres_30 : decode cX10_tyres 30 = .ok (.iload_n 3, 1) := by decide +kernel
theorem dX10_tyres_31 : decode cX10_tyres 31 = .ok (.iload_n 1, 1) := by decide +kernel
theorem dX10_tyres_32 : decode cX10_tyres 32 = .ok (.if_icmp .ge 28, 3) := by decide +kernel
theorem dX10_tyres_35 : decode cX10_tyres 35 = .ok (.iload_n 3, 1) := by decide +kernel
theorem dX10_tyres_36 : decode cX10_tyres 36 = .ok (.sipush 260, 3) := by decide +kernel
theorem dX10_tyres_39 : decode cX10_tyres 39 = .ok (.if_icmp .ge 21, 3) := by decide +kernel
theorem dX10_tyres_42 : decode cX10_tyres 42 = .ok (.aload_n 0, 1) := by decide +kernel
theorem dX10_tyres_43 : decode cX10_tyres 43 = .ok (.getfield 19, 3) := by decide +kernel
theorem dX10_tyres_46 : decode cX10_tyres 46 = .ok (.iload_n 3, 1) := by decide +kernel
theorem dX10_tyres_47 : decode cX10_tyres 47 = .ok (.iaload, 1) := by decide +kernel
theorem dX10_tyres_48 : decode cX10_tyres 48 = .ok (.ifCond .ne 6, 3) := by decide +kernel
theorem dX10_tyres_51 : decode cX10_tyres 51 = .ok (.bipush (-2), 2) := by decide +kernel
theorem dX10_tyres_53 : decode cX10_tyres 53 = .ok (.ireturn, 1) := by decide +kernel
theorem dX10_tyres_54 : decode cX10_tyres 54 = .ok (.iinc 3 1, 3) := by decide +kernel
theorem dX10_tyres_57 : decode cX10_tyres 57 = .ok (.goto (-27), 3) := by decide +kernel
theorem dX10_tyres_60 : decode cX10_tyres 60 = .ok (.iload_n 1, 1) := by decide +kernel
theorem dX10_tyres_61 : decode cX10_tyres 61 = .ok (.iload_n 2, 1) := by decide +kernel
theorem dX10_tyres_62 : decode cX10_tyres 62 = .ok (.if_icmp .ge 6, 3) := by decide +kernel
theorem dX10_tyres_65 : decode cX10_tyres 65 = .ok (.bipush (-3), 2) := by decide +kernel
theorem dX10_tyres_67 : decode cX10_tyres 67 = .ok (.ireturn, 1) := by decide +kernel
theorem dX10_tyres_68 : decode cX10_tyres 68 = .ok (.sipush 2040, 3) := by decide +kernel
theorem dX10_tyres_71 : decode cX10_tyres 71 = .ok (.istore_n 3, 1) := by decide +kernel
theorem dX10_tyres_72 : decode cX10_tyres 72 = .ok (.iload_n 3, 1) := by decide +kernel
theorem dX10_tyres_73 : decode cX10_tyres 73 = .ok (.ifCond .le 23, 3) := by decide +kernel
theorem dX10_tyres_76 : decode cX10_tyres 76 = .ok (.aload_n 0, 1) := by decide +kernel
theorem dX10_tyres_77 : decode cX10_tyres 77 = .ok (.iload_n 1, 1) := by decide +kernel
theorem dX10_tyres_78 : decode cX10_tyres 78 = .ok (.iload_n 3, 1) := by decide +kernel
theorem dX10_tyres_79 : decode cX10_tyres 79 = .ok (.invokevirtual 359, 3) := by decide +kernel
theorem dX10_tyres_82 : decode cX10_tyres 82 = .ok (.iload_n 2, 1) := by decide +kernel
theorem dX10_tyres_83 : decode cX10_tyres 83 = .ok (.iload_n 3, 1) := by decide +kernel
theorem dX10_tyres_84 : decode cX10_tyres 84 = .ok (.imul, 1) := by decide +kernel
theorem dX10_tyres_85 : decode cX10_tyres 85 = .ok (.if_icmp .lt 5, 3) := by decide +kernel
theorem dX10_tyres_88 : decode cX10_tyres 88 = .ok (.iload_n 3, 1) := by decide +kernel
theorem dX10_tyres_89 : decode cX10_tyres 89 = .ok (.ireturn, 1) := by decide +kernel
theorem dX10_tyres_90 : decode cX10_tyres 90 = .ok (.iinc 3 (-1), 3) := by decide +kernel
theorem dX10_tyres_93 : decode cX10_tyres 93 = .ok (.goto (-21), 3) := by decide +kernel
theorem dX10_tyres_96 : decode cX10_tyres 96 = .ok (.iconst 0, 1) := by decide +kernel
theorem dX10_tyres_97 : decode cX10_tyres 97 = .ok (.ireturn, 1) := by decide +kernel
theorem dX10_milesInAll_0 : decode cX10_milesInAll 0 = .ok (.iconst 0, 1) := by decide +kernel
theorem dX10_milesInAll_1 : decode cX10_milesInAll 1 = .ok (.istore_n 3, 1) := by decide +kernel
theorem dX10_milesInAll_2 : decode cX10_milesInAll 2 = .ok (.iconst 0, 1) := by decide +kernel
theorem dX10_milesInAll_3 : decode cX10_milesInAll 3 = .ok (.istore 4, 2) := by decide +kernel
theorem dX10_milesInAll_5 : decode cX10_milesInAll 5 = .ok (.iload 4, 2) := by decide +kernel
theorem dX10_milesInAll_7 : decode cX10_milesInAll 7 = .ok (.iload_n 1, 1) := by decide +kernel
theorem dX10_milesInAll_8 : decode cX10_milesInAll 8 = .ok (.if_icmp .ge 31, 3) := by decide +kernel
theorem dX10_milesInAll_11 : decode cX10_milesInAll 11 = .ok (.iload 4, 2) := by decide +kernel
theorem dX10_milesInAll_13 : decode cX10_milesInAll 13 = .ok (.sipush 260, 3) := by decide +kernel
theorem dX10_milesInAll_16 : decode cX10_milesInAll 16 = .ok (.if_icmp .ge 23, 3) := by decide +kernel
theorem dX10_milesInAll_19 : decode cX10_milesInAll 19 = .ok (.iload_n 3, 1) := by decide +kernel
theorem dX10_milesInAll_20 : decode cX10_milesInAll 20 = .ok (.aload_n 0, 1) := by decide +kernel
theorem dX10_milesInAll_21 : decode cX10_milesInAll 21 = .ok (.getfield 19, 3) := by decide +kernel
theorem dX10_milesInAll_24 : decode cX10_milesInAll 24 = .ok (.iload 4, 2) := by decide +kernel
theorem dX10_milesInAll_26 : decode cX10_milesInAll 26 = .ok (.iaload, 1) := by decide +kernel
theorem dX10_milesInAll_27 : decode cX10_milesInAll 27 = .ok (.iload_n 2, 1) := by decide +kernel
theorem dX10_milesInAll_28 : decode cX10_milesInAll 28 = .ok (.invokestatic 224, 3) := by decide +kernel
theorem dX10_milesInAll_31 : decode cX10_milesInAll 31 = .ok (.iadd, 1) := by decide +kernel
theorem dX10_milesInAll_32 : decode cX10_milesInAll 32 = .ok (.istore_n 3, 1) := by decide +kernel
theorem dX10_milesInAll_33 : decode cX10_milesInAll 33 = .ok (.iinc 4 1, 3) := by decide +kernel
theorem dX10_milesInAll_36 : decode cX10_milesInAll 36 = .ok (.goto (-31), 3) := by decide +kernel
theorem dX10_milesInAll_39 : decode cX10_milesInAll 39 = .ok (.iload_n 3, 1) := by decide +kernel
theorem dX10_milesInAll_40 : decode cX10_milesInAll 40 = .ok (.ireturn, 1) := by decide +kernel
theorem dX10_butts_0 : decode cX10_butts 0 = .ok (.iload_n 1, 1) := by decide +kernel
theorem dX10_butts_1 : decode cX10_butts 1 = .ok (.ifCond .lt 18, 3) := by decide +kernel
theorem dX10_butts_4 : decode cX10_butts 4 = .ok (.iload_n 1, 1) := by decide +kernel
theorem dX10_butts_5 : decode cX10_butts 5 = .ok (.bipush 20, 2) := by decide +kernel
theorem dX10_butts_7 : decode cX10_butts 7 = .ok (.if_icmp .gt 12, 3) := by decide +kernel
theorem dX10_butts_10 : decode cX10_butts 10 = .ok (.aload_n 0, 1) := by decide +kernel
theorem dX10_butts_11 : decode cX10_butts 11 = .ok (.getfield 113, 3) := by decide +kernel
theorem dX10_butts_14 : decode cX10_butts 14 = .ok (.bipush 6, 2) := by decide +kernel
theorem dX10_butts_16 : decode cX10_butts 16 = .ok (.if_icmp .ge 5, 3) := by decide +kernel
theorem dX10_butts_19 : decode cX10_butts 19 = .ok (.iconst (-1), 1) := by decide +kernel
theorem dX10_butts_20 : decode cX10_butts 20 = .ok (.ireturn, 1) := by decide +kernel
theorem dX10_butts_21 : decode cX10_butts 21 = .ok (.aload_n 0, 1) := by decide +kernel
theorem dX10_butts_22 : decode cX10_butts 22 = .ok (.iconst 0, 1) := by decide +kernel
theorem dX10_butts_23 : decode cX10_butts 23 = .ok (.putfield 113, 3) := by decide +kernel
theorem dX10_butts_26 : decode cX10_butts 26 = .ok (.aload_n 0, 1) := by decide +kernel
theorem dX10_butts_27 : decode cX10_butts 27 = .ok (.getfield 79, 3) := by decide +kernel
theorem dX10_butts_30 : decode cX10_butts 30 = .ok (.aload_n 0, 1) := by decide +kernel
theorem dX10_butts_31 : decode cX10_butts 31 = .ok (.getfield 19, 3) := by decide +kernel
theorem dX10_butts_34 : decode cX10_butts 34 = .ok (.invokevirtual 362, 3) := by decide +kernel
theorem dX10_butts_37 : decode cX10_butts 37 = .ok (.ifCond .eq 14, 3) := by decide +kernel
theorem dX10_butts_40 : decode cX10_butts 40 = .ok (.aload_n 0, 1) := by decide +kernel
theorem dX10_butts_41 : decode cX10_butts 41 = .ok (.getfield 79, 3) := by decide +kernel
theorem dX10_butts_44 : decode cX10_butts 44 = .ok (.iload_n 1, 1) := by decide +kernel
theorem dX10_butts_45 : decode cX10_butts 45 = .ok (.invokevirtual 365, 3) := by decide +kernel
theorem dX10_butts_48 : decode cX10_butts 48 = .ok (.goto 5, 3) := by decide +kernel
theorem dX10_butts_51 : decode cX10_butts 51 = .ok (.bipush (-3), 2) := by decide +kernel
theorem dX10_butts_53 : decode cX10_butts 53 = .ok (.ireturn, 1) := by decide +kernel
theorem dX10_howOld_0 : decode cX10_howOld 0 = .ok (.iload_n 1, 1) := by decide +kernel
theorem dX10_howOld_1 : decode cX10_howOld 1 = .ok (.iconst 1, 1) := by decide +kernel
theorem dX10_howOld_2 : decode cX10_howOld 2 = .ok (.if_icmp .lt 37, 3) := by decide +kernel
theorem dX10_howOld_5 : decode cX10_howOld 5 = .ok (.iload_n 1, 1) := by decide +kernel
theorem dX10_howOld_6 : decode cX10_howOld 6 = .ok (.bipush 6, 2) := by decide +kernel
theorem dX10_howOld_8 : decode cX10_howOld 8 = .ok (.if_icmp .gt 31, 3) := by decide +kernel
theorem dX10_howOld_11 : decode cX10_howOld 11 = .ok (.iload_n 2, 1) := by decide +kernel
theorem dX10_howOld_12 : decode cX10_howOld 12 = .ok (.ifCond .lt 27, 3) := by decide +kernel
theorem dX10_howOld_15 : decode cX10_howOld 15 = .ok (.iload_n 2, 1) := by decide +kernel
theorem dX10_howOld_16 : decode cX10_howOld 16 = .ok (.sipush 400, 3) := by decide +kernel
theorem dX10_howOld_19 : decode cX10_howOld 19 = .ok (.if_icmp .gt 20, 3) := by decide +kernel
theorem dX10_howOld_22 : decode cX10_howOld 22 = .ok (.iload_n 3, 1) := by decide +kernel
theorem dX10_howOld_23 : decode cX10_howOld 23 = .ok (.ifCond .lt 16, 3) := by decide +kernel
theorem dX10_howOld_26 : decode cX10_howOld 26 = .ok (.iload 4, 2) := by decide +kernel
theorem dX10_howOld_28 : decode cX10_howOld 28 = .ok (.bipush 99, 2) := by decide +kernel
theorem dX10_howOld_30 : decode cX10_howOld 30 = .ok (.if_icmp .gt 9, 3) := by decide +kernel
theorem dX10_howOld_33 : decode cX10_howOld 33 = .ok (.iload_n 3, 1) := by decide +kernel
theorem dX10_howOld_34 : decode cX10_howOld 34 = .ok (.iload 4, 2) := by decide +kernel
theorem dX10_howOld_36 : decode cX10_howOld 36 = .ok (.if_icmp .le 7, 3) := by decide +kernel
theorem dX10_howOld_39 : decode cX10_howOld 39 = .ok (.ldc2_w 368, 3) := by decide +kernel
theorem dX10_howOld_42 : decode cX10_howOld 42 = .ok (.lreturn, 1) := by decide +kernel
theorem dX10_howOld_43 : decode cX10_howOld 43 = .ok (.sipush 401, 3) := by decide +kernel
theorem dX10_howOld_46 : decode cX10_howOld 46 = .ok (.istore 5, 2) := by decide +kernel
theorem dX10_howOld_48 : decode cX10_howOld 48 = .ok (.aload_n 0, 1) := by decide +kernel
theorem dX10_howOld_49 : decode cX10_howOld 49 = .ok (.getfield 86, 3) := by decide +kernel
theorem dX10_howOld_52 : decode cX10_howOld 52 = .ok (.lconst 0, 1) := by decide +kernel
theorem dX10_howOld_53 : decode cX10_howOld 53 = .ok (.invokestatic 370, 3) := by decide +kernel
theorem dX10_howOld_56 : decode cX10_howOld 56 = .ok (.aload_n 0, 1) := by decide +kernel
theorem dX10_howOld_57 : decode cX10_howOld 57 = .ok (.getfield 86, 3) := by decide +kernel
theorem dX10_howOld_60 : decode cX10_howOld 60 = .ok (.iconst 0, 1) := by decide +kernel
theorem dX10_howOld_61 : decode cX10_howOld 61 = .ok (.lconst 1, 1) := by decide +kernel
theorem dX10_howOld_62 : decode cX10_howOld 62 = .ok (.lastore, 1) := by decide +kernel
theorem dX10_howOld_63 : decode cX10_howOld 63 = .ok (.iload_n 3, 1) := by decide +kernel
theorem dX10_howOld_64 : decode cX10_howOld 64 = .ok (.istore 6, 2) := by decide +kernel
theorem dX10_howOld_66 : decode cX10_howOld 66 = .ok (.iload 6, 2) := by decide +kernel
theorem dX10_howOld_68 : decode cX10_howOld 68 = .ok (.iload 4, 2) := by decide +kernel
theorem dX10_howOld_70 : decode cX10_howOld 70 = .ok (.if_icmp .gt 74, 3) := by decide +kernel
theorem dX10_howOld_73 : decode cX10_howOld 73 = .ok (.iconst 1, 1) := by decide +kernel
theorem dX10_howOld_74 : decode cX10_howOld 74 = .ok (.istore 7, 2) := by decide +kernel
theorem dX10_howOld_76 : decode cX10_howOld 76 = .ok (.iload 7, 2) := by decide +kernel
theorem dX10_howOld_78 : decode cX10_howOld 78 = .ok (.iload_n 1, 1) := by decide +kernel
theorem dX10_howOld_79 : decode cX10_howOld 79 = .ok (.if_icmp .gt 59, 3) := by decide +kernel
theorem dX10_howOld_82 : decode cX10_howOld 82 = .ok (.iload 6, 2) := by decide +kernel
theorem dX10_howOld_84 : decode cX10_howOld 84 = .ok (.istore 8, 2) := by decide +kernel
theorem dX10_howOld_86 : decode cX10_howOld 86 = .ok (.iload 8, 2) := by decide +kernel
theorem dX10_howOld_88 : decode cX10_howOld 88 = .ok (.iload_n 2, 1) := by decide +kernel
theorem dX10_howOld_89 : decode cX10_howOld 89 = .ok (.if_icmp .gt 43, 3) := by decide +kernel
theorem dX10_howOld_92 : decode cX10_howOld 92 = .ok (.aload_n 0, 1) := by decide +kernel
theorem dX10_howOld_93 : decode cX10_howOld 93 = .ok (.getfield 86, 3) := by decide +kernel
theorem dX10_howOld_96 : decode cX10_howOld 96 = .ok (.iload 7, 2) := by decide +kernel
theorem dX10_howOld_98 : decode cX10_howOld 98 = .ok (.iload 5, 2) := by decide +kernel
theorem dX10_howOld_100 : decode cX10_howOld 100 = .ok (.imul, 1) := by decide +kernel
theorem dX10_howOld_101 : decode cX10_howOld 101 = .ok (.iload 8, 2) := by decide +kernel
theorem dX10_howOld_103 : decode cX10_howOld 103 = .ok (.iadd, 1) := by decide +kernel
theorem dX10_howOld_104 : decode cX10_howOld 104 = .ok (.dup2, 1) := by decide +kernel
theorem dX10_howOld_105 : decode cX10_howOld 105 = .ok (.laload, 1) := by decide +kernel
theorem dX10_howOld_106 : decode cX10_howOld 106 = .ok (.aload_n 0, 1) := by decide +kernel
theorem dX10_howOld_107 : decode cX10_howOld 107 = .ok (.getfield 86, 3) := by decide +kernel
theorem dX10_howOld_110 : decode cX10_howOld 110 = .ok (.iload 7, 2) := by decide +kernel
theorem dX10_howOld_112 : decode cX10_howOld 112 = .ok (.iconst 1, 1) := by decide +kernel
theorem dX10_howOld_113 : decode cX10_howOld 113 = .ok (.isub, 1) := by decide +kernel
theorem dX10_howOld_114 : decode cX10_howOld 114 = .ok (.iload 5, 2) := by decide +kernel
theorem dX10_howOld_116 : decode cX10_howOld 116 = .ok (.imul, 1) := by decide +kernel
theorem dX10_howOld_117 : decode cX10_howOld 117 = .ok (.iload 8, 2) := by decide +kernel
theorem dX10_howOld_119 : decode cX10_howOld 119 = .ok (.iadd, 1) := by decide +kernel
theorem dX10_howOld_120 : decode cX10_howOld 120 = .ok (.iload 6, 2) := by decide +kernel
theorem dX10_howOld_122 : decode cX10_howOld 122 = .ok (.isub, 1) := by decide +kernel
theorem dX10_howOld_123 : decode cX10_howOld 123 = .ok (.laload, 1) := by decide +kernel
theorem dX10_howOld_124 : decode cX10_howOld 124 = .ok (.ladd, 1) := by decide +kernel
theorem dX10_howOld_125 : decode cX10_howOld 125 = .ok (.lastore, 1) := by decide +kernel
theorem dX10_howOld_126 : decode cX10_howOld 126 = .ok (.iinc 8 1, 3) := by decide +kernel
theorem dX10_howOld_129 : decode cX10_howOld 129 = .ok (.goto (-43), 3) := by decide +kernel
theorem dX10_howOld_132 : decode cX10_howOld 132 = .ok (.iinc 7 1, 3) := by decide +kernel
theorem dX10_howOld_135 : decode cX10_howOld 135 = .ok (.goto (-59), 3) := by decide +kernel
theorem dX10_howOld_138 : decode cX10_howOld 138 = .ok (.iinc 6 1, 3) := by decide +kernel
theorem dX10_howOld_141 : decode cX10_howOld 141 = .ok (.goto (-75), 3) := by decide +kernel
theorem dX10_howOld_144 : decode cX10_howOld 144 = .ok (.aload_n 0, 1) := by decide +kernel
theorem dX10_howOld_145 : decode cX10_howOld 145 = .ok (.getfield 86, 3) := by decide +kernel
theorem dX10_howOld_148 : decode cX10_howOld 148 = .ok (.iload_n 1, 1) := by decide +kernel
theorem dX10_howOld_149 : decode cX10_howOld 149 = .ok (.iload 5, 2) := by decide +kernel
theorem dX10_howOld_151 : decode cX10_howOld 151 = .ok (.imul, 1) := by decide +kernel
theorem dX10_howOld_152 : decode cX10_howOld 152 = .ok (.iload_n 2, 1) := by decide +kernel
theorem dX10_howOld_153 : decode cX10_howOld 153 = .ok (.iadd, 1) := by decide +kernel
theorem dX10_howOld_154 : decode cX10_howOld 154 = .ok (.laload, 1) := by decide +kernel
theorem dX10_howOld_155 : decode cX10_howOld 155 = .ok (.lreturn, 1) := by decide +kernel
theorem dX10_plain_0 : decode cX10_plain 0 = .ok (.aload_n 0, 1) := by decide +kernel
theorem dX10_plain_1 : decode cX10_plain 1 = .ok (.getfield 10, 3) := by decide +kernel
theorem dX10_plain_4 : decode cX10_plain 4 = .ok (.iload_n 1, 1) := by decide +kernel
theorem dX10_plain_5 : decode cX10_plain 5 = .ok (.invokevirtual 373, 3) := by decide +kernel
theorem dX10_plain_8 : decode cX10_plain 8 = .ok (.ifCond .eq 13, 3) := by decide +kernel
theorem dX10_plain_11 : decode cX10_plain 11 = .ok (.iload_n 2, 1) := by decide +kernel
theorem dX10_plain_12 : decode cX10_plain 12 = .ok (.ifCond .lt 9, 3) := by decide +kernel
theorem dX10_plain_15 : decode cX10_plain 15 = .ok (.iload_n 2, 1) := by decide +kernel
theorem dX10_plain_16 : decode cX10_plain 16 = .ok (.bipush 6, 2) := by decide +kernel
theorem dX10_plain_18 : decode cX10_plain 18 = .ok (.if_icmp .le 5, 3) := by decide +kernel
theorem dX10_plain_21 : decode cX10_plain 21 = .ok (.iconst 0, 1) := by decide +kernel
theorem dX10_plain_22 : decode cX10_plain 22 = .ok (.ireturn, 1) := by decide +kernel
theorem dX10_plain_23 : decode cX10_plain 23 = .ok (.aload_n 0, 1) := by decide +kernel
theorem dX10_plain_24 : decode cX10_plain 24 = .ok (.getfield 10, 3) := by decide +kernel
theorem dX10_plain_27 : decode cX10_plain 27 = .ok (.getfield 138, 3) := by decide +kernel
theorem dX10_plain_30 : decode cX10_plain 30 = .ok (.iload_n 1, 1) := by decide +kernel
theorem dX10_plain_31 : decode cX10_plain 31 = .ok (.aaload, 1) := by decide +kernel
theorem dX10_plain_32 : decode cX10_plain 32 = .ok (.astore_n 3, 1) := by decide +kernel
theorem dX10_plain_33 : decode cX10_plain 33 = .ok (.iload_n 2, 1) := by decide +kernel
theorem dX10_plain_34 : decode cX10_plain 34 = .ok (.bipush 6, 2) := by decide +kernel
theorem dX10_plain_36 : decode cX10_plain 36 = .ok (.if_icmp .ne 10, 3) := by decide +kernel
theorem dX10_plain_39 : decode cX10_plain 39 = .ok (.aload_n 3, 1) := by decide +kernel
theorem dX10_plain_40 : decode cX10_plain 40 = .ok (.getfield 376, 3) := by decide +kernel
theorem dX10_plain_43 : decode cX10_plain 43 = .ok (.goto 9, 3) := by decide +kernel
theorem dX10_plain_46 : decode cX10_plain 46 = .ok (.aload_n 3, 1) := by decide +kernel
theorem dX10_plain_47 : decode cX10_plain 47 = .ok (.getfield 379, 3) := by decide +kernel
theorem dX10_plain_50 : decode cX10_plain 50 = .ok (.iload_n 2, 1) := by decide +kernel
theorem dX10_plain_51 : decode cX10_plain 51 = .ok (.iaload, 1) := by decide +kernel
theorem dX10_plain_52 : decode cX10_plain 52 = .ok (.ireturn, 1) := by decide +kernel
theorem dX10_remarkIs_0 : decode cX10_remarkIs 0 = .ok (.aload_n 0, 1) := by decide +kernel
theorem dX10_remarkIs_1 : decode cX10_remarkIs 1 = .ok (.getfield 10, 3) := by decide +kernel
theorem dX10_remarkIs_4 : decode cX10_remarkIs 4 = .ok (.iload_n 1, 1) := by decide +kernel
theorem dX10_remarkIs_5 : decode cX10_remarkIs 5 = .ok (.invokevirtual 373, 3) := by decide +kernel
theorem dX10_remarkIs_8 : decode cX10_remarkIs 8 = .ok (.ifCond .ne 5, 3) := by decide +kernel
theorem dX10_remarkIs_11 : decode cX10_remarkIs 11 = .ok (.iconst (-1), 1) := by decide +kernel
theorem dX10_remarkIs_12 : decode cX10_remarkIs 12 = .ok (.ireturn, 1) := by decide +kernel
theorem dX10_remarkIs_13 : decode cX10_remarkIs 13 = .ok (.aload_n 0, 1) := by decide +kernel
theorem dX10_remarkIs_14 : decode cX10_remarkIs 14 = .ok (.getfield 10, 3) := by decide +kernel
theorem dX10_remarkIs_17 : decode cX10_remarkIs 17 = .ok (.getfield 138, 3) := by decide +kernel
theorem dX10_remarkIs_20 : decode cX10_remarkIs 20 = .ok (.iload_n 1, 1) := by decide +kernel
theorem dX10_remarkIs_21 : decode cX10_remarkIs 21 = .ok (.aaload, 1) := by decide +kernel
theorem dX10_remarkIs_22 : decode cX10_remarkIs 22 = .ok (.astore_n 3, 1) := by decide +kernel
theorem dX10_remarkIs_23 : decode cX10_remarkIs 23 = .ok (.iload_n 2, 1) := by decide +kernel
theorem dX10_remarkIs_24 : decode cX10_remarkIs 24 = .ok (.iconst 2, 1) := by decide +kernel
theorem dX10_remarkIs_25 : decode cX10_remarkIs 25 = .ok (.if_icmp .ne 8, 3) := by decide +kernel
theorem dX10_remarkIs_28 : decode cX10_remarkIs 28 = .ok (.aload_n 3, 1) := by decide +kernel
theorem dX10_remarkIs_29 : decode cX10_remarkIs 29 = .ok (.getfield 381, 3) := by decide +kernel
theorem dX10_remarkIs_32 : decode cX10_remarkIs 32 = .ok (.ireturn, 1) := by decide +kernel
theorem dX10_remarkIs_33 : decode cX10_remarkIs 33 = .ok (.iload_n 2, 1) := by decide +kernel
theorem dX10_remarkIs_34 : decode cX10_remarkIs 34 = .ok (.iconst 3, 1) := by decide +kernel
theorem dX10_remarkIs_35 : decode cX10_remarkIs 35 = .ok (.if_icmp .ne 8, 3) := by decide +kernel
theorem dX10_remarkIs_38 : decode cX10_remarkIs 38 = .ok (.aload_n 3, 1) := by decide +kernel
theorem dX10_remarkIs_39 : decode cX10_remarkIs 39 = .ok (.getfield 352, 3) := by decide +kernel
theorem dX10_remarkIs_42 : decode cX10_remarkIs 42 = .ok (.ireturn, 1) := by decide +kernel
theorem dX10_remarkIs_43 : decode cX10_remarkIs 43 = .ok (.iload_n 1, 1) := by decide +kernel
theorem dX10_remarkIs_44 : decode cX10_remarkIs 44 = .ok (.bipush 10, 2) := by decide +kernel
theorem dX10_remarkIs_46 : decode cX10_remarkIs 46 = .ok (.if_icmp .ge 12, 3) := by decide +kernel
theorem dX10_remarkIs_49 : decode cX10_remarkIs 49 = .ok (.iload_n 2, 1) := by decide +kernel
theorem dX10_remarkIs_50 : decode cX10_remarkIs 50 = .ok (.ifCond .lt 8, 3) := by decide +kernel
theorem dX10_remarkIs_53 : decode cX10_remarkIs 53 = .ok (.iload_n 2, 1) := by decide +kernel
theorem dX10_remarkIs_54 : decode cX10_remarkIs 54 = .ok (.iconst 1, 1) := by decide +kernel
theorem dX10_remarkIs_55 : decode cX10_remarkIs 55 = .ok (.if_icmp .le 5, 3) := by decide +kernel
theorem dX10_remarkIs_58 : decode cX10_remarkIs 58 = .ok (.iconst (-1), 1) := by decide +kernel
theorem dX10_remarkIs_59 : decode cX10_remarkIs 59 = .ok (.ireturn, 1) := by decide +kernel
theorem dX10_remarkIs_60 : decode cX10_remarkIs 60 = .ok (.iload_n 2, 1) := by decide +kernel
theorem dX10_remarkIs_61 : decode cX10_remarkIs 61 = .ok (.ifCond .ne 10, 3) := by decide +kernel
theorem dX10_remarkIs_64 : decode cX10_remarkIs 64 = .ok (.aload_n 3, 1) := by decide +kernel
theorem dX10_remarkIs_65 : decode cX10_remarkIs 65 = .ok (.getfield 382, 3) := by decide +kernel
theorem dX10_remarkIs_68 : decode cX10_remarkIs 68 = .ok (.goto 7, 3) := by decide +kernel
theorem dX10_remarkIs_71 : decode cX10_remarkIs 71 = .ok (.aload_n 3, 1) := by decide +kernel
theorem dX10_remarkIs_72 : decode cX10_remarkIs 72 = .ok (.getfield 385, 3) := by decide +kernel
theorem dX10_remarkIs_75 : decode cX10_remarkIs 75 = .ok (.ireturn, 1) := by decide +kernel
theorem dX11_init_0 : decode cX11_init 0 = .ok (.aload_n 0, 1) := by decide +kernel
theorem dX11_init_1 : decode cX11_init 1 = .ok (.invokespecial 1, 3) := by decide +kernel
theorem dX11_init_4 : decode cX11_init 4 = .ok (.aload_n 0, 1) := by decide +kernel
theorem dX11_init_5 : decode cX11_init 5 = .ok (.bipush 6, 2) := by decide +kernel
theorem dX11_init_7 : decode cX11_init 7 = .ok (.newarray .int, 2) := by decide +kernel
theorem dX11_init_9 : decode cX11_init 9 = .ok (.putfield 7, 3) := by decide +kernel
theorem dX11_init_12 : decode cX11_init 12 = .ok (.aload_n 0, 1) := by decide +kernel
theorem dX11_init_13 : decode cX11_init 13 = .ok (.bipush 6, 2) := by decide +kernel
theorem dX11_init_15 : decode cX11_init 15 = .ok (.newarray .int, 2) := by decide +kernel
theorem dX11_init_17 : decode cX11_init 17 = .ok (.putfield 13, 3) := by decide +kernel
theorem dX11_init_20 : decode cX11_init 20 = .ok (.aload_n 0, 1) := by decide +kernel
theorem dX11_init_21 : decode cX11_init 21 = .ok (.bipush 6, 2) := by decide +kernel
theorem dX11_init_23 : decode cX11_init 23 = .ok (.newarray .int, 2) := by decide +kernel
theorem dX11_init_25 : decode cX11_init 25 = .ok (.putfield 16, 3) := by decide +kernel
theorem dX11_init_28 : decode cX11_init 28 = .ok (.aload_n 0, 1) := by decide +kernel
theorem dX11_init_29 : decode cX11_init 29 = .ok (.bipush 36, 2) := by decide +kernel
theorem dX11_init_31 : decode cX11_init 31 = .ok (.newarray .int, 2) := by decide +kernel
theorem dX11_init_33 : decode cX11_init 33 = .ok (.putfield 19, 3) := by decide +kernel
theorem dX11_init_36 : decode cX11_init 36 = .ok (.aload_n 0, 1) := by decide +kernel
theorem dX11_init_37 : decode cX11_init 37 = .ok (.bipush 96, 2) := by decide +kernel
theorem dX11_init_39 : decode cX11_init 39 = .ok (.newarray .int, 2) := by decide +kernel
theorem dX11_init_41 : decode cX11_init 41 = .ok (.putfield 22, 3) := by decide +kernel
theorem dX11_init_44 : decode cX11_init 44 = .ok (.aload_n 0, 1) := by decide +kernel
theorem dX11_init_45 : decode cX11_init 45 = .ok (.bipush 16, 2) := by decide +kernel
theorem dX11_init_47 : decode cX11_init 47 = .ok (.newarray .int, 2) := by decide +kernel
theorem dX11_init_49 : decode cX11_init 49 = .ok (.putfield 25, 3) := by decide +kernel
theorem dX11_init_52 : decode cX11_init 52 = .ok (.aload_n 0, 1) := by decide +kernel
theorem dX11_init_53 : decode cX11_init 53 = .ok (.bipush 16, 2) := by decide +kernel
theorem dX11_init_55 : decode cX11_init 55 = .ok (.newarray .int, 2) := by decide +kernel
theorem dX11_init_57 : decode cX11_init 57 = .ok (.putfield 28, 3) := by decide +kernel
theorem dX11_init_60 : decode cX11_init 60 = .ok (.aload_n 0, 1) := by decide +kernel
theorem dX11_init_61 : decode cX11_init 61 = .ok (.bipush 16, 2) := by decide +kernel
theorem dX11_init_63 : decode cX11_init 63 = .ok (.newarray .int, 2) := by decide +kernel
theorem dX11_init_65 : decode cX11_init 65 = .ok (.putfield 31, 3) := by decide +kernel
theorem dX11_init_68 : decode cX11_init 68 = .ok (.aload_n 0, 1) := by decide +kernel
theorem dX11_init_69 : decode cX11_init 69 = .ok (.bipush 16, 2) := by decide +kernel
theorem dX11_init_71 : decode cX11_init 71 = .ok (.newarray .int, 2) := by decide +kernel
theorem dX11_init_73 : decode cX11_init 73 = .ok (.putfield 34, 3) := by decide +kernel
theorem dX11_init_76 : decode cX11_init 76 = .ok (.aload_n 0, 1) := by decide +kernel
theorem dX11_init_77 : decode cX11_init 77 = .ok (.bipush 16, 2) := by decide +kernel
theorem dX11_init_79 : decode cX11_init 79 = .ok (.newarray .int, 2) := by decide +kernel
theorem dX11_init_81 : decode cX11_init 81 = .ok (.putfield 37, 3) := by decide +kernel
theorem dX11_init_84 : decode cX11_init 84 = .ok (.aload_n 0, 1) := by decide +kernel
theorem dX11_init_85 : decode cX11_init 85 = .ok (.bipush 16, 2) := by decide +kernel
theorem dX11_init_87 : decode cX11_init 87 = .ok (.newarray .int, 2) := by decide +kernel
theorem dX11_init_89 : decode cX11_init 89 = .ok (.putfield 40, 3) := by decide +kernel
theorem dX11_init_92 : decode cX11_init 92 = .ok (.aload_n 0, 1) := by decide +kernel
theorem dX11_init_93 : decode cX11_init 93 = .ok (.sipush 260, 3) := by decide +kernel
theorem dX11_init_96 : decode cX11_init 96 = .ok (.newarray .byte, 2) := by decide +kernel
theorem dX11_init_98 : decode cX11_init 98 = .ok (.putfield 43, 3) := by decide +kernel
theorem dX11_init_101 : decode cX11_init 101 = .ok (.aload_n 0, 1) := by decide +kernel
theorem dX11_init_102 : decode cX11_init 102 = .ok (.bipush 49, 2) := by decide +kernel
theorem dX11_init_104 : decode cX11_init 104 = .ok (.newarray .int, 2) := by decide +kernel
theorem dX11_init_106 : decode cX11_init 106 = .ok (.putfield 47, 3) := by decide +kernel
theorem dX11_init_109 : decode cX11_init 109 = .ok (.aload_n 0, 1) := by decide +kernel
theorem dX11_init_110 : decode cX11_init 110 = .ok (.bipush 49, 2) := by decide +kernel
theorem dX11_init_112 : decode cX11_init 112 = .ok (.newarray .int, 2) := by decide +kernel
theorem dX11_init_114 : decode cX11_init 114 = .ok (.putfield 50, 3) := by decide +kernel
theorem dX11_init_117 : decode cX11_init 117 = .ok (.aload_n 0, 1) := by decide +kernel
theorem dX11_init_118 : decode cX11_init 118 = .ok (.bipush 7, 2) := by decide +kernel
theorem dX11_init_120 : decode cX11_init 120 = .ok (.newarray .int, 2) := by decide +kernel
theorem dX11_init_122 : decode cX11_init 122 = .ok (.putfield 53, 3) := by decide +kernel
theorem dX11_init_125 : decode cX11_init 125 = .ok (.aload_n 0, 1) := by decide +kernel
theorem dX11_init_126 : decode cX11_init 126 = .ok (.bipush 7, 2) := by decide +kernel
theorem dX11_init_128 : decode cX11_init 128 = .ok (.newarray .int, 2) := by decide +kernel
theorem dX11_init_130 : decode cX11_init 130 = .ok (.putfield 56, 3) := by decide +kernel
theorem dX11_init_133 : decode cX11_init 133 = .ok (.aload_n 0, 1) := by decide +kernel
theorem dX11_init_134 : decode cX11_init 134 = .ok (.bipush 7, 2) := by decide +kernel
theorem dX11_init_136 : decode cX11_init 136 = .ok (.newarray .int, 2) := by decide +kernel
theorem dX11_init_138 : decode cX11_init 138 = .ok (.putfield 59, 3) := by decide +kernel
theorem dX11_init_141 : decode cX11_init 141 = .ok (.aload_n 0, 1) := by decide +kernel
theorem dX11_init_142 : decode cX11_init 142 = .ok (.bipush 7, 2) := by decide +kernel
theorem dX11_init_144 : decode cX11_init 144 = .ok (.newarray .int, 2) := by decide +kernel
theorem dX11_init_146 : decode cX11_init 146 = .ok (.putfield 62, 3) := by decide +kernel
theorem dX11_init_149 : decode cX11_init 149 = .ok (.aload_n 0, 1) := by decide +kernel
theorem dX11_init_150 : decode cX11_init 150 = .ok (.bipush 7, 2) := by decide +kernel
theorem dX11_init_152 : decode cX11_init 152 = .ok (.newarray .int, 2) := by decide +kernel
theorem dX11_init_154 : decode cX11_init 154 = .ok (.putfield 65, 3) := by decide +kernel
theorem dX11_init_157 : decode cX11_init 157 = .ok (.aload_n 0, 1) := by decide +kernel
theorem dX11_init_158 : decode cX11_init 158 = .ok (.bipush 7, 2) := by decide +kernel
theorem dX11_init_160 : decode cX11_init 160 = .ok (.newarray .int, 2) := by decide +kernel
theorem dX11_init_162 : decode cX11_init 162 = .ok (.putfield 68, 3) := by decide +kernel
theorem dX11_init_165 : decode cX11_init 165 = .ok (.aload_n 0, 1) := by decide +kernel
theorem dX11_init_166 : decode cX11_init 166 = .ok (.bipush 7, 2) := by decide +kernel
theorem dX11_init_168 : decode cX11_init 168 = .ok (.newarray .int, 2) := by decide +kernel
theorem dX11_init_170 : decode cX11_init 170 = .ok (.putfield 71, 3) := by decide +kernel
theorem dX11_init_173 : decode cX11_init 173 = .ok (.aload_n 0, 1) := by decide +kernel
theorem dX11_init_174 : decode cX11_init 174 = .ok (.bipush 7, 2) := by decide +kernel
theorem dX11_init_176 : decode cX11_init 176 = .ok (.newarray .int, 2) := by decide +kernel
theorem dX11_init_178 : decode cX11_init 178 = .ok (.putfield 74, 3) := by decide +kernel
theorem dX11_init_181 : decode cX11_init 181 = .ok (.aload_n 0, 1) := by decide +kernel
theorem dX11_init_182 : decode cX11_init 182 = .ok (.bipush 6, 2) := by decide +kernel
theorem dX11_init_184 : decode cX11_init 184 = .ok (.newarray .int, 2) := by decide +kernel
theorem dX11_init_186 : decode cX11_init 186 = .ok (.putfield 77, 3) := by decide +kernel
theorem dX11_init_189 : decode cX11_init 189 = .ok (.aload_n 0, 1) := by decide +kernel
theorem dX11_init_190 : decode cX11_init 190 = .ok (.sipush 1024, 3) := by decide +kernel
theorem dX11_init_193 : decode cX11_init 193 = .ok (.newarray .int, 2) := by decide +kernel
theorem dX11_init_195 : decode cX11_init 195 = .ok (.putfield 80, 3) := by decide +kernel
theorem dX11_init_198 : decode cX11_init 198 = .ok (.aload_n 0, 1) := by decide +kernel
theorem dX11_init_199 : decode cX11_init 199 = .ok (.bipush 100, 2) := by decide +kernel
theorem dX11_init_201 : decode cX11_init 201 = .ok (.newarray .int, 2) := by decide +kernel
theorem dX11_init_203 : decode cX11_init 203 = .ok (.putfield 83, 3) := by decide +kernel
theorem dX11_init_206 : decode cX11_init 206 = .ok (.aload_n 0, 1) := by decide +kernel
theorem dX11_init_207 : decode cX11_init 207 = .ok (.sipush 12000, 3) := by decide +kernel
theorem dX11_init_210 : decode cX11_init 210 = .ok (.newarray .byte, 2) := by decide +kernel
theorem dX11_init_212 : decode cX11_init 212 = .ok (.putfield 86, 3) := by decide +kernel
theorem dX11_init_215 : decode cX11_init 215 = .ok (.aload_n 0, 1) := by decide +kernel
theorem dX11_init_216 : decode cX11_init 216 = .ok (.sipush 2000, 3) := by decide +kernel
theorem dX11_init_219 : decode cX11_init 219 = .ok (.newarray .int, 2) := by decide +kernel
theorem dX11_init_221 : decode cX11_init 221 = .ok (.putfield 89, 3) := by decide +kernel
theorem dX11_init_224 : decode cX11_init 224 = .ok (.aload_n 0, 1) := by decide +kernel
theorem dX11_init_225 : decode cX11_init 225 = .ok (.sipush 2000, 3) := by decide +kernel
theorem dX11_init_228 : decode cX11_init 228 = .ok (.newarray .boolean, 2) := by decide +kernel
theorem dX11_init_230 : decode cX11_init 230 = .ok (.putfield 92, 3) := by decide +kernel
theorem dX11_init_233 : decode cX11_init 233 = .ok (.aload_n 0, 1) := by decide +kernel
theorem dX11_init_234 : decode cX11_init 234 = .ok (.bipush 6, 2) := by decide +kernel
theorem dX11_init_236 : decode cX11_init 236 = .ok (.newarray .int, 2) := by decide +kernel
theorem dX11_init_238 : decode cX11_init 238 = .ok (.putfield 96, 3) := by decide +kernel
theorem dX11_init_241 : decode cX11_init 241 = .ok (.aload_n 0, 1) := by decide +kernel
theorem dX11_init_242 : decode cX11_init 242 = .ok (.bipush 6, 2) := by decide +kernel
theorem dX11_init_244 : decode cX11_init 244 = .ok (.newarray .int, 2) := by decide +kernel
theorem dX11_init_246 : decode cX11_init 246 = .ok (.putfield 99, 3) := by decide +kernel
theorem dX11_init_249 : decode cX11_init 249 = .ok (.aload_n 0, 1) := by decide +kernel
theorem dX11_init_250 : decode cX11_init 250 = .ok (.bipush 6, 2) := by decide +kernel
theorem dX11_init_252 : decode cX11_init 252 = .ok (.newarray .int, 2) := by decide +kernel
theorem dX11_init_254 : decode cX11_init 254 = .ok (.putfield 102, 3) := by decide +kernel
theorem dX11_init_257 : decode cX11_init 257 = .ok (.aload_n 0, 1) := by decide +kernel
theorem dX11_init_258 : decode cX11_init 258 = .ok (.bipush 6, 2) := by decide +kernel
theorem dX11_init_260 : decode cX11_init 260 = .ok (.newarray .int, 2) := by decide +kernel
theorem dX11_init_262 : decode cX11_init 262 = .ok (.putfield 105, 3) := by decide +kernel
theorem dX11_init_265 : decode cX11_init 265 = .ok (.aload_n 0, 1) := by decide +kernel
theorem dX11_init_266 : decode cX11_init 266 = .ok (.bipush 6, 2) := by decide +kernel
theorem dX11_init_268 : decode cX11_init 268 = .ok (.newarray .int, 2) := by decide +kernel
theorem dX11_init_270 : decode cX11_init 270 = .ok (.putfield 108, 3) := by decide +kernel
theorem dX11_init_273 : decode cX11_init 273 = .ok (.aload_n 0, 1) := by decide +kernel
theorem dX11_init_274 : decode cX11_init 274 = .ok (.bipush 6, 2) := by decide +kernel
theorem dX11_init_276 : decode cX11_init 276 = .ok (.newarray .int, 2) := by decide +kernel
theorem dX11_init_278 : decode cX11_init 278 = .ok (.putfield 111, 3) := by decide +kernel
theorem dX11_init_281 : decode cX11_init 281 = .ok (.aload_n 0, 1) := by decide +kernel
theorem dX11_init_282 : decode cX11_init 282 = .ok (.iconst 3, 1) := by decide +kernel
theorem dX11_init_283 : decode cX11_init 283 = .ok (.newarray .int, 2) := by decide +kernel
theorem dX11_init_285 : decode cX11_init 285 = .ok (.putfield 114, 3) := by decide +kernel
theorem dX11_init_288 : decode cX11_init 288 = .ok (.aload_n 0, 1) := by decide +kernel
theorem dX11_init_289 : decode cX11_init 289 = .ok (.iconst 3, 1) := by decide +kernel
theorem dX11_init_290 : decode cX11_init 290 = .ok (.newarray .int, 2) := by decide +kernel
theorem dX11_init_292 : decode cX11_init 292 = .ok (.putfield 117, 3) := by decide +kernel
theorem dX11_init_295 : decode cX11_init 295 = .ok (.aload_n 0, 1) := by decide +kernel
theorem dX11_init_296 : decode cX11_init 296 = .ok (.sipush 9261, 3) := by decide +kernel
theorem dX11_init_299 : decode cX11_init 299 = .ok (.newarray .int, 2) := by decide +kernel
theorem dX11_init_301 : decode cX11_init 301 = .ok (.putfield 120, 3) := by decide +kernel
theorem dX11_init_304 : decode cX11_init 304 = .ok (.aload_n 0, 1) := by decide +kernel
theorem dX11_init_305 : decode cX11_init 305 = .ok (.sipush 9261, 3) := by decide +kernel
theorem dX11_init_308 : decode cX11_init 308 = .ok (.newarray .int, 2) := by decide +kernel
theorem dX11_init_310 : decode cX11_init 310 = .ok (.putfield 123, 3) := by decide +kernel
theorem dX11_init_313 : decode cX11_init 313 = .ok (.aload_n 0, 1) := by decide +kernel
theorem dX11_init_314 : decode cX11_init 314 = .ok (.sipush 2807, 3) := by decide +kernel
theorem dX11_init_317 : decode cX11_init 317 = .ok (.newarray .long, 2) := by decide +kernel
theorem dX11_init_319 : decode cX11_init 319 = .ok (.putfield 126, 3) := by decide +kernel
theorem dX11_init_322 : decode cX11_init 322 = .ok (.aload_n 0, 1) := by decide +kernel
theorem dX11_init_323 : decode cX11_init 323 = .ok (.sipush 249, 3) := by decide +kernel
theorem dX11_init_326 : decode cX11_init 326 = .ok (.newarray .int, 2) := by decide +kernel
theorem dX11_init_328 : decode cX11_init 328 = .ok (.putfield 130, 3) := by decide +kernel
theorem dX11_init_331 : decode cX11_init 331 = .ok (.iconst 0, 1) := by decide +kernel
theorem dX11_init_332 : decode cX11_init 332 = .ok (.istore_n 1, 1) := by decide +kernel
theorem dX11_init_333 : decode cX11_init 333 = .ok (.iload_n 1, 1) := by decide +kernel
theorem dX11_init_334 : decode cX11_init 334 = .ok (.bipush 6, 2) := by decide +kernel
theorem dX11_init_336 : decode cX11_init 336 = .ok (.if_icmp .ge 43, 3) := by decide +kernel
theorem dX11_init_339 : decode cX11_init 339 = .ok (.aload_n 0, 1) := by decide +kernel
theorem dX11_init_340 : decode cX11_init 340 = .ok (.getfield 16, 3) := by decide +kernel
theorem dX11_init_343 : decode cX11_init 343 = .ok (.iload_n 1, 1) := by decide +kernel
theorem dX11_init_344 : decode cX11_init 344 = .ok (.bipush 100, 2) := by decide +kernel
theorem dX11_init_346 : decode cX11_init 346 = .ok (.iastore, 1) := by decide +kernel
theorem dX11_init_347 : decode cX11_init 347 = .ok (.iconst 0, 1) := by decide +kernel
theorem dX11_init_348 : decode cX11_init 348 = .ok (.istore_n 2, 1) := by decide +kernel
theorem dX11_init_349 : decode cX11_init 349 = .ok (.iload_n 2, 1) := by decide +kernel
theorem dX11_init_350 : decode cX11_init 350 = .ok (.bipush 6, 2) := by decide +kernel
theorem dX11_init_352 : decode cX11_init 352 = .ok (.if_icmp .ge 21, 3) := by decide +kernel
theorem dX11_init_355 : decode cX11_init 355 = .ok (.aload_n 0, 1) := by decide +kernel
theorem dX11_init_356 : decode cX11_init 356 = .ok (.getfield 19, 3) := by decide +kernel
theorem dX11_init_359 : decode cX11_init 359 = .ok (.bipush 6, 2) := by decide +kernel
theorem dX11_init_361 : decode cX11_init 361 = .ok (.iload_n 1, 1) := by decide +kernel
theorem dX11_init_362 : decode cX11_init 362 = .ok (.imul, 1) := by decide +kernel
theorem dX11_init_363 : decode cX11_init 363 = .ok (.iload_n 2, 1) := by decide +kernel
theorem dX11_init_364 : decode cX11_init 364 = .ok (.iadd, 1) := by decide +kernel
theorem dX11_init_365 : decode cX11_init 365 = .ok (.iconst (-1), 1) := by decide +kernel
theorem dX11_init_366 : decode cX11_init 366 = .ok (.iastore, 1) := by decide +kernel
theorem dX11_init_367 : decode cX11_init 367 = .ok (.iinc 2 1, 3) := by decide +kernel
theorem dX11_init_370 : decode cX11_init 370 = .ok (.goto (-21), 3) := by decide +kernel
theorem dX11_init_373 : decode cX11_init 373 = .ok (.iinc 1 1, 3) := by decide +kernel
theorem dX11_init_376 : decode cX11_init 376 = .ok (.goto (-43), 3) := by decide +kernel
theorem dX11_init_379 : decode cX11_init 379 = .ok (.return_, 1) := by decide +kernel
theorem dX11_in_0 : decode cX11_in 0 = .ok (.iload_n 0, 1) := by decide +kernel
theorem dX11_in_1 : decode cX11_in 1 = .ok (.iload_n 1, 1) := by decide +kernel
theorem dX11_in_2 : decode cX11_in 2 = .ok (.if_icmp .lt 12, 3) := by decide +kernel
theorem dX11_in_5 : decode cX11_in 5 = .ok (.iload_n 0, 1) := by decide +kernel
theorem dX11_in_6 : decode cX11_in 6 = .ok (.iload_n 2, 1) := by decide +kernel
theorem dX11_in_7 : decode cX11_in 7 = .ok (.if_icmp .gt 7, 3) := by decide +kernel
theorem dX11_in_10 : decode cX11_in 10 = .ok (.iconst 1, 1) := by decide +kernel
theorem dX11_in_11 : decode cX11_in 11 = .ok (.goto 4, 3) := by decide +kernel
theorem dX11_in_14 : decode cX11_in 14 = .ok (.iconst 0, 1) := by decide +kernel
theorem dX11_in_15 : decode cX11_in 15 = .ok (.ireturn, 1) := by decide +kernel
theorem dX11_min_0 : decode cX11_min 0 = .ok (.iload_n 0, 1) := by decide +kernel
theorem dX11_min_1 : decode cX11_min 1 = .ok (.iload_n 1, 1) := by decide +kernel
theorem dX11_min_2 : decode cX11_min 2 = .ok (.if_icmp .ge 7, 3) := by decide +kernel
theorem dX11_min_5 : decode cX11_min 5 = .ok (.iload_n 0, 1) := by decide +kernel
theorem dX11_min_6 : decode cX11_min 6 = .ok (.goto 4, 3) := by decide +kernel
theorem dX11_min_9 : decode cX11_min 9 = .ok (.iload_n 1, 1) := by decide +kernel
theorem dX11_min_10 : decode cX11_min 10 = .ok (.ireturn, 1) := by decide +kernel
theorem dX11_max_0 : decode cX11_max 0 = .ok (.iload_n 0, 1) := by decide +kernel
theorem dX11_max_1 : decode cX11_max 1 = .ok (.iload_n 1, 1) := by decide +kernel
theorem dX11_max_2 : decode cX11_max 2 = .ok (.if_icmp .le 7, 3) := by decide +kernel
theorem dX11_max_5 : decode cX11_max 5 = .ok (.iload_n 0, 1) := by decide +kernel
theorem dX11_max_6 : decode cX11_max 6 = .ok (.goto 4, 3) := by decide +kernel
theorem dX11_max_9 : decode cX11_max 9 = .ok (.iload_n 1, 1) := by decide +kernel
theorem dX11_max_10 : decode cX11_max 10 = .ok (.ireturn, 1) := by decide +kernel
theorem dX11_has_0 : decode cX11_has 0 = .ok (.iload_n 0, 1) := by decide +kernel
theorem dX11_has_1 : decode cX11_has 1 = .ok (.iload_n 1, 1) := by decide +kernel
theorem dX11_has_2 : decode cX11_has 2 = .ok (.ishr, 1) := by decide +kernel
theorem dX11_has_3 : decode cX11_has 3 = .ok (.iconst 1, 1) := by decide +kernel
theorem dX11_has_4 : decode cX11_has 4 = .ok (.iand, 1) := by decide +kernel
theorem dX11_has_5 : decode cX11_has 5 = .ok (.iconst 1, 1) := by decide +kernel
theorem dX11_has_6 : decode cX11_has 6 = .ok (.if_icmp .ne 7, 3) := by decide +kernel
theorem dX11_has_9 : decode cX11_has 9 = .ok (.iconst 1, 1) := by decide +kernel
theorem dX11_has_10 : decode cX11_has 10 = .ok (.goto 4, 3) := by decide +kernel
theorem dX11_has_13 : decode cX11_has 13 = .ok (.iconst 0, 1) := by decide +kernel
theorem dX11_has_14 : decode cX11_has 14 = .ok (.ireturn, 1) := by decide +kernel
theorem dX11_bits_0 : decode cX11_bits 0 = .ok (.iconst 0, 1) := by decide +kernel
theorem dX11_bits_1 : decode cX11_bits 1 = .ok (.istore_n 1, 1) := by decide +kernel
theorem dX11_bits_2 : decode cX11_bits 2 = .ok (.iconst 0, 1) := by decide +kernel
theorem dX11_bits_3 : decode cX11_bits 3 = .ok (.istore_n 2, 1) := by decide +kernel
theorem dX11_bits_4 : decode cX11_bits 4 = .ok (.iload_n 2, 1) := by decide +kernel
theorem dX11_bits_5 : decode cX11_bits 5 = .ok (.bipush 16, 2) := by decide +kernel
theorem dX11_bits_7 : decode cX11_bits 7 = .ok (.if_icmp .ge 17, 3) := by decide +kernel
theorem dX11_bits_10 : decode cX11_bits 10 = .ok (.iload_n 1, 1) := by decide +kernel
theorem dX11_bits_11 : decode cX11_bits 11 = .ok (.iload_n 0, 1) := by decide +kernel
theorem dX11_bits_12 : decode cX11_bits 12 = .ok (.iload_n 2, 1) := by decide +kernel
theorem dX11_bits_13 : decode cX11_bits 13 = .ok (.ishr, 1) := by decide +kernel
theorem dX11_bits_14 : decode cX11_bits 14 = .ok (.iconst 1, 1) := by decide +kernel
theorem dX11_bits_15 : decode cX11_bits 15 = .ok (.iand, 1) := by decide +kernel
theorem dX11_bits_16 : decode cX11_bits 16 = .ok (.iadd, 1) := by decide +kernel
theorem dX11_bits_17 : decode cX11_bits 17 = .ok (.istore_n 1, 1) := by decide +kernel
theorem dX11_bits_18 : decode cX11_bits 18 = .ok (.iinc 2 1, 3) := by decide +kernel
theorem dX11_bits_21 : decode cX11_bits 21 = .ok (.goto (-17), 3) := by decide +kernel
theorem dX11_bits_24 : decode cX11_bits 24 = .ok (.iload_n 1, 1) := by decide +kernel
theorem dX11_bits_25 : decode cX11_bits 25 = .ok (.ireturn, 1) := by decide +kernel
theorem dX11_isPerson_0 : decode cX11_isPerson 0 = .ok (.iload_n 1, 1) := by decide +kernel
theorem dX11_isPerson_1 : decode cX11_isPerson 1 = .ok (.iconst 0, 1) := by decide +kernel
theorem dX11_isPerson_2 : decode cX11_isPerson 2 = .ok (.iconst 5, 1) := by decide +kernel
theorem dX11_isPerson_3 : decode cX11_isPerson 3 = .ok (.invokestatic 137, 3) := by decide +kernel
theorem dX11_isPerson_6 : decode cX11_isPerson 6 = .ok (.ifCond .eq 18, 3) := by decide +kernel
theorem dX11_isPerson_9 : decode cX11_isPerson 9 = .ok (.aload_n 0, 1) := by decide +kernel
theorem dX11_isPerson_10 : decode cX11_isPerson 10 = .ok (.getfield 141, 3) := by decide +kernel
theorem dX11_isPerson_13 : decode cX11_isPerson 13 = .ok (.iload_n 1, 1) := by decide +kernel
theorem dX11_isPerson_14 : decode cX11_isPerson 14 = .ok (.invokestatic 133, 3) := by decide +kernel
theorem dX11_isPerson_17 : decode cX11_isPerson 17 = .ok (.ifCond .eq 7, 3) := by decide +kernel
theorem dX11_isPerson_20 : decode cX11_isPerson 20 = .ok (.iconst 1, 1) := by decide +kernel
theorem dX11_isPerson_21 : decode cX11_isPerson 21 = .ok (.goto 4, 3) := by decide +kernel
theorem dX11_isPerson_24 : decode cX11_isPerson 24 = .ok (.iconst 0, 1) := by decide +kernel
theorem dX11_isPerson_25 : decode cX11_isPerson 25 = .ok (.ireturn, 1) := by decide +kernel
theorem dX11_areTwo_0 : decode cX11_areTwo 0 = .ok (.aload_n 0, 1) := by decide +kernel
theorem dX11_areTwo_1 : decode cX11_areTwo 1 = .ok (.iload_n 1, 1) := by decide +kernel
theorem dX11_areTwo_2 : decode cX11_areTwo 2 = .ok (.invokevirtual 145, 3) := by decide +kernel
theorem dX11_areTwo_5 : decode cX11_areTwo 5 = .ok (.ifCond .eq 20, 3) := by decide +kernel
theorem dX11_areTwo_8 : decode cX11_areTwo 8 = .ok (.aload_n 0, 1) := by decide +kernel
theorem dX11_areTwo_9 : decode cX11_areTwo 9 = .ok (.iload_n 2, 1) := by decide +kernel
theorem dX11_areTwo_10 : decode cX11_areTwo 10 = .ok (.invokevirtual 145, 3) := by decide +kernel
theorem dX11_areTwo_13 : decode cX11_areTwo 13 = .ok (.ifCond .eq 12, 3) := by decide +kernel
theorem dX11_areTwo_16 : decode cX11_areTwo 16 = .ok (.iload_n 1, 1) := by decide +kernel
theorem dX11_areTwo_17 : decode cX11_areTwo 17 = .ok (.iload_n 2, 1) := by decide +kernel
theorem dX11_areTwo_18 : decode cX11_areTwo 18 = .ok (.if_icmp .eq 7, 3) := by decide +kernel
theorem dX11_areTwo_21 : decode cX11_areTwo 21 = .ok (.iconst 1, 1) := by decide +kernel
theorem dX11_areTwo_22 : decode cX11_areTwo 22 = .ok (.goto 4, 3) := by decide +kernel
theorem dX11_areTwo_25 : decode cX11_areTwo 25 = .ok (.iconst 0, 1) := by decide +kernel
theorem dX11_areTwo_26 : decode cX11_areTwo 26 = .ok (.ireturn, 1) := by decide +kernel
theorem dX11_isRemark_0 : decode cX11_isRemark 0 = .ok (.iload_n 1, 1) := by decide +kernel
theorem dX11_isRemark_1 : decode cX11_isRemark 1 = .ok (.iconst 0, 1) := by decide +kernel
theorem dX11_isRemark_2 : decode cX11_isRemark 2 = .ok (.bipush 9, 2) := by decide +kernel
theorem dX11_isRemark_4 : decode cX11_isRemark 4 = .ok (.invokestatic 137, 3) := by decide +kernel
theorem dX11_isRemark_7 : decode cX11_isRemark 7 = .ok (.ifCond .eq 18, 3) := by decide +kernel
theorem dX11_isRemark_10 : decode cX11_isRemark 10 = .ok (.aload_n 0, 1) := by decide +kernel
theorem dX11_isRemark_11 : decode cX11_isRemark 11 = .ok (.getfield 149, 3) := by decide +kernel
theorem dX11_isRemark_14 : decode cX11_isRemark 14 = .ok (.iload_n 1, 1) := by decide +kernel
theorem dX11_isRemark_15 : decode cX11_isRemark 15 = .ok (.invokestatic 133, 3) := by decide +kernel
theorem dX11_isRemark_18 : decode cX11_isRemark 18 = .ok (.ifCond .eq 7, 3) := by decide +kernel
theorem dX11_isRemark_21 : decode cX11_isRemark 21 = .ok (.iconst 1, 1) := by decide +kernel
theorem dX11_isRemark_22 : decode cX11_isRemark 22 = .ok (.goto 4, 3) := by decide +kernel
theorem dX11_isRemark_25 : decode cX11_isRemark 25 = .ok (.iconst 0, 1) := by decide +kernel
theorem dX11_isRemark_26 : decode cX11_isRemark 26 = .ok (.ireturn, 1) := by decide +kernel
theorem dX11_isForm_0 : decode cX11_isForm 0 = .ok (.iload_n 1, 1) := by decide +kernel
theorem dX11_isForm_1 : decode cX11_isForm 1 = .ok (.iconst 0, 1) := by decide +kernel
theorem dX11_isForm_2 : decode cX11_isForm 2 = .ok (.iconst 5, 1) := by decide +kernel
theorem dX11_isForm_3 : decode cX11_isForm 3 = .ok (.invokestatic 137, 3) := by decide +kernel
theorem dX11_isForm_6 : decode cX11_isForm 6 = .ok (.ifCond .eq 21, 3) := by decide +kernel
theorem dX11_isForm_9 : decode cX11_isForm 9 = .ok (.aload_n 0, 1) := by decide +kernel
theorem dX11_isForm_10 : decode cX11_isForm 10 = .ok (.getfield 149, 3) := by decide +kernel
theorem dX11_isForm_13 : decode cX11_isForm 13 = .ok (.bipush 10, 2) := by decide +kernel
theorem dX11_isForm_15 : decode cX11_isForm 15 = .ok (.iload_n 1, 1) := by decide +kernel
theorem dX11_isForm_16 : decode cX11_isForm 16 = .ok (.iadd, 1) := by decide +kernel
theorem dX11_isForm_17 : decode cX11_isForm 17 = .ok (.invokestatic 133, 3) := by decide +kernel
theorem dX11_isForm_20 : decode cX11_isForm 20 = .ok (.ifCond .eq 7, 3) := by decide +kernel
theorem dX11_isForm_23 : decode cX11_isForm 23 = .ok (.iconst 1, 1) := by decide +kernel
theorem dX11_isForm_24 : decode cX11_isForm 24 = .ok (.goto 4, 3) := by decide +kernel
theorem dX11_isForm_27 : decode cX11_isForm 27 = .ok (.iconst 0, 1) := by decide +kernel
theorem dX11_isForm_28 : decode cX11_isForm 28 = .ok (.ireturn, 1) := by decide +kernel
theorem dX11_toldRemarks_0 : decode cX11_toldRemarks 0 = .ok (.aload_n 0, 1) := by decide +kernel
theorem dX11_toldRemarks_1 : decode cX11_toldRemarks 1 = .ok (.getfield 149, 3) := by decide +kernel
theorem dX11_toldRemarks_4 : decode cX11_toldRemarks 4 = .ok (.sipush 1023, 3) := by decide +kernel
theorem dX11_toldRemarks_7 : decode cX11_toldRemarks 7 = .ok (.iand, 1) := by decide +kernel
theorem dX11_toldRemarks_8 : decode cX11_toldRemarks 8 = .ok (.ireturn, 1) := by decide +kernel
theorem dX11_areRemarks_0 : decode cX11_areRemarks 0 = .ok (.iload_n 1, 1) := by decide +kernel
theorem dX11_areRemarks_1 : decode cX11_areRemarks 1 = .ok (.ifCond .lt 18, 3) := by decide +kernel
theorem dX11_areRemarks_4 : decode cX11_areRemarks 4 = .ok (.iload_n 1, 1) := by decide +kernel
theorem dX11_areRemarks_5 : decode cX11_areRemarks 5 = .ok (.aload_n 0, 1) := by decide +kernel
theorem dX11_areRemarks_6 : decode cX11_areRemarks 6 = .ok (.invokevirtual 152, 3) := by decide +kernel
theorem dX11_areRemarks_9 : decode cX11_areRemarks 9 = .ok (.iconst (-1), 1) := by decide +kernel
theorem dX11_areRemarks_10 : decode cX11_areRemarks 10 = .ok (.ixor, 1) := by decide +kernel
theorem dX11_areRemarks_11 : decode cX11_areRemarks 11 = .ok (.iand, 1) := by decide +kernel
theorem dX11_areRemarks_12 : decode cX11_areRemarks 12 = .ok (.ifCond .ne 7, 3) := by decide +kernel
theorem dX11_areRemarks_15 : decode cX11_areRemarks 15 = .ok (.iconst 1, 1) := by decide +kernel
theorem dX11_areRemarks_16 : decode cX11_areRemarks 16 = .ok (.goto 4, 3) := by decide +kernel
theorem dX11_areRemarks_19 : decode cX11_areRemarks 19 = .ok (.iconst 0, 1) := by decide +kernel
theorem dX11_areRemarks_20 : decode cX11_areRemarks 20 = .ok (.ireturn, 1) := by decide +kernel
theorem dX11_person_0 : decode cX11_person 0 = .ok (.iload_n 1, 1) := by decide +kernel
theorem dX11_person_1 : decode cX11_person 1 = .ok (.iconst 0, 1) := by decide +kernel
theorem dX11_person_2 : decode cX11_person 2 = .ok (.iconst 5, 1) := by decide +kernel
theorem dX11_person_3 : decode cX11_person 3 = .ok (.invokestatic 137, 3) := by decide +kernel
theorem dX11_person_6 : decode cX11_person 6 = .ok (.ifCond .eq 23, 3) := by decide +kernel
theorem dX11_person_9 : decode cX11_person 9 = .ok (.iload_n 2, 1) := by decide +kernel
theorem dX11_person_10 : decode cX11_person 10 = .ok (.iconst 0, 1) := by decide +kernel
theorem dX11_person_11 : decode cX11_person 11 = .ok (.bipush 99, 2) := by decide +kernel
theorem dX11_person_13 : decode cX11_person 13 = .ok (.invokestatic 137, 3) := by decide +kernel
theorem dX11_person_16 : decode cX11_person 16 = .ok (.ifCond .eq 13, 3) := by decide +kernel
theorem dX11_person_19 : decode cX11_person 19 = .ok (.iload_n 3, 1) := by decide +kernel
theorem dX11_person_20 : decode cX11_person 20 = .ok (.iload_n 2, 1) := by decide +kernel
theorem dX11_person_21 : decode cX11_person 21 = .ok (.bipush 99, 2) := by decide +kernel
theorem dX11_person_23 : decode cX11_person 23 = .ok (.invokestatic 137, 3) := by decide +kernel
theorem dX11_person_26 : decode cX11_person 26 = .ok (.ifCond .ne 5, 3) := by decide +kernel
theorem dX11_person_29 : decode cX11_person 29 = .ok (.iconst 0, 1) := by decide +kernel
theorem dX11_person_30 : decode cX11_person 30 = .ok (.ireturn, 1) := by decide +kernel
theorem dX11_person_31 : decode cX11_person 31 = .ok (.aload_n 0, 1) := by decide +kernel
theorem dX11_person_32 : decode cX11_person 32 = .ok (.aload_n 0, 1) := by decide +kernel
theorem dX11_person_33 : decode cX11_person 33 = .ok (.getfield 141, 3) := by decide +kernel
theorem dX11_person_36 : decode cX11_person 36 = .ok (.iconst 1, 1) := by decide +kernel
theorem dX11_person_37 : decode cX11_person 37 = .ok (.iload_n 1, 1) := by decide +kernel
theorem dX11_person_38 : decode cX11_person 38 = .ok (.ishl, 1) := by decide +kernel
theorem dX11_person_39 : decode cX11_person 39 = .ok (.ior, 1) := by decide +kernel
theorem dX11_person_40 : decode cX11_person 40 = .ok (.putfield 141, 3) := by decide +kernel
theorem dX11_person_43 : decode cX11_person 43 = .ok (.aload_n 0, 1) := by decide +kernel
theorem dX11_person_44 : decode cX11_person 44 = .ok (.getfield 7, 3) := by decide +kernel
theorem dX11_person_47 : decode cX11_person 47 = .ok (.iload_n 1, 1) := by decide +kernel
theorem dX11_person_48 : decode cX11_person 48 = .ok (.iload_n 2, 1) := by decide +kernel
theorem dX11_person_49 : decode cX11_person 49 = .ok (.iastore, 1) := by decide +kernel
theorem dX11_person_50 : decode cX11_person 50 = .ok (.aload_n 0, 1) := by decide +kernel
theorem dX11_person_51 : decode cX11_person 51 = .ok (.getfield 13, 3) := by decide +kernel
theorem dX11_person_54 : decode cX11_person 54 = .ok (.iload_n 1, 1) := by decide +kernel
theorem dX11_person_55 : decode cX11_person 55 = .ok (.iload_n 3, 1) := by decide +kernel
theorem dX11_person_56 : decode cX11_person 56 = .ok (.iastore, 1) := by decide +kernel
theorem dX11_person_57 : decode cX11_person 57 = .ok (.aload_n 0, 1) := by decide +kernel
theorem dX11_person_58 : decode cX11_person 58 = .ok (.getfield 16, 3) := by decide +kernel
theorem dX11_person_61 : decode cX11_person 61 = .ok (.iload_n 1, 1) := by decide +kernel
theorem dX11_person_62 : decode cX11_person 62 = .ok (.bipush 100, 2) := by decide +kernel
theorem dX11_person_64 : decode cX11_person 64 = .ok (.iastore, 1) := by decide +kernel
theorem dX11_person_65 : decode cX11_person 65 = .ok (.iconst 1, 1) := by decide +kernel
theorem dX11_person_66 : decode cX11_person 66 = .ok (.ireturn, 1) := by decide +kernel
theorem dX11_dies_0 : decode cX11_dies 0 = .ok (.aload_n 0, 1) := by decide +kernel
theorem dX11_dies_1 : decode cX11_dies 1 = .ok (.iload_n 1, 1) := by decide +kernel
theorem dX11_dies_2 : decode cX11_dies 2 = .ok (.invokevirtual 145, 3) := by decide +kernel
theorem dX11_dies_5 : decode cX11_dies 5 = .ok (.ifCond .eq 13, 3) := by decide +kernel
theorem dX11_dies_8 : decode cX11_dies 8 = .ok (.iload_n 2, 1) := by decide +kernel
theorem dX11_dies_9 : decode cX11_dies 9 = .ok (.iconst 0, 1) := by decide +kernel
theorem dX11_dies_10 : decode cX11_dies 10 = .ok (.bipush 100, 2) := by decide +kernel
theorem dX11_dies_12 : decode cX11_dies 12 = .ok (.invokestatic 137, 3) := by decide +kernel
theorem dX11_dies_15 : decode cX11_dies 15 = .ok (.ifCond .ne 5, 3) := by decide +kernel
theorem dX11_dies_18 : decode cX11_dies 18 = .ok (.iconst 0, 1) := by decide +kernel
theorem dX11_dies_19 : decode cX11_dies 19 = .ok (.ireturn, 1) := by decide +kernel
theorem dX11_dies_20 : decode cX11_dies 20 = .ok (.aload_n 0, 1) := by decide +kernel
theorem dX11_dies_21 : decode cX11_dies 21 = .ok (.getfield 16, 3) := by decide +kernel
theorem dX11_dies_24 : decode cX11_dies 24 = .ok (.iload_n 1, 1) := by decide +kernel
theorem dX11_dies_25 : decode cX11_dies 25 = .ok (.iload_n 2, 1) := by decide +kernel
theorem dX11_dies_26 : decode cX11_dies 26 = .ok (.iastore, 1) := by decide +kernel
theorem dX11_dies_27 : decode cX11_dies 27 = .ok (.iconst 1, 1) := by decide +kernel
theorem dX11_dies_28 : decode cX11_dies 28 = .ok (.ireturn, 1) := by decide +kernel
theorem dX11_years_0 : decode cX11_years 0 = .ok (.iload_n 1, 1) := by decide +kernel
theorem dX11_years_1 : decode cX11_years 1 = .ok (.iconst 1, 1) := by decide +kernel
theorem dX11_years_2 : decode cX11_years 2 = .ok (.bipush 99, 2) := by decide +kernel
theorem dX11_years_4 : decode cX11_years 4 = .ok (.invokestatic 137, 3) := by decide +kernel
theorem dX11_years_7 : decode cX11_years 7 = .ok (.ifCond .eq 14, 3) := by decide +kernel
theorem dX11_years_10 : decode cX11_years 10 = .ok (.aload_n 0, 1) := by decide +kernel
theorem dX11_years_11 : decode cX11_years 11 = .ok (.getfield 156, 3) := by decide +kernel
theorem dX11_years_14 : decode cX11_years 14 = .ok (.iload_n 1, 1) := by decide +kernel
theorem dX11_years_15 : decode cX11_years 15 = .ok (.iadd, 1) := by decide +kernel
theorem dX11_years_16 : decode cX11_years 16 = .ok (.bipush 99, 2) := by decide +kernel
theorem dX11_years_18 : decode cX11_years 18 = .ok (.if_icmp .le 5, 3) := by decide +kernel
theorem dX11_years_21 : decode cX11_years 21 = .ok (.iconst (-1), 1) := by decide +kernel
theorem dX11_years_22 : decode cX11_years 22 = .ok (.ireturn, 1) := by decide +kernel
theorem dX11_years_23 : decode cX11_years 23 = .ok (.aload_n 0, 1) := by decide +kernel
theorem dX11_years_24 : decode cX11_years 24 = .ok (.aload_n 0, 1) := by decide +kernel
theorem dX11_years_25 : decode cX11_years 25 = .ok (.getfield 156, 3) := by decide +kernel
theorem dX11_years_28 : decode cX11_years 28 = .ok (.iload_n 1, 1) := by decide +kernel
theorem dX11_years_29 : decode cX11_years 29 = .ok (.iadd, 1) := by decide +kernel
theorem dX11_years_30 : decode cX11_years 30 = .ok (.putfield 156, 3) := by decide +kernel
theorem dX11_years_33 : decode cX11_years 33 = .ok (.aload_n 0, 1) := by decide +kernel
theorem dX11_years_34 : decode cX11_years 34 = .ok (.getfield 156, 3) := by decide +kernel
theorem dX11_years_37 : decode cX11_years 37 = .ok (.ireturn, 1) := by decide +kernel
theorem dX11_types_0 : decode cX11_types 0 = .ok (.iconst 3, 1) := by decide +kernel
theorem dX11_types_1 : decode cX11_types 1 = .ok (.istore_n 2, 1) := by decide +kernel
theorem dX11_types_2 : decode cX11_types 2 = .ok (.iload_n 2, 1) := by decide +kernel
theorem dX11_types_3 : decode cX11_types 3 = .ok (.ifCond .lt 35, 3) := by decide +kernel
theorem dX11_types_6 : decode cX11_types 6 = .ok (.aload_n 0, 1) := by decide +kernel
theorem dX11_types_7 : decode cX11_types 7 = .ok (.getfield 43, 3) := by decide +kernel
theorem dX11_types_10 : decode cX11_types 10 = .ok (.aload_n 0, 1) := by decide +kernel
theorem dX11_types_11 : decode cX11_types 11 = .ok (.getfield 159, 3) := by decide +kernel
theorem dX11_types_14 : decode cX11_types 14 = .ok (.iload_n 1, 1) := by decide +kernel
theorem dX11_types_15 : decode cX11_types 15 = .ok (.bipush 8, 2) := by decide +kernel
theorem dX11_types_17 : decode cX11_types 17 = .ok (.iload_n 2, 1) := by decide +kernel
theorem dX11_types_18 : decode cX11_types 18 = .ok (.imul, 1) := by decide +kernel
theorem dX11_types_19 : decode cX11_types 19 = .ok (.ishr, 1) := by decide +kernel
theorem dX11_types_20 : decode cX11_types 20 = .ok (.i2b, 1) := by decide +kernel
theorem dX11_types_21 : decode cX11_types 21 = .ok (.bastore, 1) := by decide +kernel
theorem dX11_types_22 : decode cX11_types 22 = .ok (.aload_n 0, 1) := by decide +kernel
theorem dX11_types_23 : decode cX11_types 23 = .ok (.aload_n 0, 1) := by decide +kernel
theorem dX11_types_24 : decode cX11_types 24 = .ok (.getfield 159, 3) := by decide +kernel
theorem dX11_types_27 : decode cX11_types 27 = .ok (.iconst 1, 1) := by decide +kernel
theorem dX11_types_28 : decode cX11_types 28 = .ok (.iadd, 1) := by decide +kernel
theorem dX11_types_29 : decode cX11_types 29 = .ok (.putfield 159, 3) := by decide +kernel
theorem dX11_types_32 : decode cX11_types 32 = .ok (.iinc 2 (-1), 3) := by decide +kernel
theorem dX11_types_35 : decode cX11_types 35 = .ok (.goto (-33), 3) := by decide +kernel
theorem dX11_types_38 : decode cX11_types 38 = .ok (.return_, 1) := by decide +kernel
theorem dX11_feed_0 : decode cX11_feed 0 = .ok (.aload_n 0, 1) := by decide +kernel
theorem dX11_feed_1 : decode cX11_feed 1 = .ok (.getfield 159, 3) := by decide +kernel
theorem dX11_feed_4 : decode cX11_feed 4 = .ok (.bipush 20, 2) := by decide +kernel
theorem dX11_feed_6 : decode cX11_feed 6 = .ok (.iadd, 1) := by decide +kernel
theorem dX11_feed_7 : decode cX11_feed 7 = .ok (.sipush 260, 3) := by decide +kernel
theorem dX11_feed_10 : decode cX11_feed 10 = .ok (.if_icmp .le 5, 3) := by decide +kernel
theorem dX11_feed_13 : decode cX11_feed 13 = .ok (.iconst (-1), 1) := by decide +kernel
theorem dX11_feed_14 : decode cX11_feed 14 = .ok (.ireturn, 1) := by decide +kernel
theorem dX11_feed_15 : decode cX11_feed 15 = .ok (.aload_n 0, 1) := by decide +kernel
theorem dX11_feed_16 : decode cX11_feed 16 = .ok (.iload_n 1, 1) := by decide +kernel
theorem dX11_feed_17 : decode cX11_feed 17 = .ok (.invokevirtual 162, 3) := by decide +kernel
theorem dX11_feed_20 : decode cX11_feed 20 = .ok (.aload_n 0, 1) := by decide +kernel
theorem dX11_feed_21 : decode cX11_feed 21 = .ok (.iload_n 2, 1) := by decide +kernel
theorem dX11_feed_22 : decode cX11_feed 22 = .ok (.invokevirtual 162, 3) := by decide +kernel
theorem dX11_feed_25 : decode cX11_feed 25 = .ok (.aload_n 0, 1) := by decide +kernel
theorem dX11_feed_26 : decode cX11_feed 26 = .ok (.iload_n 3, 1) := by decide +kernel
theorem dX11_feed_27 : decode cX11_feed 27 = .ok (.invokevirtual 162, 3) := by decide +kernel
theorem dX11_feed_30 : decode cX11_feed 30 = .ok (.aload_n 0, 1) := by decide +kernel
theorem dX11_feed_31 : decode cX11_feed 31 = .ok (.iload 4, 2) := by decide +kernel
theorem dX11_feed_33 : decode cX11_feed 33 = .ok (.invokevirtual 162, 3) := by decide +kernel
theorem dX11_feed_36 : decode cX11_feed 36 = .ok (.aload_n 0, 1) := by decide +kernel
theorem dX11_feed_37 : decode cX11_feed 37 = .ok (.iload 5, 2) := by decide +kernel
theorem dX11_feed_39 : decode cX11_feed 39 = .ok (.invokevirtual 162, 3) := by decide +kernel
theorem dX11_feed_42 : decode cX11_feed 42 = .ok (.aload_n 0, 1) := by decide +kernel
theorem dX11_feed_43 : decode cX11_feed 43 = .ok (.getfield 159, 3) := by decide +kernel
theorem dX11_feed_46 : decode cX11_feed 46 = .ok (.ireturn, 1) := by decide +kernel
theorem dX11_octet_0 : decode cX11_octet 0 = .ok (.aload_n 0, 1) := by decide +kernel
theorem dX11_octet_1 : decode cX11_octet 1 = .ok (.getfield 43, 3) := by decide +kernel
theorem dX11_octet_4 : decode cX11_octet 4 = .ok (.iload_n 1, 1) := by decide +kernel
theorem dX11_octet_5 : decode cX11_octet 5 = .ok (.baload, 1) := by decide +kernel
theorem dX11_octet_6 : decode cX11_octet 6 = .ok (.sipush 255, 3) := by decide +kernel
theorem dX11_octet_9 : decode cX11_octet 9 = .ok (.iand, 1) := by decide +kernel
theorem dX11_octet_10 : decode cX11_octet 10 = .ok (.ireturn, 1) := by decide +kernel
theorem dX11_here_0 : decode cX11_here 0 = .ok (.aload_n 0, 1) := by decide +kernel
theorem dX11_here_1 : decode cX11_here 1 = .ok (.getfield 166, 3) := by decide +kernel
theorem dX11_here_4 : decode cX11_here 4 = .ok (.aload_n 0, 1) := by decide +kernel
theorem dX11_here_5 : decode cX11_here 5 = .ok (.getfield 169, 3) := by decide +kernel
theorem dX11_here_8 : decode cX11_here 8 = .ok (.if_icmp .ge 14, 3) := by decide +kernel
theorem dX11_here_11 : decode cX11_here 11 = .ok (.aload_n 0, 1) := by decide +kernel
theorem dX11_here_12 : decode cX11_here 12 = .ok (.aload_n 0, 1) := by decide +kernel
theorem dX11_here_13 : decode cX11_here 13 = .ok (.getfield 166, 3) := by decide +kernel
theorem dX11_here_16 : decode cX11_here 16 = .ok (.invokevirtual 172, 3) := by decide +kernel
theorem dX11_here_19 : decode cX11_here 19 = .ok (.goto 4, 3) := by decide +kernel
theorem dX11_here_22 : decode cX11_here 22 = .ok (.iconst (-1), 1) := by decide +kernel
theorem dX11_here_23 : decode cX11_here 23 = .ok (.ireturn, 1) := by decide +kernel
theorem dX11_wrongAt_0 : decode cX11_wrongAt 0 = .ok (.aload_n 0, 1) := by decide +kernel
theorem dX11_wrongAt_1 : decode cX11_wrongAt 1 = .ok (.sipush (-1000), 3) := by decide +kernel
theorem dX11_wrongAt_4 : decode cX11_wrongAt 4 = .ok (.iload_n 1, 1) := by decide +kernel
theorem dX11_wrongAt_5 : decode cX11_wrongAt 5 = .ok (.imul, 1) := by decide +kernel
theorem dX11_wrongAt_6 : decode cX11_wrongAt 6 = .ok (.iload_n 2, 1) := by decide +kernel
theorem dX11_wrongAt_7 : decode cX11_wrongAt 7 = .ok (.isub, 1) := by decide +kernel
theorem dX11_wrongAt_8 : decode cX11_wrongAt 8 = .ok (.putfield 176, 3) := by decide +kernel
theorem dX11_wrongAt_11 : decode cX11_wrongAt 11 = .ok (.iconst 0, 1) := by decide +kernel
theorem dX11_wrongAt_12 : decode cX11_wrongAt 12 = .ok (.ireturn, 1) := by decide +kernel
theorem dX11_takes_0 : decode cX11_takes 0 = .ok (.aload_n 0, 1) := by decide +kernel
theorem dX11_takes_1 : decode cX11_takes 1 = .ok (.invokevirtual 179, 3) := by decide +kernel
theorem dX11_takes_4 : decode cX11_takes 4 = .ok (.iload_n 1, 1) := by decide +kernel
theorem dX11_takes_5 : decode cX11_takes 5 = .ok (.if_icmp .eq 13, 3) := by decide +kernel
theorem dX11_takes_8 : decode cX11_takes 8 = .ok (.aload_n 0, 1) := by decide +kernel
theorem dX11_takes_9 : decode cX11_takes 9 = .ok (.iconst 1, 1) := by decide +kernel
theorem dX11_takes_10 : decode cX11_takes 10 = .ok (.aload_n 0, 1) := by decide +kernel
theorem dX11_takes_11 : decode cX11_takes 11 = .ok (.getfield 166, 3) := by decide +kernel
theorem dX11_takes_14 : decode cX11_takes 14 = .ok (.invokevirtual 182, 3) := by decide +kernel
theorem dX11_takes_17 : decode cX11_takes 17 = .ok (.ireturn, 1) := by decide +kernel
theorem dX11_takes_18 : decode cX11_takes 18 = .ok (.aload_n 0, 1) := by decide +kernel
theorem dX11_takes_19 : decode cX11_takes 19 = .ok (.aload_n 0, 1) := by decide +kernel
theorem dX11_takes_20 : decode cX11_takes 20 = .ok (.getfield 166, 3) := by decide +kernel
theorem dX11_takes_23 : decode cX11_takes 23 = .ok (.iconst 1, 1) := by decide +kernel
theorem dX11_takes_24 : decode cX11_takes 24 = .ok (.iadd, 1) := by decide +kernel
theorem dX11_takes_25 : decode cX11_takes 25 = .ok (.putfield 166, 3) := by decide +kernel
theorem dX11_takes_28 : decode cX11_takes 28 = .ok (.iconst 1, 1) := by decide +kernel
theorem dX11_takes_29 : decode cX11_takes 29 = .ok (.ireturn, 1) := by decide +kernel
theorem dX11_readsNumber_0 : decode cX11_readsNumber 0 = .ok (.aload_n 0, 1) := by decide +kernel
theorem dX11_readsNumber_1 : decode cX11_readsNumber 1 = .ok (.getfield 166, 3) := by decide +kernel
theorem dX11_readsNumber_4 : decode cX11_readsNumber 4 = .ok (.istore_n 1, 1) := by decide +kernel
theorem dX11_readsNumber_5 : decode cX11_readsNumber 5 = .ok (.aload_n 0, 1) := by decide +kernel
theorem dX11_readsNumber_6 : decode cX11_readsNumber 6 = .ok (.iconst 0, 1) := by decide +kernel
theorem dX11_readsNumber_7 : decode cX11_readsNumber 7 = .ok (.putfield 185, 3) := by decide +kernel
theorem dX11_readsNumber_10 : decode cX11_readsNumber 10 = .ok (.aload_n 0, 1) := by decide +kernel
theorem dX11_readsNumber_11 : decode cX11_readsNumber 11 = .ok (.invokevirtual 179, 3) := by decide +kernel
theorem dX11_readsNumber_14 : decode cX11_readsNumber 14 = .ok (.bipush 48, 2) := by decide +kernel
theorem dX11_readsNumber_16 : decode cX11_readsNumber 16 = .ok (.bipush 57, 2) := by decide +kernel
theorem dX11_readsNumber_18 : decode cX11_readsNumber 18 = .ok (.invokestatic 137, 3) := by decide +kernel
theorem dX11_readsNumber_21 : decode cX11_readsNumber 21 = .ok (.ifCond .ne 13, 3) := by decide +kernel
theorem dX11_readsNumber_24 : decode cX11_readsNumber 24 = .ok (.aload_n 0, 1) := by decide +kernel
theorem dX11_readsNumber_25 : decode cX11_readsNumber 25 = .ok (.iconst 1, 1) := by decide +kernel
theorem dX11_readsNumber_26 : decode cX11_readsNumber 26 = .ok (.aload_n 0, 1) := by decide +kernel
theorem dX11_readsNumber_27 : decode cX11_readsNumber 27 = .ok (.getfield 166, 3) := by decide +kernel
theorem dX11_readsNumber_30 : decode cX11_readsNumber 30 = .ok (.invokevirtual 182, 3) := by decide +kernel
theorem dX11_readsNumber_33 : decode cX11_readsNumber 33 = .ok (.ireturn, 1) := by decide +kernel
theorem dX11_readsNumber_34 : decode cX11_readsNumber 34 = .ok (.aload_n 0, 1) := by decide +kernel
theorem dX11_readsNumber_35 : decode cX11_readsNumber 35 = .ok (.invokevirtual 179, 3) := by decide +kernel
theorem dX11_readsNumber_38 : decode cX11_readsNumber 38 = .ok (.bipush 48, 2) := by decide +kernel
theorem dX11_readsNumber_40 : decode cX11_readsNumber 40 = .ok (.bipush 57, 2) := by decide +kernel
theorem dX11_readsNumber_42 : decode cX11_readsNumber 42 = .ok (.invokestatic 137, 3) := by decide +kernel
theorem dX11_readsNumber_45 : decode cX11_readsNumber 45 = .ok (.ifCond .eq 55, 3) := by decide +kernel
theorem dX11_readsNumber_48 : decode cX11_readsNumber 48 = .ok (.aload_n 0, 1) := by decide +kernel
theorem dX11_readsNumber_49 : decode cX11_readsNumber 49 = .ok (.getfield 166, 3) := by decide +kernel
theorem dX11_readsNumber_52 : decode cX11_readsNumber 52 = .ok (.iload_n 1, 1) := by decide +kernel
theorem dX11_readsNumber_53 : decode cX11_readsNumber 53 = .ok (.iconst 3, 1) := by decide +kernel
theorem dX11_readsNumber_54 : decode cX11_readsNumber 54 = .ok (.iadd, 1) := by decide +kernel
theorem dX11_readsNumber_55 : decode cX11_readsNumber 55 = .ok (.if_icmp .ne 13, 3) := by decide +kernel
theorem dX11_readsNumber_58 : decode cX11_readsNumber 58 = .ok (.aload_n 0, 1) := by decide +kernel
theorem dX11_readsNumber_59 : decode cX11_readsNumber 59 = .ok (.iconst 2, 1) := by decide +kernel
theorem dX11_readsNumber_60 : decode cX11_readsNumber 60 = .ok (.aload_n 0, 1) := by decide +kernel
theorem dX11_readsNumber_61 : decode cX11_readsNumber 61 = .ok (.getfield 166, 3) := by decide +kernel
theorem dX11_readsNumber_64 : decode cX11_readsNumber 64 = .ok (.invokevirtual 182, 3) := by decide +kernel
theorem dX11_readsNumber_67 : decode cX11_readsNumber 67 = .ok (.ireturn, 1) := by decide +kernel
theorem dX11_readsNumber_68 : decode cX11_readsNumber 68 = .ok (.aload_n 0, 1) := by decide +kernel
theorem dX11_readsNumber_69 : decode cX11_readsNumber 69 = .ok (.bipush 10, 2) := by decide +kernel
theorem dX11_readsNumber_71 : decode cX11_readsNumber 71 = .ok (.aload_n 0, 1) := by decide +kernel
theorem dX11_readsNumber_72 : decode cX11_readsNumber 72 = .ok (.getfield 185, 3) := by decide +kernel
theorem dX11_readsNumber_75 : decode cX11_readsNumber 75 = .ok (.imul, 1) := by decide +kernel
theorem dX11_readsNumber_76 : decode cX11_readsNumber 76 = .ok (.aload_n 0, 1) := by decide +kernel
theorem dX11_readsNumber_77 : decode cX11_readsNumber 77 = .ok (.invokevirtual 179, 3) := by decide +kernel
theorem dX11_readsNumber_80 : decode cX11_readsNumber 80 = .ok (.iadd, 1) := by decide +kernel
theorem dX11_readsNumber_81 : decode cX11_readsNumber 81 = .ok (.bipush 48, 2) := by decide +kernel
theorem dX11_readsNumber_83 : decode cX11_readsNumber 83 = .ok (.isub, 1) := by decide +kernel
theorem dX11_readsNumber_84 : decode cX11_readsNumber 84 = .ok (.putfield 185, 3) := by decide +kernel
theorem dX11_readsNumber_87 : decode cX11_readsNumber 87 = .ok (.aload_n 0, 1) := by decide +kernel
theorem dX11_readsNumber_88 : decode cX11_readsNumber 88 = .ok (.aload_n 0, 1) := by decide +kernel
theorem dX11_readsNumber_89 : decode cX11_readsNumber 89 = .ok (.getfield 166, 3) := by decide +kernel
theorem dX11_readsNumber_92 : decode cX11_readsNumber 92 = .ok (.iconst 1, 1) := by decide +kernel
theorem dX11_readsNumber_93 : decode cX11_readsNumber 93 = .ok (.iadd, 1) := by decide +kernel
theorem dX11_readsNumber_94 : decode cX11_readsNumber 94 = .ok (.putfield 166, 3) := by decide +kernel
theorem dX11_readsNumber_97 : decode cX11_readsNumber 97 = .ok (.goto (-63), 3) := by decide +kernel
theorem dX11_readsNumber_100 : decode cX11_readsNumber 100 = .ok (.iconst 1, 1) := by decide +kernel
theorem dX11_readsNumber_101 : decode cX11_readsNumber 101 = .ok (.ireturn, 1) := by decide +kernel
theorem dX11_readsPerson_0 : decode cX11_readsPerson 0 = .ok (.aload_n 0, 1) := by decide +kernel
theorem dX11_readsPerson_1 : decode cX11_readsPerson 1 = .ok (.invokevirtual 179, 3) := by decide +kernel
theorem dX11_readsPerson_4 : decode cX11_readsPerson 4 = .ok (.bipush 97, 2) := by decide +kernel
theorem dX11_readsPerson_6 : decode cX11_readsPerson 6 = .ok (.isub, 1) := by decide +kernel
theorem dX11_readsPerson_7 : decode cX11_readsPerson 7 = .ok (.istore_n 1, 1) := by decide +kernel
theorem dX11_readsPerson_8 : decode cX11_readsPerson 8 = .ok (.iload_n 1, 1) := by decide +kernel
theorem dX11_readsPerson_9 : decode cX11_readsPerson 9 = .ok (.iconst 0, 1) := by decide +kernel
theorem dX11_readsPerson_10 : decode cX11_readsPerson 10 = .ok (.iconst 5, 1) := by decide +kernel
theorem dX11_readsPerson_11 : decode cX11_readsPerson 11 = .ok (.invokestatic 137, 3) := by decide +kernel
theorem dX11_readsPerson_14 : decode cX11_readsPerson 14 = .ok (.ifCond .ne 13, 3) := by decide +kernel
theorem dX11_readsPerson_17 : decode cX11_readsPerson 17 = .ok (.aload_n 0, 1) := by decide +kernel
theorem dX11_readsPerson_18 : decode cX11_readsPerson 18 = .ok (.iconst 1, 1) := by decide +kernel
theorem dX11_readsPerson_19 : decode cX11_readsPerson 19 = .ok (.aload_n 0, 1) := by decide +kernel
theorem dX11_readsPerson_20 : decode cX11_readsPerson 20 = .ok (.getfield 166, 3) := by decide +kernel
theorem dX11_readsPerson_23 : decode cX11_readsPerson 23 = .ok (.invokevirtual 182, 3) := by decide +kernel
theorem dX11_readsPerson_26 : decode cX11_readsPerson 26 = .ok (.ireturn, 1) := by decide +kernel
theorem dX11_readsPerson_27 : decode cX11_readsPerson 27 = .ok (.aload_n 0, 1) := by decide +kernel
theorem dX11_readsPerson_28 : decode cX11_readsPerson 28 = .ok (.iload_n 1, 1) := by decide +kernel
theorem dX11_readsPerson_29 : decode cX11_readsPerson 29 = .ok (.invokevirtual 145, 3) := by decide +kernel
theorem dX11_readsPerson_32 : decode cX11_readsPerson 32 = .ok (.ifCond .ne 14, 3) := by decide +kernel
theorem dX11_readsPerson_35 : decode cX11_readsPerson 35 = .ok (.aload_n 0, 1) := by decide +kernel
theorem dX11_readsPerson_36 : decode cX11_readsPerson 36 = .ok (.bipush 7, 2) := by decide +kernel
theorem dX11_readsPerson_38 : decode cX11_readsPerson 38 = .ok (.aload_n 0, 1) := by decide +kernel
theorem dX11_readsPerson_39 : decode cX11_readsPerson 39 = .ok (.getfield 166, 3) := by decide +kernel
theorem dX11_readsPerson_42 : decode cX11_readsPerson 42 = .ok (.invokevirtual 182, 3) := by decide +kernel
theorem dX11_readsPerson_45 : decode cX11_readsPerson 45 = .ok (.ireturn, 1) := by decide +kernel
theorem dX11_readsPerson_46 : decode cX11_readsPerson 46 = .ok (.aload_n 0, 1) := by decide +kernel
theorem dX11_readsPerson_47 : decode cX11_readsPerson 47 = .ok (.iload_n 1, 1) := by decide +kernel
theorem dX11_readsPerson_48 : decode cX11_readsPerson 48 = .ok (.putfield 185, 3) := by decide +kernel
theorem dX11_readsPerson_51 : decode cX11_readsPerson 51 = .ok (.aload_n 0, 1) := by decide +kernel
theorem dX11_readsPerson_52 : decode cX11_readsPerson 52 = .ok (.aload_n 0, 1) := by decide +kernel
theorem dX11_readsPerson_53 : decode cX11_readsPerson 53 = .ok (.getfield 166, 3) := by decide +kernel
theorem dX11_readsPerson_56 : decode cX11_readsPerson 56 = .ok (.iconst 1, 1) := by decide +kernel
theorem dX11_readsPerson_57 : decode cX11_readsPerson 57 = .ok (.iadd, 1) := by decide +kernel
theorem dX11_readsPerson_58 : decode cX11_readsPerson 58 = .ok (.putfield 166, 3) := by decide +kernel
theorem dX11_readsPerson_61 : decode cX11_readsPerson 61 = .ok (.iconst 1, 1) := by decide +kernel
theorem dX11_readsPerson_62 : decode cX11_readsPerson 62 = .ok (.ireturn, 1) := by decide +kernel
theorem dX11_clearsPart_0 : decode cX11_clearsPart 0 = .ok (.iconst 0, 1) := by decide +kernel
theorem dX11_clearsPart_1 : decode cX11_clearsPart 1 = .ok (.istore_n 1, 1) := by decide +kernel
theorem dX11_clearsPart_2 : decode cX11_clearsPart 2 = .ok (.iload_n 1, 1) := by decide +kernel
theorem dX11_clearsPart_3 : decode cX11_clearsPart 3 = .ok (.bipush 7, 2) := by decide +kernel
theorem dX11_clearsPart_5 : decode cX11_clearsPart 5 = .ok (.if_icmp .ge 16, 3) := by decide +kernel
theorem dX11_clearsPart_8 : decode cX11_clearsPart 8 = .ok (.aload_n 0, 1) := by decide +kernel
theorem dX11_clearsPart_9 : decode cX11_clearsPart 9 = .ok (.getfield 53, 3) := by decide +kernel
theorem dX11_clearsPart_12 : decode cX11_clearsPart 12 = .ok (.iload_n 1, 1) := by decide +kernel
theorem dX11_clearsPart_13 : decode cX11_clearsPart 13 = .ok (.iconst 0, 1) := by decide +kernel
theorem dX11_clearsPart_14 : decode cX11_clearsPart 14 = .ok (.iastore, 1) := by decide +kernel
theorem dX11_clearsPart_15 : decode cX11_clearsPart 15 = .ok (.iinc 1 1, 3) := by decide +kernel
theorem dX11_clearsPart_18 : decode cX11_clearsPart 18 = .ok (.goto (-16), 3) := by decide +kernel
theorem dX11_clearsPart_21 : decode cX11_clearsPart 21 = .ok (.aload_n 0, 1) := by decide +kernel
theorem dX11_clearsPart_22 : decode cX11_clearsPart 22 = .ok (.iconst 0, 1) := by decide +kernel
theorem dX11_clearsPart_23 : decode cX11_clearsPart 23 = .ok (.putfield 188, 3) := by decide +kernel
theorem dX11_clearsPart_26 : decode cX11_clearsPart 26 = .ok (.return_, 1) := by decide +kernel
theorem dX11_opensFrame_0 : decode cX11_opensFrame 0 = .ok (.aload_n 0, 1) := by decide +kernel
theorem dX11_opensFrame_1 : decode cX11_opensFrame 1 = .ok (.getfield 68, 3) := by decide +kernel
theorem dX11_opensFrame_4 : decode cX11_opensFrame 4 = .ok (.aload_n 0, 1) := by decide +kernel
theorem dX11_opensFrame_5 : decode cX11_opensFrame 5 = .ok (.getfield 191, 3) := by decide +kernel
theorem dX11_opensFrame_8 : decode cX11_opensFrame 8 = .ok (.iload_n 1, 1) := by decide +kernel
theorem dX11_opensFrame_9 : decode cX11_opensFrame 9 = .ok (.iastore, 1) := by decide +kernel
theorem dX11_opensFrame_10 : decode cX11_opensFrame 10 = .ok (.aload_n 0, 1) := by decide +kernel
theorem dX11_opensFrame_11 : decode cX11_opensFrame 11 = .ok (.getfield 71, 3) := by decide +kernel
theorem dX11_opensFrame_14 : decode cX11_opensFrame 14 = .ok (.aload_n 0, 1) := by decide +kernel
theorem dX11_opensFrame_15 : decode cX11_opensFrame 15 = .ok (.getfield 191, 3) := by decide +kernel
theorem dX11_opensFrame_18 : decode cX11_opensFrame 18 = .ok (.iload_n 2, 1) := by decide +kernel
theorem dX11_opensFrame_19 : decode cX11_opensFrame 19 = .ok (.iastore, 1) := by decide +kernel
theorem dX11_opensFrame_20 : decode cX11_opensFrame 20 = .ok (.aload_n 0, 1) := by decide +kernel
theorem dX11_opensFrame_21 : decode cX11_opensFrame 21 = .ok (.getfield 62, 3) := by decide +kernel
theorem dX11_opensFrame_24 : decode cX11_opensFrame 24 = .ok (.aload_n 0, 1) := by decide +kernel
theorem dX11_opensFrame_25 : decode cX11_opensFrame 25 = .ok (.getfield 191, 3) := by decide +kernel
theorem dX11_opensFrame_28 : decode cX11_opensFrame 28 = .ok (.iconst 1, 1) := by decide +kernel
theorem dX11_opensFrame_29 : decode cX11_opensFrame 29 = .ok (.iastore, 1) := by decide +kernel
theorem dX11_opensFrame_30 : decode cX11_opensFrame 30 = .ok (.aload_n 0, 1) := by decide +kernel
theorem dX11_opensFrame_31 : decode cX11_opensFrame 31 = .ok (.getfield 65, 3) := by decide +kernel
theorem dX11_opensFrame_34 : decode cX11_opensFrame 34 = .ok (.aload_n 0, 1) := by decide +kernel
theorem dX11_opensFrame_35 : decode cX11_opensFrame 35 = .ok (.getfield 191, 3) := by decide +kernel
theorem dX11_opensFrame_38 : decode cX11_opensFrame 38 = .ok (.iconst (-1), 1) := by decide +kernel
theorem dX11_opensFrame_39 : decode cX11_opensFrame 39 = .ok (.iastore, 1) := by decide +kernel
theorem dX11_opensFrame_40 : decode cX11_opensFrame 40 = .ok (.aload_n 0, 1) := by decide +kernel
theorem dX11_opensFrame_41 : decode cX11_opensFrame 41 = .ok (.getfield 56, 3) := by decide +kernel
theorem dX11_opensFrame_44 : decode cX11_opensFrame 44 = .ok (.aload_n 0, 1) := by decide +kernel
theorem dX11_opensFrame_45 : decode cX11_opensFrame 45 = .ok (.getfield 191, 3) := by decide +kernel
theorem dX11_opensFrame_48 : decode cX11_opensFrame 48 = .ok (.iconst 0, 1) := by decide +kernel
theorem dX11_opensFrame_49 : decode cX11_opensFrame 49 = .ok (.iastore, 1) := by decide +kernel
theorem dX11_opensFrame_50 : decode cX11_opensFrame 50 = .ok (.aload_n 0, 1) := by decide +kernel
theorem dX11_opensFrame_51 : decode cX11_opensFrame 51 = .ok (.getfield 59, 3) := by decide +kernel
theorem dX11_opensFrame_54 : decode cX11_opensFrame 54 = .ok (.aload_n 0, 1) := by decide +kernel
theorem dX11_opensFrame_55 : decode cX11_opensFrame 55 = .ok (.getfield 191, 3) := by decide +kernel
theorem dX11_opensFrame_58 : decode cX11_opensFrame 58 = .ok (.iconst 0, 1) := by decide +kernel
theorem dX11_opensFrame_59 : decode cX11_opensFrame 59 = .ok (.iastore, 1) := by decide +kernel
theorem dX11_opensFrame_60 : decode cX11_opensFrame 60 = .ok (.iconst 0, 1) := by decide +kernel
theorem dX11_opensFrame_61 : decode cX11_opensFrame 61 = .ok (.istore_n 3, 1) := by decide +kernel
theorem dX11_opensFrame_62 : decode cX11_opensFrame 62 = .ok (.iload_n 3, 1) := by decide +kernel
theorem dX11_opensFrame_63 : decode cX11_opensFrame 63 = .ok (.bipush 7, 2) := by decide +kernel
theorem dX11_opensFrame_65 : decode cX11_opensFrame 65 = .ok (.if_icmp .ge 39, 3) := by decide +kernel
theorem dX11_opensFrame_68 : decode cX11_opensFrame 68 = .ok (.aload_n 0, 1) := by decide +kernel
theorem dX11_opensFrame_69 : decode cX11_opensFrame 69 = .ok (.getfield 47, 3) := by decide +kernel
theorem dX11_opensFrame_72 : decode cX11_opensFrame 72 = .ok (.bipush 7, 2) := by decide +kernel
theorem dX11_opensFrame_74 : decode cX11_opensFrame 74 = .ok (.aload_n 0, 1) := by decide +kernel
theorem dX11_opensFrame_75 : decode cX11_opensFrame 75 = .ok (.getfield 191, 3) := by decide +kernel
theorem dX11_opensFrame_78 : decode cX11_opensFrame 78 = .ok (.imul, 1) := by decide +kernel
theorem dX11_opensFrame_79 : decode cX11_opensFrame 79 = .ok (.iload_n 3, 1) := by decide +kernel
theorem dX11_opensFrame_80 : decode cX11_opensFrame 80 = .ok (.iadd, 1) := by decide +kernel
theorem dX11_opensFrame_81 : decode cX11_opensFrame 81 = .ok (.iconst 0, 1) := by decide +kernel
theorem dX11_opensFrame_82 : decode cX11_opensFrame 82 = .ok (.iastore, 1) := by decide +kernel
theorem dX11_opensFrame_83 : decode cX11_opensFrame 83 = .ok (.aload_n 0, 1) := by decide +kernel
theorem dX11_opensFrame_84 : decode cX11_opensFrame 84 = .ok (.getfield 50, 3) := by decide +kernel
theorem dX11_opensFrame_87 : decode cX11_opensFrame 87 = .ok (.bipush 7, 2) := by decide +kernel
theorem dX11_opensFrame_89 : decode cX11_opensFrame 89 = .ok (.aload_n 0, 1) := by decide +kernel
theorem dX11_opensFrame_90 : decode cX11_opensFrame 90 = .ok (.getfield 191, 3) := by decide +kernel
theorem dX11_opensFrame_93 : decode cX11_opensFrame 93 = .ok (.imul, 1) := by decide +kernel
theorem dX11_opensFrame_94 : decode cX11_opensFrame 94 = .ok (.iload_n 3, 1) := by decide +kernel
theorem dX11_opensFrame_95 : decode cX11_opensFrame 95 = .ok (.iadd, 1) := by decide +kernel
theorem dX11_opensFrame_96 : decode cX11_opensFrame 96 = .ok (.iconst 0, 1) := by decide +kernel
theorem dX11_opensFrame_97 : decode cX11_opensFrame 97 = .ok (.iastore, 1) := by decide +kernel
theorem dX11_opensFrame_98 : decode cX11_opensFrame 98 = .ok (.iinc 3 1, 3) := by decide +kernel
theorem dX11_opensFrame_101 : decode cX11_opensFrame 101 = .ok (.goto (-39), 3) := by decide +kernel
theorem dX11_opensFrame_104 : decode cX11_opensFrame 104 = .ok (.aload_n 0, 1) := by decide +kernel
theorem dX11_opensFrame_105 : decode cX11_opensFrame 105 = .ok (.iconst 1, 1) := by decide +kernel
theorem dX11_opensFrame_106 : decode cX11_opensFrame 106 = .ok (.putfield 194, 3) := by decide +kernel
theorem dX11_opensFrame_109 : decode cX11_opensFrame 109 = .ok (.return_, 1) := by decide +kernel
theorem dX11_opensAnother_0 : decode cX11_opensAnother 0 = .ok (.aload_n 0, 1) := by decide +kernel
theorem dX11_opensAnother_1 : decode cX11_opensAnother 1 = .ok (.invokevirtual 179, 3) := by decide +kernel
theorem dX11_opensAnother_4 : decode cX11_opensAnother 4 = .ok (.bipush 40, 2) := by decide +kernel
theorem dX11_opensAnother_6 : decode cX11_opensAnother 6 = .ok (.if_icmp .eq 13, 3) := by decide +kernel
theorem dX11_opensAnother_9 : decode cX11_opensAnother 9 = .ok (.aload_n 0, 1) := by decide +kernel
theorem dX11_opensAnother_10 : decode cX11_opensAnother 10 = .ok (.iconst 1, 1) := by decide +kernel
theorem dX11_opensAnother_11 : decode cX11_opensAnother 11 = .ok (.aload_n 0, 1) := by decide +kernel
theorem dX11_opensAnother_12 : decode cX11_opensAnother 12 = .ok (.getfield 166, 3) := by decide +kernel
theorem dX11_opensAnother_15 : decode cX11_opensAnother 15 = .ok (.invokevirtual 182, 3) := by decide +kernel
theorem dX11_opensAnother_18 : decode cX11_opensAnother 18 = .ok (.ireturn, 1) := by decide +kernel
theorem dX11_opensAnother_19 : decode cX11_opensAnother 19 = .ok (.aload_n 0, 1) := by decide +kernel
theorem dX11_opensAnother_20 : decode cX11_opensAnother 20 = .ok (.getfield 191, 3) := by decide +kernel
theorem dX11_opensAnother_23 : decode cX11_opensAnother 23 = .ok (.bipush 6, 2) := by decide +kernel
theorem dX11_opensAnother_25 : decode cX11_opensAnother 25 = .ok (.if_icmp .ne 13, 3) := by decide +kernel
theorem dX11_opensAnother_28 : decode cX11_opensAnother 28 = .ok (.aload_n 0, 1) := by decide +kernel
theorem dX11_opensAnother_29 : decode cX11_opensAnother 29 = .ok (.iconst 5, 1) := by decide +kernel
theorem dX11_opensAnother_30 : decode cX11_opensAnother 30 = .ok (.aload_n 0, 1) := by decide +kernel
theorem dX11_opensAnother_31 : decode cX11_opensAnother 31 = .ok (.getfield 166, 3) := by decide +kernel
theorem dX11_opensAnother_34 : decode cX11_opensAnother 34 = .ok (.invokevirtual 182, 3) := by decide +kernel
theorem dX11_opensAnother_37 : decode cX11_opensAnother 37 = .ok (.ireturn, 1) := by decide +kernel
theorem dX11_opensAnother_38 : decode cX11_opensAnother 38 = .ok (.aload_n 0, 1) := by decide +kernel
theorem dX11_opensAnother_39 : decode cX11_opensAnother 39 = .ok (.aload_n 0, 1) := by decide +kernel
theorem dX11_opensAnother_40 : decode cX11_opensAnother 40 = .ok (.getfield 166, 3) := by decide +kernel
theorem dX11_opensAnother_43 : decode cX11_opensAnother 43 = .ok (.iconst 1, 1) := by decide +kernel
theorem dX11_opensAnother_44 : decode cX11_opensAnother 44 = .ok (.iadd, 1) := by decide +kernel
theorem dX11_opensAnother_45 : decode cX11_opensAnother 45 = .ok (.putfield 166, 3) := by decide +kernel
theorem dX11_opensAnother_48 : decode cX11_opensAnother 48 = .ok (.iload_n 1, 1) := by decide +kernel
theorem dX11_opensAnother_49 : decode cX11_opensAnother 49 = .ok (.iconst (-1), 1) := by decide +kernel
theorem dX11_opensAnother_50 : decode cX11_opensAnother 50 = .ok (.if_icmp .eq 46, 3) := by decide +kernel
theorem dX11_opensAnother_53 : decode cX11_opensAnother 53 = .ok (.aload_n 0, 1) := by decide +kernel
theorem dX11_opensAnother_54 : decode cX11_opensAnother 54 = .ok (.invokevirtual 198, 3) := by decide +kernel
theorem dX11_opensAnother_57 : decode cX11_opensAnother 57 = .ok (.ifCond .ne 5, 3) := by decide +kernel
theorem dX11_opensAnother_60 : decode cX11_opensAnother 60 = .ok (.iconst 0, 1) := by decide +kernel
theorem dX11_opensAnother_61 : decode cX11_opensAnother 61 = .ok (.ireturn, 1) := by decide +kernel
theorem dX11_opensAnother_62 : decode cX11_opensAnother 62 = .ok (.aload_n 0, 1) := by decide +kernel
theorem dX11_opensAnother_63 : decode cX11_opensAnother 63 = .ok (.getfield 185, 3) := by decide +kernel
theorem dX11_opensAnother_66 : decode cX11_opensAnother 66 = .ok (.istore_n 3, 1) := by decide +kernel
theorem dX11_opensAnother_67 : decode cX11_opensAnother 67 = .ok (.aload_n 0, 1) := by decide +kernel
theorem dX11_opensAnother_68 : decode cX11_opensAnother 68 = .ok (.bipush 58, 2) := by decide +kernel
theorem dX11_opensAnother_70 : decode cX11_opensAnother 70 = .ok (.invokevirtual 202, 3) := by decide +kernel
theorem dX11_opensAnother_73 : decode cX11_opensAnother 73 = .ok (.ifCond .ne 5, 3) := by decide +kernel
theorem dX11_opensAnother_76 : decode cX11_opensAnother 76 = .ok (.iconst 0, 1) := by decide +kernel
theorem dX11_opensAnother_77 : decode cX11_opensAnother 77 = .ok (.ireturn, 1) := by decide +kernel
theorem dX11_opensAnother_78 : decode cX11_opensAnother 78 = .ok (.aload_n 0, 1) := by decide +kernel
theorem dX11_opensAnother_79 : decode cX11_opensAnother 79 = .ok (.aload_n 0, 1) := by decide +kernel
theorem dX11_opensAnother_80 : decode cX11_opensAnother 80 = .ok (.getfield 191, 3) := by decide +kernel
theorem dX11_opensAnother_83 : decode cX11_opensAnother 83 = .ok (.iconst 1, 1) := by decide +kernel
theorem dX11_opensAnother_84 : decode cX11_opensAnother 84 = .ok (.iadd, 1) := by decide +kernel
theorem dX11_opensAnother_85 : decode cX11_opensAnother 85 = .ok (.putfield 191, 3) := by decide +kernel
theorem dX11_opensAnother_88 : decode cX11_opensAnother 88 = .ok (.aload_n 0, 1) := by decide +kernel
theorem dX11_opensAnother_89 : decode cX11_opensAnother 89 = .ok (.iload_n 1, 1) := by decide +kernel
theorem dX11_opensAnother_90 : decode cX11_opensAnother 90 = .ok (.iload_n 3, 1) := by decide +kernel
theorem dX11_opensAnother_91 : decode cX11_opensAnother 91 = .ok (.invokevirtual 205, 3) := by decide +kernel
theorem dX11_opensAnother_94 : decode cX11_opensAnother 94 = .ok (.iconst 1, 1) := by decide +kernel
theorem dX11_opensAnother_95 : decode cX11_opensAnother 95 = .ok (.ireturn, 1) := by decide +kernel
theorem dX11_opensAnother_96 : decode cX11_opensAnother 96 = .ok (.aload_n 0, 1) := by decide +kernel
theorem dX11_opensAnother_97 : decode cX11_opensAnother 97 = .ok (.aload_n 0, 1) := by decide +kernel
theorem dX11_opensAnother_98 : decode cX11_opensAnother 98 = .ok (.getfield 191, 3) := by decide +kernel
theorem dX11_opensAnother_101 : decode cX11_opensAnother 101 = .ok (.iconst 1, 1) := by decide +kernel
theorem dX11_opensAnother_102 : decode cX11_opensAnother 102 = .ok (.iadd, 1) := by decide +kernel
theorem dX11_opensAnother_103 : decode cX11_opensAnother 103 = .ok (.putfield 191, 3) := by decide +kernel
theorem dX11_opensAnother_106 : decode cX11_opensAnother 106 = .ok (.aload_n 0, 1) := by decide +kernel
theorem dX11_opensAnother_107 : decode cX11_opensAnother 107 = .ok (.iconst (-1), 1) := by decide +kernel
theorem dX11_opensAnother_108 : decode cX11_opensAnother 108 = .ok (.iload_n 2, 1) := by decide +kernel
theorem dX11_opensAnother_109 : decode cX11_opensAnother 109 = .ok (.invokevirtual 205, 3) := by decide +kernel
theorem dX11_opensAnother_112 : decode cX11_opensAnother 112 = .ok (.iconst 1, 1) := by decide +kernel
theorem dX11_opensAnother_113 : decode cX11_opensAnother 113 = .ok (.ireturn, 1) := by decide +kernel
theorem dX11_endsPart_0 : decode cX11_endsPart 0 = .ok (.bipush 7, 2) := by decide +kernel
theorem dX11_endsPart_2 : decode cX11_endsPart 2 = .ok (.aload_n 0, 1) := by decide +kernel
theorem dX11_endsPart_3 : decode cX11_endsPart 3 = .ok (.getfield 191, 3) := by decide +kernel
theorem dX11_endsPart_6 : decode cX11_endsPart 6 = .ok (.imul, 1) := by decide +kernel
theorem dX11_endsPart_7 : decode cX11_endsPart 7 = .ok (.istore_n 1, 1) := by decide +kernel
theorem dX11_endsPart_8 : decode cX11_endsPart 8 = .ok (.aload_n 0, 1) := by decide +kernel
theorem dX11_endsPart_9 : decode cX11_endsPart 9 = .ok (.iconst 0, 1) := by decide +kernel
theorem dX11_endsPart_10 : decode cX11_endsPart 10 = .ok (.putfield 194, 3) := by decide +kernel
theorem dX11_endsPart_13 : decode cX11_endsPart 13 = .ok (.aload_n 0, 1) := by decide +kernel
theorem dX11_endsPart_14 : decode cX11_endsPart 14 = .ok (.getfield 65, 3) := by decide +kernel
theorem dX11_endsPart_17 : decode cX11_endsPart 17 = .ok (.aload_n 0, 1) := by decide +kernel
theorem dX11_endsPart_18 : decode cX11_endsPart 18 = .ok (.getfield 191, 3) := by decide +kernel
theorem dX11_endsPart_21 : decode cX11_endsPart 21 = .ok (.iaload, 1) := by decide +kernel
theorem dX11_endsPart_22 : decode cX11_endsPart 22 = .ok (.iconst (-1), 1) := by decide +kernel
theorem dX11_endsPart_23 : decode cX11_endsPart 23 = .ok (.if_icmp .ne 46, 3) := by decide +kernel
theorem dX11_endsPart_26 : decode cX11_endsPart 26 = .ok (.iconst 0, 1) := by decide +kernel
theorem dX11_endsPart_27 : decode cX11_endsPart 27 = .ok (.istore_n 2, 1) := by decide +kernel
theorem dX11_endsPart_28 : decode cX11_endsPart 28 = .ok (.iload_n 2, 1) := by decide +kernel
theorem dX11_endsPart_29 : decode cX11_endsPart 29 = .ok (.bipush 7, 2) := by decide +kernel
theorem dX11_endsPart_31 : decode cX11_endsPart 31 = .ok (.if_icmp .ge 23, 3) := by decide +kernel
theorem dX11_endsPart_34 : decode cX11_endsPart 34 = .ok (.aload_n 0, 1) := by decide +kernel
theorem dX11_endsPart_35 : decode cX11_endsPart 35 = .ok (.getfield 50, 3) := by decide +kernel
theorem dX11_endsPart_38 : decode cX11_endsPart 38 = .ok (.iload_n 1, 1) := by decide +kernel
theorem dX11_endsPart_39 : decode cX11_endsPart 39 = .ok (.iload_n 2, 1) := by decide +kernel
theorem dX11_endsPart_40 : decode cX11_endsPart 40 = .ok (.iadd, 1) := by decide +kernel
theorem dX11_endsPart_41 : decode cX11_endsPart 41 = .ok (.aload_n 0, 1) := by decide +kernel
theorem dX11_endsPart_42 : decode cX11_endsPart 42 = .ok (.getfield 53, 3) := by decide +kernel
theorem dX11_endsPart_45 : decode cX11_endsPart 45 = .ok (.iload_n 2, 1) := by decide +kernel
theorem dX11_endsPart_46 : decode cX11_endsPart 46 = .ok (.iaload, 1) := by decide +kernel
theorem dX11_endsPart_47 : decode cX11_endsPart 47 = .ok (.iastore, 1) := by decide +kernel
theorem dX11_endsPart_48 : decode cX11_endsPart 48 = .ok (.iinc 2 1, 3) := by decide +kernel
theorem dX11_endsPart_51 : decode cX11_endsPart 51 = .ok (.goto (-23), 3) := by decide +kernel
theorem dX11_endsPart_54 : decode cX11_endsPart 54 = .ok (.aload_n 0, 1) := by decide +kernel
theorem dX11_endsPart_55 : decode cX11_endsPart 55 = .ok (.getfield 59, 3) := by decide +kernel
theorem dX11_endsPart_58 : decode cX11_endsPart 58 = .ok (.aload_n 0, 1) := by decide +kernel
theorem dX11_endsPart_59 : decode cX11_endsPart 59 = .ok (.getfield 191, 3) := by decide +kernel
theorem dX11_endsPart_62 : decode cX11_endsPart 62 = .ok (.aload_n 0, 1) := by decide +kernel
theorem dX11_endsPart_63 : decode cX11_endsPart 63 = .ok (.getfield 188, 3) := by decide +kernel
theorem dX11_endsPart_66 : decode cX11_endsPart 66 = .ok (.iastore, 1) := by decide +kernel

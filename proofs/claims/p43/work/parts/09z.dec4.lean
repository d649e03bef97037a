theorem dX11_endsPart_67 : decode cX11_endsPart 67 = .ok (.iconst 1, 1) := by decide +kernel
theorem dX11_endsPart_68 : decode cX11_endsPart 68 = .ok (.ireturn, 1) := by decide +kernel
theorem dX11_endsPart_69 : decode cX11_endsPart 69 = .ok (.aload_n 0, 1) := by decide +kernel
theorem dX11_endsPart_70 : decode cX11_endsPart 70 = .ok (.getfield 59, 3) := by decide +kernel
theorem dX11_endsPart_73 : decode cX11_endsPart 73 = .ok (.aload_n 0, 1) := by decide +kernel
theorem dX11_endsPart_74 : decode cX11_endsPart 74 = .ok (.getfield 191, 3) := by decide +kernel
theorem dX11_endsPart_77 : decode cX11_endsPart 77 = .ok (.iaload, 1) := by decide +kernel
theorem dX11_endsPart_78 : decode cX11_endsPart 78 = .ok (.iconst 1, 1) := by decide +kernel
theorem dX11_endsPart_79 : decode cX11_endsPart 79 = .ok (.if_icmp .ne 27, 3) := by decide +kernel
theorem dX11_endsPart_82 : decode cX11_endsPart 82 = .ok (.aload_n 0, 1) := by decide +kernel
theorem dX11_endsPart_83 : decode cX11_endsPart 83 = .ok (.getfield 188, 3) := by decide +kernel
theorem dX11_endsPart_86 : decode cX11_endsPart 86 = .ok (.iconst 1, 1) := by decide +kernel
theorem dX11_endsPart_87 : decode cX11_endsPart 87 = .ok (.if_icmp .ne 19, 3) := by decide +kernel
theorem dX11_endsPart_90 : decode cX11_endsPart 90 = .ok (.aload_n 0, 1) := by decide +kernel
theorem dX11_endsPart_91 : decode cX11_endsPart 91 = .ok (.bipush 8, 2) := by decide +kernel
theorem dX11_endsPart_93 : decode cX11_endsPart 93 = .ok (.aload_n 0, 1) := by decide +kernel
theorem dX11_endsPart_94 : decode cX11_endsPart 94 = .ok (.getfield 65, 3) := by decide +kernel
theorem dX11_endsPart_97 : decode cX11_endsPart 97 = .ok (.aload_n 0, 1) := by decide +kernel
theorem dX11_endsPart_98 : decode cX11_endsPart 98 = .ok (.getfield 191, 3) := by decide +kernel
theorem dX11_endsPart_101 : decode cX11_endsPart 101 = .ok (.iaload, 1) := by decide +kernel
theorem dX11_endsPart_102 : decode cX11_endsPart 102 = .ok (.invokevirtual 182, 3) := by decide +kernel
theorem dX11_endsPart_105 : decode cX11_endsPart 105 = .ok (.ireturn, 1) := by decide +kernel
theorem dX11_endsPart_106 : decode cX11_endsPart 106 = .ok (.aload_n 0, 1) := by decide +kernel
theorem dX11_endsPart_107 : decode cX11_endsPart 107 = .ok (.getfield 188, 3) := by decide +kernel
theorem dX11_endsPart_110 : decode cX11_endsPart 110 = .ok (.iconst 1, 1) := by decide +kernel
theorem dX11_endsPart_111 : decode cX11_endsPart 111 = .ok (.if_icmp .ne 15, 3) := by decide +kernel
theorem dX11_endsPart_114 : decode cX11_endsPart 114 = .ok (.aload_n 0, 1) := by decide +kernel
theorem dX11_endsPart_115 : decode cX11_endsPart 115 = .ok (.getfield 50, 3) := by decide +kernel
theorem dX11_endsPart_118 : decode cX11_endsPart 118 = .ok (.iload_n 1, 1) := by decide +kernel
theorem dX11_endsPart_119 : decode cX11_endsPart 119 = .ok (.bipush 6, 2) := by decide +kernel
theorem dX11_endsPart_121 : decode cX11_endsPart 121 = .ok (.iadd, 1) := by decide +kernel
theorem dX11_endsPart_122 : decode cX11_endsPart 122 = .ok (.iaload, 1) := by decide +kernel
theorem dX11_endsPart_123 : decode cX11_endsPart 123 = .ok (.goto 10, 3) := by decide +kernel
theorem dX11_endsPart_126 : decode cX11_endsPart 126 = .ok (.aload_n 0, 1) := by decide +kernel
theorem dX11_endsPart_127 : decode cX11_endsPart 127 = .ok (.getfield 53, 3) := by decide +kernel
theorem dX11_endsPart_130 : decode cX11_endsPart 130 = .ok (.bipush 6, 2) := by decide +kernel
theorem dX11_endsPart_132 : decode cX11_endsPart 132 = .ok (.iaload, 1) := by decide +kernel
theorem dX11_endsPart_133 : decode cX11_endsPart 133 = .ok (.istore_n 2, 1) := by decide +kernel
theorem dX11_endsPart_134 : decode cX11_endsPart 134 = .ok (.iconst 0, 1) := by decide +kernel
theorem dX11_endsPart_135 : decode cX11_endsPart 135 = .ok (.istore_n 3, 1) := by decide +kernel
theorem dX11_endsPart_136 : decode cX11_endsPart 136 = .ok (.iload_n 3, 1) := by decide +kernel
theorem dX11_endsPart_137 : decode cX11_endsPart 137 = .ok (.bipush 7, 2) := by decide +kernel
theorem dX11_endsPart_139 : decode cX11_endsPart 139 = .ok (.if_icmp .ge 44, 3) := by decide +kernel
theorem dX11_endsPart_142 : decode cX11_endsPart 142 = .ok (.aload_n 0, 1) := by decide +kernel
theorem dX11_endsPart_143 : decode cX11_endsPart 143 = .ok (.getfield 50, 3) := by decide +kernel
theorem dX11_endsPart_146 : decode cX11_endsPart 146 = .ok (.iload_n 1, 1) := by decide +kernel
theorem dX11_endsPart_147 : decode cX11_endsPart 147 = .ok (.iload_n 3, 1) := by decide +kernel
theorem dX11_endsPart_148 : decode cX11_endsPart 148 = .ok (.iadd, 1) := by decide +kernel
theorem dX11_endsPart_149 : decode cX11_endsPart 149 = .ok (.iload_n 2, 1) := by decide +kernel
theorem dX11_endsPart_150 : decode cX11_endsPart 150 = .ok (.aload_n 0, 1) := by decide +kernel
theorem dX11_endsPart_151 : decode cX11_endsPart 151 = .ok (.getfield 188, 3) := by decide +kernel
theorem dX11_endsPart_154 : decode cX11_endsPart 154 = .ok (.iconst 1, 1) := by decide +kernel
theorem dX11_endsPart_155 : decode cX11_endsPart 155 = .ok (.if_icmp .ne 12, 3) := by decide +kernel
theorem dX11_endsPart_158 : decode cX11_endsPart 158 = .ok (.aload_n 0, 1) := by decide +kernel
theorem dX11_endsPart_159 : decode cX11_endsPart 159 = .ok (.getfield 53, 3) := by decide +kernel
theorem dX11_endsPart_162 : decode cX11_endsPart 162 = .ok (.iload_n 3, 1) := by decide +kernel
theorem dX11_endsPart_163 : decode cX11_endsPart 163 = .ok (.iaload, 1) := by decide +kernel
theorem dX11_endsPart_164 : decode cX11_endsPart 164 = .ok (.goto 11, 3) := by decide +kernel
theorem dX11_endsPart_167 : decode cX11_endsPart 167 = .ok (.aload_n 0, 1) := by decide +kernel
theorem dX11_endsPart_168 : decode cX11_endsPart 168 = .ok (.getfield 50, 3) := by decide +kernel
theorem dX11_endsPart_171 : decode cX11_endsPart 171 = .ok (.iload_n 1, 1) := by decide +kernel
theorem dX11_endsPart_172 : decode cX11_endsPart 172 = .ok (.iload_n 3, 1) := by decide +kernel
theorem dX11_endsPart_173 : decode cX11_endsPart 173 = .ok (.iadd, 1) := by decide +kernel
theorem dX11_endsPart_174 : decode cX11_endsPart 174 = .ok (.iaload, 1) := by decide +kernel
theorem dX11_endsPart_175 : decode cX11_endsPart 175 = .ok (.imul, 1) := by decide +kernel
theorem dX11_endsPart_176 : decode cX11_endsPart 176 = .ok (.iastore, 1) := by decide +kernel
theorem dX11_endsPart_177 : decode cX11_endsPart 177 = .ok (.iinc 3 1, 3) := by decide +kernel
theorem dX11_endsPart_180 : decode cX11_endsPart 180 = .ok (.goto (-44), 3) := by decide +kernel
theorem dX11_endsPart_183 : decode cX11_endsPart 183 = .ok (.aload_n 0, 1) := by decide +kernel
theorem dX11_endsPart_184 : decode cX11_endsPart 184 = .ok (.getfield 59, 3) := by decide +kernel
theorem dX11_endsPart_187 : decode cX11_endsPart 187 = .ok (.aload_n 0, 1) := by decide +kernel
theorem dX11_endsPart_188 : decode cX11_endsPart 188 = .ok (.getfield 191, 3) := by decide +kernel
theorem dX11_endsPart_191 : decode cX11_endsPart 191 = .ok (.aload_n 0, 1) := by decide +kernel
theorem dX11_endsPart_192 : decode cX11_endsPart 192 = .ok (.getfield 59, 3) := by decide +kernel
theorem dX11_endsPart_195 : decode cX11_endsPart 195 = .ok (.aload_n 0, 1) := by decide +kernel
theorem dX11_endsPart_196 : decode cX11_endsPart 196 = .ok (.getfield 191, 3) := by decide +kernel
theorem dX11_endsPart_199 : decode cX11_endsPart 199 = .ok (.iaload, 1) := by decide +kernel
theorem dX11_endsPart_200 : decode cX11_endsPart 200 = .ok (.aload_n 0, 1) := by decide +kernel
theorem dX11_endsPart_201 : decode cX11_endsPart 201 = .ok (.getfield 188, 3) := by decide +kernel
theorem dX11_endsPart_204 : decode cX11_endsPart 204 = .ok (.invokestatic 209, 3) := by decide +kernel
theorem dX11_endsPart_207 : decode cX11_endsPart 207 = .ok (.iastore, 1) := by decide +kernel
theorem dX11_endsPart_208 : decode cX11_endsPart 208 = .ok (.iconst 1, 1) := by decide +kernel
theorem dX11_endsPart_209 : decode cX11_endsPart 209 = .ok (.ireturn, 1) := by decide +kernel
theorem dX11_endsTerm_0 : decode cX11_endsTerm 0 = .ok (.bipush 7, 2) := by decide +kernel
theorem dX11_endsTerm_2 : decode cX11_endsTerm 2 = .ok (.aload_n 0, 1) := by decide +kernel
theorem dX11_endsTerm_3 : decode cX11_endsTerm 3 = .ok (.getfield 191, 3) := by decide +kernel
theorem dX11_endsTerm_6 : decode cX11_endsTerm 6 = .ok (.imul, 1) := by decide +kernel
theorem dX11_endsTerm_7 : decode cX11_endsTerm 7 = .ok (.istore_n 1, 1) := by decide +kernel
theorem dX11_endsTerm_8 : decode cX11_endsTerm 8 = .ok (.iconst 0, 1) := by decide +kernel
theorem dX11_endsTerm_9 : decode cX11_endsTerm 9 = .ok (.istore_n 2, 1) := by decide +kernel
theorem dX11_endsTerm_10 : decode cX11_endsTerm 10 = .ok (.iload_n 2, 1) := by decide +kernel
theorem dX11_endsTerm_11 : decode cX11_endsTerm 11 = .ok (.bipush 7, 2) := by decide +kernel
theorem dX11_endsTerm_13 : decode cX11_endsTerm 13 = .ok (.if_icmp .ge 44, 3) := by decide +kernel
theorem dX11_endsTerm_16 : decode cX11_endsTerm 16 = .ok (.aload_n 0, 1) := by decide +kernel
theorem dX11_endsTerm_17 : decode cX11_endsTerm 17 = .ok (.getfield 47, 3) := by decide +kernel
theorem dX11_endsTerm_20 : decode cX11_endsTerm 20 = .ok (.iload_n 1, 1) := by decide +kernel
theorem dX11_endsTerm_21 : decode cX11_endsTerm 21 = .ok (.iload_n 2, 1) := by decide +kernel
theorem dX11_endsTerm_22 : decode cX11_endsTerm 22 = .ok (.iadd, 1) := by decide +kernel
theorem dX11_endsTerm_23 : decode cX11_endsTerm 23 = .ok (.aload_n 0, 1) := by decide +kernel
theorem dX11_endsTerm_24 : decode cX11_endsTerm 24 = .ok (.getfield 47, 3) := by decide +kernel
theorem dX11_endsTerm_27 : decode cX11_endsTerm 27 = .ok (.iload_n 1, 1) := by decide +kernel
theorem dX11_endsTerm_28 : decode cX11_endsTerm 28 = .ok (.iload_n 2, 1) := by decide +kernel
theorem dX11_endsTerm_29 : decode cX11_endsTerm 29 = .ok (.iadd, 1) := by decide +kernel
theorem dX11_endsTerm_30 : decode cX11_endsTerm 30 = .ok (.iaload, 1) := by decide +kernel
theorem dX11_endsTerm_31 : decode cX11_endsTerm 31 = .ok (.aload_n 0, 1) := by decide +kernel
theorem dX11_endsTerm_32 : decode cX11_endsTerm 32 = .ok (.getfield 62, 3) := by decide +kernel
theorem dX11_endsTerm_35 : decode cX11_endsTerm 35 = .ok (.aload_n 0, 1) := by decide +kernel
theorem dX11_endsTerm_36 : decode cX11_endsTerm 36 = .ok (.getfield 191, 3) := by decide +kernel
theorem dX11_endsTerm_39 : decode cX11_endsTerm 39 = .ok (.iaload, 1) := by decide +kernel
theorem dX11_endsTerm_40 : decode cX11_endsTerm 40 = .ok (.aload_n 0, 1) := by decide +kernel
theorem dX11_endsTerm_41 : decode cX11_endsTerm 41 = .ok (.getfield 50, 3) := by decide +kernel
theorem dX11_endsTerm_44 : decode cX11_endsTerm 44 = .ok (.iload_n 1, 1) := by decide +kernel
theorem dX11_endsTerm_45 : decode cX11_endsTerm 45 = .ok (.iload_n 2, 1) := by decide +kernel
theorem dX11_endsTerm_46 : decode cX11_endsTerm 46 = .ok (.iadd, 1) := by decide +kernel
theorem dX11_endsTerm_47 : decode cX11_endsTerm 47 = .ok (.iaload, 1) := by decide +kernel
theorem dX11_endsTerm_48 : decode cX11_endsTerm 48 = .ok (.imul, 1) := by decide +kernel
theorem dX11_endsTerm_49 : decode cX11_endsTerm 49 = .ok (.iadd, 1) := by decide +kernel
theorem dX11_endsTerm_50 : decode cX11_endsTerm 50 = .ok (.iastore, 1) := by decide +kernel
theorem dX11_endsTerm_51 : decode cX11_endsTerm 51 = .ok (.iinc 2 1, 3) := by decide +kernel
theorem dX11_endsTerm_54 : decode cX11_endsTerm 54 = .ok (.goto (-44), 3) := by decide +kernel
theorem dX11_endsTerm_57 : decode cX11_endsTerm 57 = .ok (.aload_n 0, 1) := by decide +kernel
theorem dX11_endsTerm_58 : decode cX11_endsTerm 58 = .ok (.getfield 56, 3) := by decide +kernel
theorem dX11_endsTerm_61 : decode cX11_endsTerm 61 = .ok (.aload_n 0, 1) := by decide +kernel
theorem dX11_endsTerm_62 : decode cX11_endsTerm 62 = .ok (.getfield 191, 3) := by decide +kernel
theorem dX11_endsTerm_65 : decode cX11_endsTerm 65 = .ok (.aload_n 0, 1) := by decide +kernel
theorem dX11_endsTerm_66 : decode cX11_endsTerm 66 = .ok (.getfield 56, 3) := by decide +kernel
theorem dX11_endsTerm_69 : decode cX11_endsTerm 69 = .ok (.aload_n 0, 1) := by decide +kernel
theorem dX11_endsTerm_70 : decode cX11_endsTerm 70 = .ok (.getfield 191, 3) := by decide +kernel
theorem dX11_endsTerm_73 : decode cX11_endsTerm 73 = .ok (.iaload, 1) := by decide +kernel
theorem dX11_endsTerm_74 : decode cX11_endsTerm 74 = .ok (.aload_n 0, 1) := by decide +kernel
theorem dX11_endsTerm_75 : decode cX11_endsTerm 75 = .ok (.getfield 59, 3) := by decide +kernel
theorem dX11_endsTerm_78 : decode cX11_endsTerm 78 = .ok (.aload_n 0, 1) := by decide +kernel
theorem dX11_endsTerm_79 : decode cX11_endsTerm 79 = .ok (.getfield 191, 3) := by decide +kernel
theorem dX11_endsTerm_82 : decode cX11_endsTerm 82 = .ok (.iaload, 1) := by decide +kernel
theorem dX11_endsTerm_83 : decode cX11_endsTerm 83 = .ok (.invokestatic 209, 3) := by decide +kernel
theorem dX11_endsTerm_86 : decode cX11_endsTerm 86 = .ok (.iastore, 1) := by decide +kernel
theorem dX11_endsTerm_87 : decode cX11_endsTerm 87 = .ok (.aload_n 0, 1) := by decide +kernel
theorem dX11_endsTerm_88 : decode cX11_endsTerm 88 = .ok (.getfield 65, 3) := by decide +kernel
theorem dX11_endsTerm_91 : decode cX11_endsTerm 91 = .ok (.aload_n 0, 1) := by decide +kernel
theorem dX11_endsTerm_92 : decode cX11_endsTerm 92 = .ok (.getfield 191, 3) := by decide +kernel
theorem dX11_endsTerm_95 : decode cX11_endsTerm 95 = .ok (.iconst (-1), 1) := by decide +kernel
theorem dX11_endsTerm_96 : decode cX11_endsTerm 96 = .ok (.iastore, 1) := by decide +kernel
theorem dX11_endsTerm_97 : decode cX11_endsTerm 97 = .ok (.return_, 1) := by decide +kernel
theorem dX11_readsPart_0 : decode cX11_readsPart 0 = .ok (.aload_n 0, 1) := by decide +kernel
theorem dX11_readsPart_1 : decode cX11_readsPart 1 = .ok (.invokevirtual 179, 3) := by decide +kernel
theorem dX11_readsPart_4 : decode cX11_readsPart 4 = .ok (.istore_n 1, 1) := by decide +kernel
theorem dX11_readsPart_5 : decode cX11_readsPart 5 = .ok (.iload_n 1, 1) := by decide +kernel
theorem dX11_readsPart_6 : decode cX11_readsPart 6 = .ok (.bipush 40, 2) := by decide +kernel
theorem dX11_readsPart_8 : decode cX11_readsPart 8 = .ok (.if_icmp .ne 10, 3) := by decide +kernel
theorem dX11_readsPart_11 : decode cX11_readsPart 11 = .ok (.aload_n 0, 1) := by decide +kernel
theorem dX11_readsPart_12 : decode cX11_readsPart 12 = .ok (.iconst (-1), 1) := by decide +kernel
theorem dX11_readsPart_13 : decode cX11_readsPart 13 = .ok (.iconst (-1), 1) := by decide +kernel
theorem dX11_readsPart_14 : decode cX11_readsPart 14 = .ok (.invokevirtual 213, 3) := by decide +kernel
theorem dX11_readsPart_17 : decode cX11_readsPart 17 = .ok (.ireturn, 1) := by decide +kernel
theorem dX11_readsPart_18 : decode cX11_readsPart 18 = .ok (.aload_n 0, 1) := by decide +kernel
theorem dX11_readsPart_19 : decode cX11_readsPart 19 = .ok (.invokevirtual 216, 3) := by decide +kernel
theorem dX11_readsPart_22 : decode cX11_readsPart 22 = .ok (.iload_n 1, 1) := by decide +kernel
theorem dX11_readsPart_23 : decode cX11_readsPart 23 = .ok (.bipush 48, 2) := by decide +kernel
theorem dX11_readsPart_25 : decode cX11_readsPart 25 = .ok (.bipush 57, 2) := by decide +kernel
theorem dX11_readsPart_27 : decode cX11_readsPart 27 = .ok (.invokestatic 137, 3) := by decide +kernel
theorem dX11_readsPart_30 : decode cX11_readsPart 30 = .ok (.ifCond .eq 28, 3) := by decide +kernel
theorem dX11_readsPart_33 : decode cX11_readsPart 33 = .ok (.aload_n 0, 1) := by decide +kernel
theorem dX11_readsPart_34 : decode cX11_readsPart 34 = .ok (.invokevirtual 219, 3) := by decide +kernel
theorem dX11_readsPart_37 : decode cX11_readsPart 37 = .ok (.ifCond .ne 5, 3) := by decide +kernel
theorem dX11_readsPart_40 : decode cX11_readsPart 40 = .ok (.iconst 0, 1) := by decide +kernel
theorem dX11_readsPart_41 : decode cX11_readsPart 41 = .ok (.ireturn, 1) := by decide +kernel
theorem dX11_readsPart_42 : decode cX11_readsPart 42 = .ok (.aload_n 0, 1) := by decide +kernel
theorem dX11_readsPart_43 : decode cX11_readsPart 43 = .ok (.getfield 53, 3) := by decide +kernel
theorem dX11_readsPart_46 : decode cX11_readsPart 46 = .ok (.bipush 6, 2) := by decide +kernel
theorem dX11_readsPart_48 : decode cX11_readsPart 48 = .ok (.aload_n 0, 1) := by decide +kernel
theorem dX11_readsPart_49 : decode cX11_readsPart 49 = .ok (.getfield 185, 3) := by decide +kernel
theorem dX11_readsPart_52 : decode cX11_readsPart 52 = .ok (.iastore, 1) := by decide +kernel
theorem dX11_readsPart_53 : decode cX11_readsPart 53 = .ok (.aload_n 0, 1) := by decide +kernel
theorem dX11_readsPart_54 : decode cX11_readsPart 54 = .ok (.invokevirtual 222, 3) := by decide +kernel
theorem dX11_readsPart_57 : decode cX11_readsPart 57 = .ok (.ireturn, 1) := by decide +kernel
theorem dX11_readsPart_58 : decode cX11_readsPart 58 = .ok (.aload_n 0, 1) := by decide +kernel
theorem dX11_readsPart_59 : decode cX11_readsPart 59 = .ok (.invokevirtual 198, 3) := by decide +kernel
theorem dX11_readsPart_62 : decode cX11_readsPart 62 = .ok (.ifCond .ne 5, 3) := by decide +kernel
theorem dX11_readsPart_65 : decode cX11_readsPart 65 = .ok (.iconst 0, 1) := by decide +kernel
theorem dX11_readsPart_66 : decode cX11_readsPart 66 = .ok (.ireturn, 1) := by decide +kernel
theorem dX11_readsPart_67 : decode cX11_readsPart 67 = .ok (.aload_n 0, 1) := by decide +kernel
theorem dX11_readsPart_68 : decode cX11_readsPart 68 = .ok (.getfield 185, 3) := by decide +kernel
theorem dX11_readsPart_71 : decode cX11_readsPart 71 = .ok (.istore_n 2, 1) := by decide +kernel
theorem dX11_readsPart_72 : decode cX11_readsPart 72 = .ok (.aload_n 0, 1) := by decide +kernel
theorem dX11_readsPart_73 : decode cX11_readsPart 73 = .ok (.invokevirtual 179, 3) := by decide +kernel
theorem dX11_readsPart_76 : decode cX11_readsPart 76 = .ok (.bipush 64, 2) := by decide +kernel
theorem dX11_readsPart_78 : decode cX11_readsPart 78 = .ok (.if_icmp .ne 20, 3) := by decide +kernel
theorem dX11_readsPart_81 : decode cX11_readsPart 81 = .ok (.aload_n 0, 1) := by decide +kernel
theorem dX11_readsPart_82 : decode cX11_readsPart 82 = .ok (.aload_n 0, 1) := by decide +kernel
theorem dX11_readsPart_83 : decode cX11_readsPart 83 = .ok (.getfield 166, 3) := by decide +kernel
theorem dX11_readsPart_86 : decode cX11_readsPart 86 = .ok (.iconst 1, 1) := by decide +kernel
theorem dX11_readsPart_87 : decode cX11_readsPart 87 = .ok (.iadd, 1) := by decide +kernel
theorem dX11_readsPart_88 : decode cX11_readsPart 88 = .ok (.putfield 166, 3) := by decide +kernel
theorem dX11_readsPart_91 : decode cX11_readsPart 91 = .ok (.aload_n 0, 1) := by decide +kernel
theorem dX11_readsPart_92 : decode cX11_readsPart 92 = .ok (.iload_n 2, 1) := by decide +kernel
theorem dX11_readsPart_93 : decode cX11_readsPart 93 = .ok (.iconst (-1), 1) := by decide +kernel
theorem dX11_readsPart_94 : decode cX11_readsPart 94 = .ok (.invokevirtual 213, 3) := by decide +kernel
theorem dX11_readsPart_97 : decode cX11_readsPart 97 = .ok (.ireturn, 1) := by decide +kernel
theorem dX11_readsPart_98 : decode cX11_readsPart 98 = .ok (.aload_n 0, 1) := by decide +kernel
theorem dX11_readsPart_99 : decode cX11_readsPart 99 = .ok (.getfield 53, 3) := by decide +kernel
theorem dX11_readsPart_102 : decode cX11_readsPart 102 = .ok (.iload_n 2, 1) := by decide +kernel
theorem dX11_readsPart_103 : decode cX11_readsPart 103 = .ok (.iconst 1, 1) := by decide +kernel
theorem dX11_readsPart_104 : decode cX11_readsPart 104 = .ok (.iastore, 1) := by decide +kernel
theorem dX11_readsPart_105 : decode cX11_readsPart 105 = .ok (.aload_n 0, 1) := by decide +kernel
theorem dX11_readsPart_106 : decode cX11_readsPart 106 = .ok (.iconst 1, 1) := by decide +kernel
theorem dX11_readsPart_107 : decode cX11_readsPart 107 = .ok (.putfield 188, 3) := by decide +kernel
theorem dX11_readsPart_110 : decode cX11_readsPart 110 = .ok (.aload_n 0, 1) := by decide +kernel
theorem dX11_readsPart_111 : decode cX11_readsPart 111 = .ok (.invokevirtual 222, 3) := by decide +kernel
theorem dX11_readsPart_114 : decode cX11_readsPart 114 = .ok (.ireturn, 1) := by decide +kernel
theorem dX11_endsFrame_0 : decode cX11_endsFrame 0 = .ok (.aload_n 0, 1) := by decide +kernel
theorem dX11_endsFrame_1 : decode cX11_endsFrame 1 = .ok (.bipush 41, 2) := by decide +kernel
theorem dX11_endsFrame_3 : decode cX11_endsFrame 3 = .ok (.invokevirtual 202, 3) := by decide +kernel
theorem dX11_endsFrame_6 : decode cX11_endsFrame 6 = .ok (.ifCond .ne 5, 3) := by decide +kernel
theorem dX11_endsFrame_9 : decode cX11_endsFrame 9 = .ok (.iconst 0, 1) := by decide +kernel
theorem dX11_endsFrame_10 : decode cX11_endsFrame 10 = .ok (.ireturn, 1) := by decide +kernel
theorem dX11_endsFrame_11 : decode cX11_endsFrame 11 = .ok (.iconst 0, 1) := by decide +kernel
theorem dX11_endsFrame_12 : decode cX11_endsFrame 12 = .ok (.istore_n 1, 1) := by decide +kernel
theorem dX11_endsFrame_13 : decode cX11_endsFrame 13 = .ok (.iload_n 1, 1) := by decide +kernel
theorem dX11_endsFrame_14 : decode cX11_endsFrame 14 = .ok (.bipush 7, 2) := by decide +kernel
theorem dX11_endsFrame_16 : decode cX11_endsFrame 16 = .ok (.if_icmp .ge 29, 3) := by decide +kernel
theorem dX11_endsFrame_19 : decode cX11_endsFrame 19 = .ok (.aload_n 0, 1) := by decide +kernel
theorem dX11_endsFrame_20 : decode cX11_endsFrame 20 = .ok (.getfield 53, 3) := by decide +kernel
theorem dX11_endsFrame_23 : decode cX11_endsFrame 23 = .ok (.iload_n 1, 1) := by decide +kernel
theorem dX11_endsFrame_24 : decode cX11_endsFrame 24 = .ok (.aload_n 0, 1) := by decide +kernel
theorem dX11_endsFrame_25 : decode cX11_endsFrame 25 = .ok (.getfield 47, 3) := by decide +kernel
theorem dX11_endsFrame_28 : decode cX11_endsFrame 28 = .ok (.bipush 7, 2) := by decide +kernel
theorem dX11_endsFrame_30 : decode cX11_endsFrame 30 = .ok (.aload_n 0, 1) := by decide +kernel
theorem dX11_endsFrame_31 : decode cX11_endsFrame 31 = .ok (.getfield 191, 3) := by decide +kernel
theorem dX11_endsFrame_34 : decode cX11_endsFrame 34 = .ok (.imul, 1) := by decide +kernel
theorem dX11_endsFrame_35 : decode cX11_endsFrame 35 = .ok (.iload_n 1, 1) := by decide +kernel
theorem dX11_endsFrame_36 : decode cX11_endsFrame 36 = .ok (.iadd, 1) := by decide +kernel
theorem dX11_endsFrame_37 : decode cX11_endsFrame 37 = .ok (.iaload, 1) := by decide +kernel
theorem dX11_endsFrame_38 : decode cX11_endsFrame 38 = .ok (.iastore, 1) := by decide +kernel
theorem dX11_endsFrame_39 : decode cX11_endsFrame 39 = .ok (.iinc 1 1, 3) := by decide +kernel
theorem dX11_endsFrame_42 : decode cX11_endsFrame 42 = .ok (.goto (-29), 3) := by decide +kernel
theorem dX11_endsFrame_45 : decode cX11_endsFrame 45 = .ok (.aload_n 0, 1) := by decide +kernel
theorem dX11_endsFrame_46 : decode cX11_endsFrame 46 = .ok (.aload_n 0, 1) := by decide +kernel
theorem dX11_endsFrame_47 : decode cX11_endsFrame 47 = .ok (.getfield 56, 3) := by decide +kernel
theorem dX11_endsFrame_50 : decode cX11_endsFrame 50 = .ok (.aload_n 0, 1) := by decide +kernel
theorem dX11_endsFrame_51 : decode cX11_endsFrame 51 = .ok (.getfield 191, 3) := by decide +kernel
theorem dX11_endsFrame_54 : decode cX11_endsFrame 54 = .ok (.iaload, 1) := by decide +kernel
theorem dX11_endsFrame_55 : decode cX11_endsFrame 55 = .ok (.putfield 188, 3) := by decide +kernel
theorem dX11_endsFrame_58 : decode cX11_endsFrame 58 = .ok (.aload_n 0, 1) := by decide +kernel
theorem dX11_endsFrame_59 : decode cX11_endsFrame 59 = .ok (.getfield 68, 3) := by decide +kernel
theorem dX11_endsFrame_62 : decode cX11_endsFrame 62 = .ok (.aload_n 0, 1) := by decide +kernel
theorem dX11_endsFrame_63 : decode cX11_endsFrame 63 = .ok (.getfield 191, 3) := by decide +kernel
theorem dX11_endsFrame_66 : decode cX11_endsFrame 66 = .ok (.iaload, 1) := by decide +kernel
theorem dX11_endsFrame_67 : decode cX11_endsFrame 67 = .ok (.iconst (-1), 1) := by decide +kernel
theorem dX11_endsFrame_68 : decode cX11_endsFrame 68 = .ok (.if_icmp .eq 68, 3) := by decide +kernel
theorem dX11_endsFrame_71 : decode cX11_endsFrame 71 = .ok (.aload_n 0, 1) := by decide +kernel
theorem dX11_endsFrame_72 : decode cX11_endsFrame 72 = .ok (.getfield 53, 3) := by decide +kernel
theorem dX11_endsFrame_75 : decode cX11_endsFrame 75 = .ok (.aload_n 0, 1) := by decide +kernel
theorem dX11_endsFrame_76 : decode cX11_endsFrame 76 = .ok (.getfield 68, 3) := by decide +kernel
theorem dX11_endsFrame_79 : decode cX11_endsFrame 79 = .ok (.aload_n 0, 1) := by decide +kernel
theorem dX11_endsFrame_80 : decode cX11_endsFrame 80 = .ok (.getfield 191, 3) := by decide +kernel
theorem dX11_endsFrame_83 : decode cX11_endsFrame 83 = .ok (.iaload, 1) := by decide +kernel
theorem dX11_endsFrame_84 : decode cX11_endsFrame 84 = .ok (.aload_n 0, 1) := by decide +kernel
theorem dX11_endsFrame_85 : decode cX11_endsFrame 85 = .ok (.getfield 53, 3) := by decide +kernel
theorem dX11_endsFrame_88 : decode cX11_endsFrame 88 = .ok (.aload_n 0, 1) := by decide +kernel
theorem dX11_endsFrame_89 : decode cX11_endsFrame 89 = .ok (.getfield 68, 3) := by decide +kernel
theorem dX11_endsFrame_92 : decode cX11_endsFrame 92 = .ok (.aload_n 0, 1) := by decide +kernel
theorem dX11_endsFrame_93 : decode cX11_endsFrame 93 = .ok (.getfield 191, 3) := by decide +kernel
theorem dX11_endsFrame_96 : decode cX11_endsFrame 96 = .ok (.iaload, 1) := by decide +kernel
theorem dX11_endsFrame_97 : decode cX11_endsFrame 97 = .ok (.iaload, 1) := by decide +kernel
theorem dX11_endsFrame_98 : decode cX11_endsFrame 98 = .ok (.iconst 1, 1) := by decide +kernel
theorem dX11_endsFrame_99 : decode cX11_endsFrame 99 = .ok (.iadd, 1) := by decide +kernel
theorem dX11_endsFrame_100 : decode cX11_endsFrame 100 = .ok (.iastore, 1) := by decide +kernel
theorem dX11_endsFrame_101 : decode cX11_endsFrame 101 = .ok (.aload_n 0, 1) := by decide +kernel
theorem dX11_endsFrame_102 : decode cX11_endsFrame 102 = .ok (.getfield 53, 3) := by decide +kernel
theorem dX11_endsFrame_105 : decode cX11_endsFrame 105 = .ok (.aload_n 0, 1) := by decide +kernel
theorem dX11_endsFrame_106 : decode cX11_endsFrame 106 = .ok (.getfield 71, 3) := by decide +kernel
theorem dX11_endsFrame_109 : decode cX11_endsFrame 109 = .ok (.aload_n 0, 1) := by decide +kernel
theorem dX11_endsFrame_110 : decode cX11_endsFrame 110 = .ok (.getfield 191, 3) := by decide +kernel
theorem dX11_endsFrame_113 : decode cX11_endsFrame 113 = .ok (.iaload, 1) := by decide +kernel
theorem dX11_endsFrame_114 : decode cX11_endsFrame 114 = .ok (.aload_n 0, 1) := by decide +kernel
theorem dX11_endsFrame_115 : decode cX11_endsFrame 115 = .ok (.getfield 53, 3) := by decide +kernel
theorem dX11_endsFrame_118 : decode cX11_endsFrame 118 = .ok (.aload_n 0, 1) := by decide +kernel
theorem dX11_endsFrame_119 : decode cX11_endsFrame 119 = .ok (.getfield 71, 3) := by decide +kernel
theorem dX11_endsFrame_122 : decode cX11_endsFrame 122 = .ok (.aload_n 0, 1) := by decide +kernel
theorem dX11_endsFrame_123 : decode cX11_endsFrame 123 = .ok (.getfield 191, 3) := by decide +kernel
theorem dX11_endsFrame_126 : decode cX11_endsFrame 126 = .ok (.iaload, 1) := by decide +kernel
theorem dX11_endsFrame_127 : decode cX11_endsFrame 127 = .ok (.iaload, 1) := by decide +kernel
theorem dX11_endsFrame_128 : decode cX11_endsFrame 128 = .ok (.iconst 1, 1) := by decide +kernel
theorem dX11_endsFrame_129 : decode cX11_endsFrame 129 = .ok (.isub, 1) := by decide +kernel
theorem dX11_endsFrame_130 : decode cX11_endsFrame 130 = .ok (.iastore, 1) := by decide +kernel
theorem dX11_endsFrame_131 : decode cX11_endsFrame 131 = .ok (.aload_n 0, 1) := by decide +kernel
theorem dX11_endsFrame_132 : decode cX11_endsFrame 132 = .ok (.iconst 1, 1) := by decide +kernel
theorem dX11_endsFrame_133 : decode cX11_endsFrame 133 = .ok (.putfield 188, 3) := by decide +kernel
theorem dX11_endsFrame_136 : decode cX11_endsFrame 136 = .ok (.aload_n 0, 1) := by decide +kernel
theorem dX11_endsFrame_137 : decode cX11_endsFrame 137 = .ok (.aload_n 0, 1) := by decide +kernel
theorem dX11_endsFrame_138 : decode cX11_endsFrame 138 = .ok (.getfield 191, 3) := by decide +kernel
theorem dX11_endsFrame_141 : decode cX11_endsFrame 141 = .ok (.iconst 1, 1) := by decide +kernel
theorem dX11_endsFrame_142 : decode cX11_endsFrame 142 = .ok (.isub, 1) := by decide +kernel
theorem dX11_endsFrame_143 : decode cX11_endsFrame 143 = .ok (.putfield 191, 3) := by decide +kernel
theorem dX11_endsFrame_146 : decode cX11_endsFrame 146 = .ok (.aload_n 0, 1) := by decide +kernel
theorem dX11_endsFrame_147 : decode cX11_endsFrame 147 = .ok (.invokevirtual 222, 3) := by decide +kernel
theorem dX11_endsFrame_150 : decode cX11_endsFrame 150 = .ok (.ireturn, 1) := by decide +kernel
theorem dX11_readsSide_0 : decode cX11_readsSide 0 = .ok (.aload_n 0, 1) := by decide +kernel
theorem dX11_readsSide_1 : decode cX11_readsSide 1 = .ok (.iconst 0, 1) := by decide +kernel
theorem dX11_readsSide_2 : decode cX11_readsSide 2 = .ok (.putfield 191, 3) := by decide +kernel
theorem dX11_readsSide_5 : decode cX11_readsSide 5 = .ok (.aload_n 0, 1) := by decide +kernel
theorem dX11_readsSide_6 : decode cX11_readsSide 6 = .ok (.iconst (-1), 1) := by decide +kernel
theorem dX11_readsSide_7 : decode cX11_readsSide 7 = .ok (.iconst (-1), 1) := by decide +kernel
theorem dX11_readsSide_8 : decode cX11_readsSide 8 = .ok (.invokevirtual 205, 3) := by decide +kernel
theorem dX11_readsSide_11 : decode cX11_readsSide 11 = .ok (.iconst 1, 1) := by decide +kernel
theorem dX11_readsSide_12 : decode cX11_readsSide 12 = .ok (.istore_n 1, 1) := by decide +kernel
theorem dX11_readsSide_13 : decode cX11_readsSide 13 = .ok (.iload_n 1, 1) := by decide +kernel
theorem dX11_readsSide_14 : decode cX11_readsSide 14 = .ok (.ifCond .eq 148, 3) := by decide +kernel
theorem dX11_readsSide_17 : decode cX11_readsSide 17 = .ok (.aload_n 0, 1) := by decide +kernel
theorem dX11_readsSide_18 : decode cX11_readsSide 18 = .ok (.invokevirtual 179, 3) := by decide +kernel
theorem dX11_readsSide_21 : decode cX11_readsSide 21 = .ok (.istore_n 2, 1) := by decide +kernel
theorem dX11_readsSide_22 : decode cX11_readsSide 22 = .ok (.aload_n 0, 1) := by decide +kernel
theorem dX11_readsSide_23 : decode cX11_readsSide 23 = .ok (.getfield 194, 3) := by decide +kernel
theorem dX11_readsSide_26 : decode cX11_readsSide 26 = .ok (.ifCond .eq 12, 3) := by decide +kernel
theorem dX11_readsSide_29 : decode cX11_readsSide 29 = .ok (.aload_n 0, 1) := by decide +kernel
theorem dX11_readsSide_30 : decode cX11_readsSide 30 = .ok (.invokevirtual 225, 3) := by decide +kernel
theorem dX11_readsSide_33 : decode cX11_readsSide 33 = .ok (.ifCond .ne 126, 3) := by decide +kernel
theorem dX11_readsSide_36 : decode cX11_readsSide 36 = .ok (.iconst 0, 1) := by decide +kernel
theorem dX11_readsSide_37 : decode cX11_readsSide 37 = .ok (.ireturn, 1) := by decide +kernel
theorem dX11_readsSide_38 : decode cX11_readsSide 38 = .ok (.iload_n 2, 1) := by decide +kernel
theorem dX11_readsSide_39 : decode cX11_readsSide 39 = .ok (.bipush 42, 2) := by decide +kernel
theorem dX11_readsSide_41 : decode cX11_readsSide 41 = .ok (.if_icmp .ne 34, 3) := by decide +kernel
theorem dX11_readsSide_44 : decode cX11_readsSide 44 = .ok (.aload_n 0, 1) := by decide +kernel
theorem dX11_readsSide_45 : decode cX11_readsSide 45 = .ok (.getfield 65, 3) := by decide +kernel
theorem dX11_readsSide_48 : decode cX11_readsSide 48 = .ok (.aload_n 0, 1) := by decide +kernel
theorem dX11_readsSide_49 : decode cX11_readsSide 49 = .ok (.getfield 191, 3) := by decide +kernel
theorem dX11_readsSide_52 : decode cX11_readsSide 52 = .ok (.aload_n 0, 1) := by decide +kernel
theorem dX11_readsSide_53 : decode cX11_readsSide 53 = .ok (.getfield 166, 3) := by decide +kernel
theorem dX11_readsSide_56 : decode cX11_readsSide 56 = .ok (.iastore, 1) := by decide +kernel
theorem dX11_readsSide_57 : decode cX11_readsSide 57 = .ok (.aload_n 0, 1) := by decide +kernel
theorem dX11_readsSide_58 : decode cX11_readsSide 58 = .ok (.aload_n 0, 1) := by decide +kernel
theorem dX11_readsSide_59 : decode cX11_readsSide 59 = .ok (.getfield 166, 3) := by decide +kernel
theorem dX11_readsSide_62 : decode cX11_readsSide 62 = .ok (.iconst 1, 1) := by decide +kernel
theorem dX11_readsSide_63 : decode cX11_readsSide 63 = .ok (.iadd, 1) := by decide +kernel
theorem dX11_readsSide_64 : decode cX11_readsSide 64 = .ok (.putfield 166, 3) := by decide +kernel
theorem dX11_readsSide_67 : decode cX11_readsSide 67 = .ok (.aload_n 0, 1) := by decide +kernel
theorem dX11_readsSide_68 : decode cX11_readsSide 68 = .ok (.iconst 1, 1) := by decide +kernel
theorem dX11_readsSide_69 : decode cX11_readsSide 69 = .ok (.putfield 194, 3) := by decide +kernel
theorem dX11_readsSide_72 : decode cX11_readsSide 72 = .ok (.goto 87, 3) := by decide +kernel
theorem dX11_readsSide_75 : decode cX11_readsSide 75 = .ok (.iload_n 2, 1) := by decide +kernel
theorem dX11_readsSide_76 : decode cX11_readsSide 76 = .ok (.bipush 43, 2) := by decide +kernel
theorem dX11_readsSide_78 : decode cX11_readsSide 78 = .ok (.if_icmp .eq 9, 3) := by decide +kernel
theorem dX11_readsSide_81 : decode cX11_readsSide 81 = .ok (.iload_n 2, 1) := by decide +kernel
theorem dX11_readsSide_82 : decode cX11_readsSide 82 = .ok (.bipush 45, 2) := by decide +kernel
theorem dX11_readsSide_84 : decode cX11_readsSide 84 = .ok (.if_icmp .ne 45, 3) := by decide +kernel
theorem dX11_readsSide_87 : decode cX11_readsSide 87 = .ok (.aload_n 0, 1) := by decide +kernel
theorem dX11_readsSide_88 : decode cX11_readsSide 88 = .ok (.invokevirtual 228, 3) := by decide +kernel
theorem dX11_readsSide_91 : decode cX11_readsSide 91 = .ok (.aload_n 0, 1) := by decide +kernel
theorem dX11_readsSide_92 : decode cX11_readsSide 92 = .ok (.getfield 62, 3) := by decide +kernel
theorem dX11_readsSide_95 : decode cX11_readsSide 95 = .ok (.aload_n 0, 1) := by decide +kernel
theorem dX11_readsSide_96 : decode cX11_readsSide 96 = .ok (.getfield 191, 3) := by decide +kernel
theorem dX11_readsSide_99 : decode cX11_readsSide 99 = .ok (.iload_n 2, 1) := by decide +kernel
theorem dX11_readsSide_100 : decode cX11_readsSide 100 = .ok (.bipush 43, 2) := by decide +kernel
theorem dX11_readsSide_102 : decode cX11_readsSide 102 = .ok (.if_icmp .ne 7, 3) := by decide +kernel
theorem dX11_readsSide_105 : decode cX11_readsSide 105 = .ok (.iconst 1, 1) := by decide +kernel
theorem dX11_readsSide_106 : decode cX11_readsSide 106 = .ok (.goto 4, 3) := by decide +kernel
theorem dX11_readsSide_109 : decode cX11_readsSide 109 = .ok (.iconst (-1), 1) := by decide +kernel
theorem dX11_readsSide_110 : decode cX11_readsSide 110 = .ok (.iastore, 1) := by decide +kernel
theorem dX11_readsSide_111 : decode cX11_readsSide 111 = .ok (.aload_n 0, 1) := by decide +kernel
theorem dX11_readsSide_112 : decode cX11_readsSide 112 = .ok (.aload_n 0, 1) := by decide +kernel
theorem dX11_readsSide_113 : decode cX11_readsSide 113 = .ok (.getfield 166, 3) := by decide +kernel
theorem dX11_readsSide_116 : decode cX11_readsSide 116 = .ok (.iconst 1, 1) := by decide +kernel
theorem dX11_readsSide_117 : decode cX11_readsSide 117 = .ok (.iadd, 1) := by decide +kernel
theorem dX11_readsSide_118 : decode cX11_readsSide 118 = .ok (.putfield 166, 3) := by decide +kernel
theorem dX11_readsSide_121 : decode cX11_readsSide 121 = .ok (.aload_n 0, 1) := by decide +kernel
theorem dX11_readsSide_122 : decode cX11_readsSide 122 = .ok (.iconst 1, 1) := by decide +kernel
theorem dX11_readsSide_123 : decode cX11_readsSide 123 = .ok (.putfield 194, 3) := by decide +kernel
theorem dX11_readsSide_126 : decode cX11_readsSide 126 = .ok (.goto 33, 3) := by decide +kernel
theorem dX11_readsSide_129 : decode cX11_readsSide 129 = .ok (.aload_n 0, 1) := by decide +kernel
theorem dX11_readsSide_130 : decode cX11_readsSide 130 = .ok (.invokevirtual 228, 3) := by decide +kernel
theorem dX11_readsSide_133 : decode cX11_readsSide 133 = .ok (.aload_n 0, 1) := by decide +kernel
theorem dX11_readsSide_134 : decode cX11_readsSide 134 = .ok (.getfield 191, 3) := by decide +kernel
theorem dX11_readsSide_137 : decode cX11_readsSide 137 = .ok (.ifCond .le 7, 3) := by decide +kernel
theorem dX11_readsSide_140 : decode cX11_readsSide 140 = .ok (.iconst 1, 1) := by decide +kernel
theorem dX11_readsSide_141 : decode cX11_readsSide 141 = .ok (.goto 4, 3) := by decide +kernel
theorem dX11_readsSide_144 : decode cX11_readsSide 144 = .ok (.iconst 0, 1) := by decide +kernel
theorem dX11_readsSide_145 : decode cX11_readsSide 145 = .ok (.istore_n 1, 1) := by decide +kernel
theorem dX11_readsSide_146 : decode cX11_readsSide 146 = .ok (.iload_n 1, 1) := by decide +kernel
theorem dX11_readsSide_147 : decode cX11_readsSide 147 = .ok (.ifCond .eq 12, 3) := by decide +kernel
theorem dX11_readsSide_150 : decode cX11_readsSide 150 = .ok (.aload_n 0, 1) := by decide +kernel
theorem dX11_readsSide_151 : decode cX11_readsSide 151 = .ok (.invokevirtual 231, 3) := by decide +kernel
theorem dX11_readsSide_154 : decode cX11_readsSide 154 = .ok (.ifCond .ne 5, 3) := by decide +kernel
theorem dX11_readsSide_157 : decode cX11_readsSide 157 = .ok (.iconst 0, 1) := by decide +kernel
theorem dX11_readsSide_158 : decode cX11_readsSide 158 = .ok (.ireturn, 1) := by decide +kernel
theorem dX11_readsSide_159 : decode cX11_readsSide 159 = .ok (.goto (-146), 3) := by decide +kernel
theorem dX11_readsSide_162 : decode cX11_readsSide 162 = .ok (.iconst 1, 1) := by decide +kernel
theorem dX11_readsSide_163 : decode cX11_readsSide 163 = .ok (.ireturn, 1) := by decide +kernel
theorem dX11_readsRight_0 : decode cX11_readsRight 0 = .ok (.aload_n 0, 1) := by decide +kernel
theorem dX11_readsRight_1 : decode cX11_readsRight 1 = .ok (.invokevirtual 179, 3) := by decide +kernel
theorem dX11_readsRight_4 : decode cX11_readsRight 4 = .ok (.istore_n 1, 1) := by decide +kernel
theorem dX11_readsRight_5 : decode cX11_readsRight 5 = .ok (.aload_n 0, 1) := by decide +kernel
theorem dX11_readsRight_6 : decode cX11_readsRight 6 = .ok (.iload_n 1, 1) := by decide +kernel
theorem dX11_readsRight_7 : decode cX11_readsRight 7 = .ok (.bipush 61, 2) := by decide +kernel
theorem dX11_readsRight_9 : decode cX11_readsRight 9 = .ok (.if_icmp .ne 7, 3) := by decide +kernel
theorem dX11_readsRight_12 : decode cX11_readsRight 12 = .ok (.iconst 0, 1) := by decide +kernel
theorem dX11_readsRight_13 : decode cX11_readsRight 13 = .ok (.goto 34, 3) := by decide +kernel
theorem dX11_readsRight_16 : decode cX11_readsRight 16 = .ok (.iload_n 1, 1) := by decide +kernel
theorem dX11_readsRight_17 : decode cX11_readsRight 17 = .ok (.bipush 60, 2) := by decide +kernel
theorem dX11_readsRight_19 : decode cX11_readsRight 19 = .ok (.if_icmp .ne 7, 3) := by decide +kernel
theorem dX11_readsRight_22 : decode cX11_readsRight 22 = .ok (.iconst 1, 1) := by decide +kernel
theorem dX11_readsRight_23 : decode cX11_readsRight 23 = .ok (.goto 24, 3) := by decide +kernel
theorem dX11_readsRight_26 : decode cX11_readsRight 26 = .ok (.iload_n 1, 1) := by decide +kernel
theorem dX11_readsRight_27 : decode cX11_readsRight 27 = .ok (.bipush 62, 2) := by decide +kernel
theorem dX11_readsRight_29 : decode cX11_readsRight 29 = .ok (.if_icmp .ne 7, 3) := by decide +kernel
theorem dX11_readsRight_32 : decode cX11_readsRight 32 = .ok (.iconst 2, 1) := by decide +kernel
theorem dX11_readsRight_33 : decode cX11_readsRight 33 = .ok (.goto 14, 3) := by decide +kernel
theorem dX11_readsRight_36 : decode cX11_readsRight 36 = .ok (.iload_n 1, 1) := by decide +kernel
theorem dX11_readsRight_37 : decode cX11_readsRight 37 = .ok (.bipush 126, 2) := by decide +kernel
theorem dX11_readsRight_39 : decode cX11_readsRight 39 = .ok (.if_icmp .ne 7, 3) := by decide +kernel
theorem dX11_readsRight_42 : decode cX11_readsRight 42 = .ok (.iconst 3, 1) := by decide +kernel
theorem dX11_readsRight_43 : decode cX11_readsRight 43 = .ok (.goto 4, 3) := by decide +kernel
theorem dX11_readsRight_46 : decode cX11_readsRight 46 = .ok (.iconst (-1), 1) := by decide +kernel
theorem dX11_readsRight_47 : decode cX11_readsRight 47 = .ok (.putfield 234, 3) := by decide +kernel
theorem dX11_readsRight_50 : decode cX11_readsRight 50 = .ok (.aload_n 0, 1) := by decide +kernel
theorem dX11_readsRight_51 : decode cX11_readsRight 51 = .ok (.iconst 0, 1) := by decide +kernel
theorem dX11_readsRight_52 : decode cX11_readsRight 52 = .ok (.putfield 237, 3) := by decide +kernel
theorem dX11_readsRight_55 : decode cX11_readsRight 55 = .ok (.aload_n 0, 1) := by decide +kernel
theorem dX11_readsRight_56 : decode cX11_readsRight 56 = .ok (.getfield 234, 3) := by decide +kernel
theorem dX11_readsRight_59 : decode cX11_readsRight 59 = .ok (.iconst (-1), 1) := by decide +kernel
theorem dX11_readsRight_60 : decode cX11_readsRight 60 = .ok (.if_icmp .ne 13, 3) := by decide +kernel
theorem dX11_readsRight_63 : decode cX11_readsRight 63 = .ok (.aload_n 0, 1) := by decide +kernel
theorem dX11_readsRight_64 : decode cX11_readsRight 64 = .ok (.iconst 1, 1) := by decide +kernel
theorem dX11_readsRight_65 : decode cX11_readsRight 65 = .ok (.aload_n 0, 1) := by decide +kernel
theorem dX11_readsRight_66 : decode cX11_readsRight 66 = .ok (.getfield 166, 3) := by decide +kernel
theorem dX11_readsRight_69 : decode cX11_readsRight 69 = .ok (.invokevirtual 182, 3) := by decide +kernel
theorem dX11_readsRight_72 : decode cX11_readsRight 72 = .ok (.ireturn, 1) := by decide +kernel
theorem dX11_readsRight_73 : decode cX11_readsRight 73 = .ok (.aload_n 0, 1) := by decide +kernel
theorem dX11_readsRight_74 : decode cX11_readsRight 74 = .ok (.aload_n 0, 1) := by decide +kernel
theorem dX11_readsRight_75 : decode cX11_readsRight 75 = .ok (.getfield 166, 3) := by decide +kernel
theorem dX11_readsRight_78 : decode cX11_readsRight 78 = .ok (.iconst 1, 1) := by decide +kernel
theorem dX11_readsRight_79 : decode cX11_readsRight 79 = .ok (.iadd, 1) := by decide +kernel
theorem dX11_readsRight_80 : decode cX11_readsRight 80 = .ok (.putfield 166, 3) := by decide +kernel
theorem dX11_readsRight_83 : decode cX11_readsRight 83 = .ok (.aload_n 0, 1) := by decide +kernel
theorem dX11_readsRight_84 : decode cX11_readsRight 84 = .ok (.getfield 234, 3) := by decide +kernel
theorem dX11_readsRight_87 : decode cX11_readsRight 87 = .ok (.iconst 3, 1) := by decide +kernel
theorem dX11_readsRight_88 : decode cX11_readsRight 88 = .ok (.if_icmp .ne 41, 3) := by decide +kernel
theorem dX11_readsRight_91 : decode cX11_readsRight 91 = .ok (.aload_n 0, 1) := by decide +kernel
theorem dX11_readsRight_92 : decode cX11_readsRight 92 = .ok (.getfield 166, 3) := by decide +kernel
theorem dX11_readsRight_95 : decode cX11_readsRight 95 = .ok (.istore_n 2, 1) := by decide +kernel
theorem dX11_readsRight_96 : decode cX11_readsRight 96 = .ok (.aload_n 0, 1) := by decide +kernel
theorem dX11_readsRight_97 : decode cX11_readsRight 97 = .ok (.invokevirtual 219, 3) := by decide +kernel
theorem dX11_readsRight_100 : decode cX11_readsRight 100 = .ok (.ifCond .ne 5, 3) := by decide +kernel
theorem dX11_readsRight_103 : decode cX11_readsRight 103 = .ok (.iconst 0, 1) := by decide +kernel
theorem dX11_readsRight_104 : decode cX11_readsRight 104 = .ok (.ireturn, 1) := by decide +kernel
theorem dX11_readsRight_105 : decode cX11_readsRight 105 = .ok (.aload_n 0, 1) := by decide +kernel
theorem dX11_readsRight_106 : decode cX11_readsRight 106 = .ok (.getfield 185, 3) := by decide +kernel
theorem dX11_readsRight_109 : decode cX11_readsRight 109 = .ok (.ifCond .ne 10, 3) := by decide +kernel
theorem dX11_readsRight_112 : decode cX11_readsRight 112 = .ok (.aload_n 0, 1) := by decide +kernel
theorem dX11_readsRight_113 : decode cX11_readsRight 113 = .ok (.iconst 3, 1) := by decide +kernel
theorem dX11_readsRight_114 : decode cX11_readsRight 114 = .ok (.iload_n 2, 1) := by decide +kernel
theorem dX11_readsRight_115 : decode cX11_readsRight 115 = .ok (.invokevirtual 182, 3) := by decide +kernel
theorem dX11_readsRight_118 : decode cX11_readsRight 118 = .ok (.ireturn, 1) := by decide +kernel
theorem dX11_readsRight_119 : decode cX11_readsRight 119 = .ok (.aload_n 0, 1) := by decide +kernel
theorem dX11_readsRight_120 : decode cX11_readsRight 120 = .ok (.aload_n 0, 1) := by decide +kernel
theorem dX11_readsRight_121 : decode cX11_readsRight 121 = .ok (.getfield 185, 3) := by decide +kernel
theorem dX11_readsRight_124 : decode cX11_readsRight 124 = .ok (.putfield 237, 3) := by decide +kernel
theorem dX11_readsRight_127 : decode cX11_readsRight 127 = .ok (.iconst 1, 1) := by decide +kernel
theorem dX11_readsRight_128 : decode cX11_readsRight 128 = .ok (.ireturn, 1) := by decide +kernel
theorem dX11_readsRight_129 : decode cX11_readsRight 129 = .ok (.aload_n 0, 1) := by decide +kernel
theorem dX11_readsRight_130 : decode cX11_readsRight 130 = .ok (.invokevirtual 240, 3) := by decide +kernel
theorem dX11_readsRight_133 : decode cX11_readsRight 133 = .ok (.ifCond .ne 5, 3) := by decide +kernel
theorem dX11_readsRight_136 : decode cX11_readsRight 136 = .ok (.iconst 0, 1) := by decide +kernel
theorem dX11_readsRight_137 : decode cX11_readsRight 137 = .ok (.ireturn, 1) := by decide +kernel
theorem dX11_readsRight_138 : decode cX11_readsRight 138 = .ok (.iconst 0, 1) := by decide +kernel
theorem dX11_readsRight_139 : decode cX11_readsRight 139 = .ok (.istore_n 2, 1) := by decide +kernel
theorem dX11_readsRight_140 : decode cX11_readsRight 140 = .ok (.iload_n 2, 1) := by decide +kernel
theorem dX11_readsRight_141 : decode cX11_readsRight 141 = .ok (.bipush 7, 2) := by decide +kernel
theorem dX11_readsRight_143 : decode cX11_readsRight 143 = .ok (.if_icmp .ge 28, 3) := by decide +kernel
theorem dX11_readsRight_146 : decode cX11_readsRight 146 = .ok (.aload_n 0, 1) := by decide +kernel
theorem dX11_readsRight_147 : decode cX11_readsRight 147 = .ok (.getfield 74, 3) := by decide +kernel
theorem dX11_readsRight_150 : decode cX11_readsRight 150 = .ok (.iload_n 2, 1) := by decide +kernel
theorem dX11_readsRight_151 : decode cX11_readsRight 151 = .ok (.aload_n 0, 1) := by decide +kernel
theorem dX11_readsRight_152 : decode cX11_readsRight 152 = .ok (.getfield 74, 3) := by decide +kernel
theorem dX11_readsRight_155 : decode cX11_readsRight 155 = .ok (.iload_n 2, 1) := by decide +kernel
theorem dX11_readsRight_156 : decode cX11_readsRight 156 = .ok (.iaload, 1) := by decide +kernel
theorem dX11_readsRight_157 : decode cX11_readsRight 157 = .ok (.aload_n 0, 1) := by decide +kernel
theorem dX11_readsRight_158 : decode cX11_readsRight 158 = .ok (.getfield 47, 3) := by decide +kernel
theorem dX11_readsRight_161 : decode cX11_readsRight 161 = .ok (.iload_n 2, 1) := by decide +kernel
theorem dX11_readsRight_162 : decode cX11_readsRight 162 = .ok (.iaload, 1) := by decide +kernel
theorem dX11_readsRight_163 : decode cX11_readsRight 163 = .ok (.isub, 1) := by decide +kernel
theorem dX11_readsRight_164 : decode cX11_readsRight 164 = .ok (.iastore, 1) := by decide +kernel
theorem dX11_readsRight_165 : decode cX11_readsRight 165 = .ok (.iinc 2 1, 3) := by decide +kernel
theorem dX11_readsRight_168 : decode cX11_readsRight 168 = .ok (.goto (-28), 3) := by decide +kernel
theorem dX11_readsRight_171 : decode cX11_readsRight 171 = .ok (.iconst 1, 1) := by decide +kernel
theorem dX11_readsRight_172 : decode cX11_readsRight 172 = .ok (.ireturn, 1) := by decide +kernel
theorem dX11_whoStands_0 : decode cX11_whoStands 0 = .ok (.iconst 0, 1) := by decide +kernel
theorem dX11_whoStands_1 : decode cX11_whoStands 1 = .ok (.istore_n 1, 1) := by decide +kernel
theorem dX11_whoStands_2 : decode cX11_whoStands 2 = .ok (.iconst 0, 1) := by decide +kernel
theorem dX11_whoStands_3 : decode cX11_whoStands 3 = .ok (.istore_n 2, 1) := by decide +kernel
theorem dX11_whoStands_4 : decode cX11_whoStands 4 = .ok (.iload_n 2, 1) := by decide +kernel
theorem dX11_whoStands_5 : decode cX11_whoStands 5 = .ok (.aload_n 0, 1) := by decide +kernel
theorem dX11_whoStands_6 : decode cX11_whoStands 6 = .ok (.getfield 169, 3) := by decide +kernel
theorem dX11_whoStands_9 : decode cX11_whoStands 9 = .ok (.if_icmp .ge 37, 3) := by decide +kernel
theorem dX11_whoStands_12 : decode cX11_whoStands 12 = .ok (.aload_n 0, 1) := by decide +kernel
theorem dX11_whoStands_13 : decode cX11_whoStands 13 = .ok (.iload_n 2, 1) := by decide +kernel
theorem dX11_whoStands_14 : decode cX11_whoStands 14 = .ok (.invokevirtual 172, 3) := by decide +kernel
theorem dX11_whoStands_17 : decode cX11_whoStands 17 = .ok (.bipush 97, 2) := by decide +kernel
theorem dX11_whoStands_19 : decode cX11_whoStands 19 = .ok (.bipush 102, 2) := by decide +kernel
theorem dX11_whoStands_21 : decode cX11_whoStands 21 = .ok (.invokestatic 137, 3) := by decide +kernel
theorem dX11_whoStands_24 : decode cX11_whoStands 24 = .ok (.ifCond .eq 16, 3) := by decide +kernel
theorem dX11_whoStands_27 : decode cX11_whoStands 27 = .ok (.iload_n 1, 1) := by decide +kernel
theorem dX11_whoStands_28 : decode cX11_whoStands 28 = .ok (.iconst 1, 1) := by decide +kernel
theorem dX11_whoStands_29 : decode cX11_whoStands 29 = .ok (.aload_n 0, 1) := by decide +kernel
theorem dX11_whoStands_30 : decode cX11_whoStands 30 = .ok (.iload_n 2, 1) := by decide +kernel
theorem dX11_whoStands_31 : decode cX11_whoStands 31 = .ok (.invokevirtual 172, 3) := by decide +kernel
theorem dX11_whoStands_34 : decode cX11_whoStands 34 = .ok (.bipush 97, 2) := by decide +kernel
theorem dX11_whoStands_36 : decode cX11_whoStands 36 = .ok (.isub, 1) := by decide +kernel
theorem dX11_whoStands_37 : decode cX11_whoStands 37 = .ok (.ishl, 1) := by decide +kernel
theorem dX11_whoStands_38 : decode cX11_whoStands 38 = .ok (.ior, 1) := by decide +kernel
theorem dX11_whoStands_39 : decode cX11_whoStands 39 = .ok (.istore_n 1, 1) := by decide +kernel
theorem dX11_whoStands_40 : decode cX11_whoStands 40 = .ok (.iinc 2 1, 3) := by decide +kernel
theorem dX11_whoStands_43 : decode cX11_whoStands 43 = .ok (.goto (-39), 3) := by decide +kernel
theorem dX11_whoStands_46 : decode cX11_whoStands 46 = .ok (.iload_n 1, 1) := by decide +kernel
theorem dX11_whoStands_47 : decode cX11_whoStands 47 = .ok (.ireturn, 1) := by decide +kernel
theorem dX11_readsText_0 : decode cX11_readsText 0 = .ok (.aload_n 0, 1) := by decide +kernel
theorem dX11_readsText_1 : decode cX11_readsText 1 = .ok (.iconst 0, 1) := by decide +kernel
theorem dX11_readsText_2 : decode cX11_readsText 2 = .ok (.putfield 166, 3) := by decide +kernel
theorem dX11_readsText_5 : decode cX11_readsText 5 = .ok (.aload_n 0, 1) := by decide +kernel
theorem dX11_readsText_6 : decode cX11_readsText 6 = .ok (.iload_n 1, 1) := by decide +kernel
theorem dX11_readsText_7 : decode cX11_readsText 7 = .ok (.putfield 169, 3) := by decide +kernel
theorem dX11_readsText_10 : decode cX11_readsText 10 = .ok (.aload_n 0, 1) := by decide +kernel
theorem dX11_readsText_11 : decode cX11_readsText 11 = .ok (.iconst 0, 1) := by decide +kernel
theorem dX11_readsText_12 : decode cX11_readsText 12 = .ok (.putfield 234, 3) := by decide +kernel
theorem dX11_readsText_15 : decode cX11_readsText 15 = .ok (.aload_n 0, 1) := by decide +kernel
theorem dX11_readsText_16 : decode cX11_readsText 16 = .ok (.iconst 0, 1) := by decide +kernel
theorem dX11_readsText_17 : decode cX11_readsText 17 = .ok (.putfield 237, 3) := by decide +kernel
theorem dX11_readsText_20 : decode cX11_readsText 20 = .ok (.aload_n 0, 1) := by decide +kernel
theorem dX11_readsText_21 : decode cX11_readsText 21 = .ok (.invokevirtual 240, 3) := by decide +kernel
theorem dX11_readsText_24 : decode cX11_readsText 24 = .ok (.ifCond .ne 5, 3) := by decide +kernel
theorem dX11_readsText_27 : decode cX11_readsText 27 = .ok (.iconst 0, 1) := by decide +kernel
theorem dX11_readsText_28 : decode cX11_readsText 28 = .ok (.ireturn, 1) := by decide +kernel
theorem dX11_readsText_29 : decode cX11_readsText 29 = .ok (.iconst 0, 1) := by decide +kernel
theorem dX11_readsText_30 : decode cX11_readsText 30 = .ok (.istore_n 3, 1) := by decide +kernel
theorem dX11_readsText_31 : decode cX11_readsText 31 = .ok (.iload_n 3, 1) := by decide +kernel
theorem dX11_readsText_32 : decode cX11_readsText 32 = .ok (.bipush 7, 2) := by decide +kernel
theorem dX11_readsText_34 : decode cX11_readsText 34 = .ok (.if_icmp .ge 21, 3) := by decide +kernel
theorem dX11_readsText_37 : decode cX11_readsText 37 = .ok (.aload_n 0, 1) := by decide +kernel
theorem dX11_readsText_38 : decode cX11_readsText 38 = .ok (.getfield 74, 3) := by decide +kernel
theorem dX11_readsText_41 : decode cX11_readsText 41 = .ok (.iload_n 3, 1) := by decide +kernel
theorem dX11_readsText_42 : decode cX11_readsText 42 = .ok (.aload_n 0, 1) := by decide +kernel
theorem dX11_readsText_43 : decode cX11_readsText 43 = .ok (.getfield 47, 3) := by decide +kernel
theorem dX11_readsText_46 : decode cX11_readsText 46 = .ok (.iload_n 3, 1) := by decide +kernel
theorem dX11_readsText_47 : decode cX11_readsText 47 = .ok (.iaload, 1) := by decide +kernel
theorem dX11_readsText_48 : decode cX11_readsText 48 = .ok (.iastore, 1) := by decide +kernel
theorem dX11_readsText_49 : decode cX11_readsText 49 = .ok (.iinc 3 1, 3) := by decide +kernel
theorem dX11_readsText_52 : decode cX11_readsText 52 = .ok (.goto (-21), 3) := by decide +kernel
theorem dX11_readsText_55 : decode cX11_readsText 55 = .ok (.iload_n 2, 1) := by decide +kernel
theorem dX11_readsText_56 : decode cX11_readsText 56 = .ok (.ifCond .eq 12, 3) := by decide +kernel
theorem dX11_readsText_59 : decode cX11_readsText 59 = .ok (.aload_n 0, 1) := by decide +kernel
theorem dX11_readsText_60 : decode cX11_readsText 60 = .ok (.invokevirtual 243, 3) := by decide +kernel
theorem dX11_readsText_63 : decode cX11_readsText 63 = .ok (.ifCond .ne 5, 3) := by decide +kernel
theorem dX11_readsText_66 : decode cX11_readsText 66 = .ok (.iconst 0, 1) := by decide +kernel
theorem dX11_readsText_67 : decode cX11_readsText 67 = .ok (.ireturn, 1) := by decide +kernel
theorem dX11_readsText_68 : decode cX11_readsText 68 = .ok (.aload_n 0, 1) := by decide +kernel
theorem dX11_readsText_69 : decode cX11_readsText 69 = .ok (.getfield 166, 3) := by decide +kernel
theorem dX11_readsText_72 : decode cX11_readsText 72 = .ok (.aload_n 0, 1) := by decide +kernel
theorem dX11_readsText_73 : decode cX11_readsText 73 = .ok (.getfield 169, 3) := by decide +kernel
theorem dX11_readsText_76 : decode cX11_readsText 76 = .ok (.if_icmp .eq 15, 3) := by decide +kernel
theorem dX11_readsText_79 : decode cX11_readsText 79 = .ok (.aload_n 0, 1) := by decide +kernel
theorem dX11_readsText_80 : decode cX11_readsText 80 = .ok (.iconst 1, 1) := by decide +kernel
theorem dX11_readsText_81 : decode cX11_readsText 81 = .ok (.aload_n 0, 1) := by decide +kernel
theorem dX11_readsText_82 : decode cX11_readsText 82 = .ok (.getfield 166, 3) := by decide +kernel
theorem dX11_readsText_85 : decode cX11_readsText 85 = .ok (.invokevirtual 182, 3) := by decide +kernel
theorem dX11_readsText_88 : decode cX11_readsText 88 = .ok (.ifCond .eq 7, 3) := by decide +kernel
theorem dX11_readsText_91 : decode cX11_readsText 91 = .ok (.iconst 1, 1) := by decide +kernel
theorem dX11_readsText_92 : decode cX11_readsText 92 = .ok (.goto 4, 3) := by decide +kernel
theorem dX11_readsText_95 : decode cX11_readsText 95 = .ok (.iconst 0, 1) := by decide +kernel
theorem dX11_readsText_96 : decode cX11_readsText 96 = .ok (.ireturn, 1) := by decide +kernel
theorem dX11_sinceOf_0 : decode cX11_sinceOf 0 = .ok (.aload_n 0, 1) := by decide +kernel
theorem dX11_sinceOf_1 : decode cX11_sinceOf 1 = .ok (.getfield 16, 3) := by decide +kernel
theorem dX11_sinceOf_4 : decode cX11_sinceOf 4 = .ok (.iload_n 1, 1) := by decide +kernel
theorem dX11_sinceOf_5 : decode cX11_sinceOf 5 = .ok (.iaload, 1) := by decide +kernel
theorem dX11_sinceOf_6 : decode cX11_sinceOf 6 = .ok (.aload_n 0, 1) := by decide +kernel
theorem dX11_sinceOf_7 : decode cX11_sinceOf 7 = .ok (.getfield 156, 3) := by decide +kernel
theorem dX11_sinceOf_10 : decode cX11_sinceOf 10 = .ok (.if_icmp .ge 12, 3) := by decide +kernel
theorem dX11_sinceOf_13 : decode cX11_sinceOf 13 = .ok (.aload_n 0, 1) := by decide +kernel
theorem dX11_sinceOf_14 : decode cX11_sinceOf 14 = .ok (.getfield 16, 3) := by decide +kernel
theorem dX11_sinceOf_17 : decode cX11_sinceOf 17 = .ok (.iload_n 1, 1) := by decide +kernel
theorem dX11_sinceOf_18 : decode cX11_sinceOf 18 = .ok (.iaload, 1) := by decide +kernel
theorem dX11_sinceOf_19 : decode cX11_sinceOf 19 = .ok (.goto 7, 3) := by decide +kernel
theorem dX11_sinceOf_22 : decode cX11_sinceOf 22 = .ok (.aload_n 0, 1) := by decide +kernel
theorem dX11_sinceOf_23 : decode cX11_sinceOf 23 = .ok (.getfield 156, 3) := by decide +kernel
theorem dX11_sinceOf_26 : decode cX11_sinceOf 26 = .ok (.ireturn, 1) := by decide +kernel
theorem dX11_textOf_0 : decode cX11_textOf 0 = .ok (.iload_n 2, 1) := by decide +kernel
theorem dX11_textOf_1 : decode cX11_textOf 1 = .ok (.iconst 1, 1) := by decide +kernel
theorem dX11_textOf_2 : decode cX11_textOf 2 = .ok (.bipush 60, 2) := by decide +kernel
theorem dX11_textOf_4 : decode cX11_textOf 4 = .ok (.invokestatic 137, 3) := by decide +kernel
theorem dX11_textOf_7 : decode cX11_textOf 7 = .ok (.ifCond .eq 11, 3) := by decide +kernel
theorem dX11_textOf_10 : decode cX11_textOf 10 = .ok (.iload_n 2, 1) := by decide +kernel
theorem dX11_textOf_11 : decode cX11_textOf 11 = .ok (.aload_n 0, 1) := by decide +kernel
theorem dX11_textOf_12 : decode cX11_textOf 12 = .ok (.getfield 159, 3) := by decide +kernel
theorem dX11_textOf_15 : decode cX11_textOf 15 = .ok (.if_icmp .le 5, 3) := by decide +kernel
theorem dX11_textOf_18 : decode cX11_textOf 18 = .ok (.iconst (-1), 1) := by decide +kernel
theorem dX11_textOf_19 : decode cX11_textOf 19 = .ok (.ireturn, 1) := by decide +kernel
theorem dX11_textOf_20 : decode cX11_textOf 20 = .ok (.aload_n 0, 1) := by decide +kernel
theorem dX11_textOf_21 : decode cX11_textOf 21 = .ok (.iload_n 2, 1) := by decide +kernel
theorem dX11_textOf_22 : decode cX11_textOf 22 = .ok (.iload_n 3, 1) := by decide +kernel
theorem dX11_textOf_23 : decode cX11_textOf 23 = .ok (.invokevirtual 246, 3) := by decide +kernel
theorem dX11_textOf_26 : decode cX11_textOf 26 = .ok (.istore 4, 2) := by decide +kernel
theorem dX11_textOf_28 : decode cX11_textOf 28 = .ok (.aload_n 0, 1) := by decide +kernel
theorem dX11_textOf_29 : decode cX11_textOf 29 = .ok (.invokevirtual 250, 3) := by decide +kernel
theorem dX11_textOf_32 : decode cX11_textOf 32 = .ok (.istore 5, 2) := by decide +kernel
theorem dX11_textOf_34 : decode cX11_textOf 34 = .ok (.aload_n 0, 1) := by decide +kernel
theorem dX11_textOf_35 : decode cX11_textOf 35 = .ok (.iconst 0, 1) := by decide +kernel
theorem dX11_textOf_36 : decode cX11_textOf 36 = .ok (.putfield 159, 3) := by decide +kernel
theorem dX11_textOf_39 : decode cX11_textOf 39 = .ok (.iload 4, 2) := by decide +kernel
theorem dX11_textOf_41 : decode cX11_textOf 41 = .ok (.ifCond .ne 8, 3) := by decide +kernel
theorem dX11_textOf_44 : decode cX11_textOf 44 = .ok (.aload_n 0, 1) := by decide +kernel
theorem dX11_textOf_45 : decode cX11_textOf 45 = .ok (.getfield 176, 3) := by decide +kernel
theorem dX11_textOf_48 : decode cX11_textOf 48 = .ok (.ireturn, 1) := by decide +kernel
theorem dX11_textOf_49 : decode cX11_textOf 49 = .ok (.aload_n 0, 1) := by decide +kernel
theorem dX11_textOf_50 : decode cX11_textOf 50 = .ok (.aload_n 0, 1) := by decide +kernel
theorem dX11_textOf_51 : decode cX11_textOf 51 = .ok (.getfield 149, 3) := by decide +kernel
theorem dX11_textOf_54 : decode cX11_textOf 54 = .ok (.iconst 1, 1) := by decide +kernel
theorem dX11_textOf_55 : decode cX11_textOf 55 = .ok (.iload_n 1, 1) := by decide +kernel
theorem dX11_textOf_56 : decode cX11_textOf 56 = .ok (.ishl, 1) := by decide +kernel
theorem dX11_textOf_57 : decode cX11_textOf 57 = .ok (.ior, 1) := by decide +kernel
theorem dX11_textOf_58 : decode cX11_textOf 58 = .ok (.putfield 149, 3) := by decide +kernel
theorem dX11_textOf_61 : decode cX11_textOf 61 = .ok (.aload_n 0, 1) := by decide +kernel
theorem dX11_textOf_62 : decode cX11_textOf 62 = .ok (.getfield 25, 3) := by decide +kernel
theorem dX11_textOf_65 : decode cX11_textOf 65 = .ok (.iload_n 1, 1) := by decide +kernel
theorem dX11_textOf_66 : decode cX11_textOf 66 = .ok (.aload_n 0, 1) := by decide +kernel
theorem dX11_textOf_67 : decode cX11_textOf 67 = .ok (.getfield 74, 3) := by decide +kernel
theorem dX11_textOf_70 : decode cX11_textOf 70 = .ok (.bipush 6, 2) := by decide +kernel
theorem dX11_textOf_72 : decode cX11_textOf 72 = .ok (.iaload, 1) := by decide +kernel
theorem dX11_textOf_73 : decode cX11_textOf 73 = .ok (.iastore, 1) := by decide +kernel
theorem dX11_textOf_74 : decode cX11_textOf 74 = .ok (.aload_n 0, 1) := by decide +kernel
theorem dX11_textOf_75 : decode cX11_textOf 75 = .ok (.getfield 28, 3) := by decide +kernel
theorem dX11_textOf_78 : decode cX11_textOf 78 = .ok (.iload_n 1, 1) := by decide +kernel
theorem dX11_textOf_79 : decode cX11_textOf 79 = .ok (.aload_n 0, 1) := by decide +kernel
theorem dX11_textOf_80 : decode cX11_textOf 80 = .ok (.getfield 74, 3) := by decide +kernel
theorem dX11_textOf_83 : decode cX11_textOf 83 = .ok (.bipush 6, 2) := by decide +kernel
theorem dX11_textOf_85 : decode cX11_textOf 85 = .ok (.iaload, 1) := by decide +kernel
theorem dX11_textOf_86 : decode cX11_textOf 86 = .ok (.iastore, 1) := by decide +kernel
theorem dX11_textOf_87 : decode cX11_textOf 87 = .ok (.iconst 0, 1) := by decide +kernel
theorem dX11_textOf_88 : decode cX11_textOf 88 = .ok (.istore 6, 2) := by decide +kernel
theorem dX11_textOf_90 : decode cX11_textOf 90 = .ok (.iload 6, 2) := by decide +kernel
theorem dX11_textOf_92 : decode cX11_textOf 92 = .ok (.bipush 6, 2) := by decide +kernel
theorem dX11_textOf_94 : decode cX11_textOf 94 = .ok (.if_icmp .ge 55, 3) := by decide +kernel
theorem dX11_textOf_97 : decode cX11_textOf 97 = .ok (.aload_n 0, 1) := by decide +kernel
theorem dX11_textOf_98 : decode cX11_textOf 98 = .ok (.getfield 22, 3) := by decide +kernel
theorem dX11_textOf_101 : decode cX11_textOf 101 = .ok (.bipush 6, 2) := by decide +kernel
theorem dX11_textOf_103 : decode cX11_textOf 103 = .ok (.iload_n 1, 1) := by decide +kernel
theorem dX11_textOf_104 : decode cX11_textOf 104 = .ok (.imul, 1) := by decide +kernel
theorem dX11_textOf_105 : decode cX11_textOf 105 = .ok (.iload 6, 2) := by decide +kernel
theorem dX11_textOf_107 : decode cX11_textOf 107 = .ok (.iadd, 1) := by decide +kernel
theorem dX11_textOf_108 : decode cX11_textOf 108 = .ok (.aload_n 0, 1) := by decide +kernel
theorem dX11_textOf_109 : decode cX11_textOf 109 = .ok (.getfield 74, 3) := by decide +kernel
theorem dX11_textOf_112 : decode cX11_textOf 112 = .ok (.iload 6, 2) := by decide +kernel
theorem dX11_textOf_114 : decode cX11_textOf 114 = .ok (.iaload, 1) := by decide +kernel
theorem dX11_textOf_115 : decode cX11_textOf 115 = .ok (.iastore, 1) := by decide +kernel
theorem dX11_textOf_116 : decode cX11_textOf 116 = .ok (.aload_n 0, 1) := by decide +kernel
theorem dX11_textOf_117 : decode cX11_textOf 117 = .ok (.getfield 28, 3) := by decide +kernel
theorem dX11_textOf_120 : decode cX11_textOf 120 = .ok (.iload_n 1, 1) := by decide +kernel
theorem dX11_textOf_121 : decode cX11_textOf 121 = .ok (.aload_n 0, 1) := by decide +kernel
theorem dX11_textOf_122 : decode cX11_textOf 122 = .ok (.getfield 28, 3) := by decide +kernel
theorem dX11_textOf_125 : decode cX11_textOf 125 = .ok (.iload_n 1, 1) := by decide +kernel
theorem dX11_textOf_126 : decode cX11_textOf 126 = .ok (.iaload, 1) := by decide +kernel
theorem dX11_textOf_127 : decode cX11_textOf 127 = .ok (.aload_n 0, 1) := by decide +kernel
theorem dX11_textOf_128 : decode cX11_textOf 128 = .ok (.getfield 74, 3) := by decide +kernel
theorem dX11_textOf_131 : decode cX11_textOf 131 = .ok (.iload 6, 2) := by decide +kernel
theorem dX11_textOf_133 : decode cX11_textOf 133 = .ok (.iaload, 1) := by decide +kernel
theorem dX11_textOf_134 : decode cX11_textOf 134 = .ok (.aload_n 0, 1) := by decide +kernel
theorem dX11_textOf_135 : decode cX11_textOf 135 = .ok (.iload 6, 2) := by decide +kernel
theorem dX11_textOf_137 : decode cX11_textOf 137 = .ok (.invokevirtual 253, 3) := by decide +kernel
theorem dX11_textOf_140 : decode cX11_textOf 140 = .ok (.imul, 1) := by decide +kernel
theorem dX11_textOf_141 : decode cX11_textOf 141 = .ok (.iadd, 1) := by decide +kernel
theorem dX11_textOf_142 : decode cX11_textOf 142 = .ok (.iastore, 1) := by decide +kernel
theorem dX11_textOf_143 : decode cX11_textOf 143 = .ok (.iinc 6 1, 3) := by decide +kernel
theorem dX11_textOf_146 : decode cX11_textOf 146 = .ok (.goto (-56), 3) := by decide +kernel
theorem dX11_textOf_149 : decode cX11_textOf 149 = .ok (.aload_n 0, 1) := by decide +kernel
theorem dX11_textOf_150 : decode cX11_textOf 150 = .ok (.getfield 31, 3) := by decide +kernel
theorem dX11_textOf_153 : decode cX11_textOf 153 = .ok (.iload_n 1, 1) := by decide +kernel
theorem dX11_textOf_154 : decode cX11_textOf 154 = .ok (.aload_n 0, 1) := by decide +kernel
theorem dX11_textOf_155 : decode cX11_textOf 155 = .ok (.getfield 234, 3) := by decide +kernel
theorem dX11_textOf_158 : decode cX11_textOf 158 = .ok (.iastore, 1) := by decide +kernel
theorem dX11_textOf_159 : decode cX11_textOf 159 = .ok (.aload_n 0, 1) := by decide +kernel
theorem dX11_textOf_160 : decode cX11_textOf 160 = .ok (.getfield 34, 3) := by decide +kernel
theorem dX11_textOf_163 : decode cX11_textOf 163 = .ok (.iload_n 1, 1) := by decide +kernel
theorem dX11_textOf_164 : decode cX11_textOf 164 = .ok (.aload_n 0, 1) := by decide +kernel
theorem dX11_textOf_165 : decode cX11_textOf 165 = .ok (.getfield 237, 3) := by decide +kernel
theorem dX11_textOf_168 : decode cX11_textOf 168 = .ok (.iastore, 1) := by decide +kernel
theorem dX11_textOf_169 : decode cX11_textOf 169 = .ok (.aload_n 0, 1) := by decide +kernel
theorem dX11_textOf_170 : decode cX11_textOf 170 = .ok (.getfield 37, 3) := by decide +kernel
theorem dX11_textOf_173 : decode cX11_textOf 173 = .ok (.iload_n 1, 1) := by decide +kernel
theorem dX11_textOf_174 : decode cX11_textOf 174 = .ok (.aload_n 0, 1) := by decide +kernel
theorem dX11_textOf_175 : decode cX11_textOf 175 = .ok (.getfield 156, 3) := by decide +kernel
theorem dX11_textOf_178 : decode cX11_textOf 178 = .ok (.iastore, 1) := by decide +kernel
theorem dX11_textOf_179 : decode cX11_textOf 179 = .ok (.aload_n 0, 1) := by decide +kernel
theorem dX11_textOf_180 : decode cX11_textOf 180 = .ok (.getfield 40, 3) := by decide +kernel
theorem dX11_textOf_183 : decode cX11_textOf 183 = .ok (.iload_n 1, 1) := by decide +kernel
theorem dX11_textOf_184 : decode cX11_textOf 184 = .ok (.iload 5, 2) := by decide +kernel
theorem dX11_textOf_186 : decode cX11_textOf 186 = .ok (.iastore, 1) := by decide +kernel
theorem dX11_textOf_187 : decode cX11_textOf 187 = .ok (.iload 5, 2) := by decide +kernel
theorem dX11_textOf_189 : decode cX11_textOf 189 = .ok (.invokestatic 256, 3) := by decide +kernel
theorem dX11_textOf_192 : decode cX11_textOf 192 = .ok (.ireturn, 1) := by decide +kernel
theorem dX11_remark_0 : decode cX11_remark 0 = .ok (.iload_n 1, 1) := by decide +kernel
theorem dX11_remark_1 : decode cX11_remark 1 = .ok (.iconst 0, 1) := by decide +kernel
theorem dX11_remark_2 : decode cX11_remark 2 = .ok (.bipush 9, 2) := by decide +kernel
theorem dX11_remark_4 : decode cX11_remark 4 = .ok (.invokestatic 137, 3) := by decide +kernel
theorem dX11_remark_7 : decode cX11_remark 7 = .ok (.ifCond .eq 13, 3) := by decide +kernel
theorem dX11_remark_10 : decode cX11_remark 10 = .ok (.aload_n 0, 1) := by decide +kernel
theorem dX11_remark_11 : decode cX11_remark 11 = .ok (.iload_n 1, 1) := by decide +kernel
theorem dX11_remark_12 : decode cX11_remark 12 = .ok (.iload_n 2, 1) := by decide +kernel
theorem dX11_remark_13 : decode cX11_remark 13 = .ok (.iconst 1, 1) := by decide +kernel
theorem dX11_remark_14 : decode cX11_remark 14 = .ok (.invokevirtual 259, 3) := by decide +kernel
theorem dX11_remark_17 : decode cX11_remark 17 = .ok (.goto 4, 3) := by decide +kernel
theorem dX11_remark_20 : decode cX11_remark 20 = .ok (.iconst (-1), 1) := by decide +kernel
theorem dX11_remark_21 : decode cX11_remark 21 = .ok (.ireturn, 1) := by decide +kernel
theorem dX11_form_0 : decode cX11_form 0 = .ok (.iload_n 1, 1) := by decide +kernel
theorem dX11_form_1 : decode cX11_form 1 = .ok (.iconst 0, 1) := by decide +kernel
theorem dX11_form_2 : decode cX11_form 2 = .ok (.iconst 5, 1) := by decide +kernel
theorem dX11_form_3 : decode cX11_form 3 = .ok (.invokestatic 137, 3) := by decide +kernel
theorem dX11_form_6 : decode cX11_form 6 = .ok (.ifCond .eq 16, 3) := by decide +kernel
theorem dX11_form_9 : decode cX11_form 9 = .ok (.aload_n 0, 1) := by decide +kernel
theorem dX11_form_10 : decode cX11_form 10 = .ok (.bipush 10, 2) := by decide +kernel
theorem dX11_form_12 : decode cX11_form 12 = .ok (.iload_n 1, 1) := by decide +kernel
theorem dX11_form_13 : decode cX11_form 13 = .ok (.iadd, 1) := by decide +kernel
theorem dX11_form_14 : decode cX11_form 14 = .ok (.iload_n 2, 1) := by decide +kernel
theorem dX11_form_15 : decode cX11_form 15 = .ok (.iconst 0, 1) := by decide +kernel
theorem dX11_form_16 : decode cX11_form 16 = .ok (.invokevirtual 259, 3) := by decide +kernel
theorem dX11_form_19 : decode cX11_form 19 = .ok (.goto 4, 3) := by decide +kernel
theorem dX11_form_22 : decode cX11_form 22 = .ok (.iconst (-1), 1) := by decide +kernel
theorem dX11_form_23 : decode cX11_form 23 = .ok (.ireturn, 1) := by decide +kernel
theorem dX11_takeBack_0 : decode cX11_takeBack 0 = .ok (.aload_n 0, 1) := by decide +kernel
theorem dX11_takeBack_1 : decode cX11_takeBack 1 = .ok (.iload_n 1, 1) := by decide +kernel
theorem dX11_takeBack_2 : decode cX11_takeBack 2 = .ok (.invokevirtual 263, 3) := by decide +kernel
theorem dX11_takeBack_5 : decode cX11_takeBack 5 = .ok (.ifCond .ne 5, 3) := by decide +kernel
theorem dX11_takeBack_8 : decode cX11_takeBack 8 = .ok (.iconst 0, 1) := by decide +kernel
theorem dX11_takeBack_9 : decode cX11_takeBack 9 = .ok (.ireturn, 1) := by decide +kernel
theorem dX11_takeBack_10 : decode cX11_takeBack 10 = .ok (.aload_n 0, 1) := by decide +kernel
theorem dX11_takeBack_11 : decode cX11_takeBack 11 = .ok (.aload_n 0, 1) := by decide +kernel
theorem dX11_takeBack_12 : decode cX11_takeBack 12 = .ok (.getfield 149, 3) := by decide +kernel
theorem dX11_takeBack_15 : decode cX11_takeBack 15 = .ok (.iconst 1, 1) := by decide +kernel
theorem dX11_takeBack_16 : decode cX11_takeBack 16 = .ok (.iload_n 1, 1) := by decide +kernel
theorem dX11_takeBack_17 : decode cX11_takeBack 17 = .ok (.ishl, 1) := by decide +kernel
theorem dX11_takeBack_18 : decode cX11_takeBack 18 = .ok (.iconst (-1), 1) := by decide +kernel
theorem dX11_takeBack_19 : decode cX11_takeBack 19 = .ok (.ixor, 1) := by decide +kernel
theorem dX11_takeBack_20 : decode cX11_takeBack 20 = .ok (.iand, 1) := by decide +kernel
theorem dX11_takeBack_21 : decode cX11_takeBack 21 = .ok (.putfield 149, 3) := by decide +kernel
theorem dX11_takeBack_24 : decode cX11_takeBack 24 = .ok (.iconst 1, 1) := by decide +kernel
theorem dX11_takeBack_25 : decode cX11_takeBack 25 = .ok (.ireturn, 1) := by decide +kernel
theorem dX11_rowMany_0 : decode cX11_rowMany 0 = .ok (.iconst 1, 1) := by decide +kernel
theorem dX11_rowMany_1 : decode cX11_rowMany 1 = .ok (.istore_n 1, 1) := by decide +kernel
theorem dX11_rowMany_2 : decode cX11_rowMany 2 = .ok (.iconst 0, 1) := by decide +kernel
theorem dX11_rowMany_3 : decode cX11_rowMany 3 = .ok (.istore_n 2, 1) := by decide +kernel
theorem dX11_rowMany_4 : decode cX11_rowMany 4 = .ok (.iload_n 2, 1) := by decide +kernel
theorem dX11_rowMany_5 : decode cX11_rowMany 5 = .ok (.bipush 6, 2) := by decide +kernel
theorem dX11_rowMany_7 : decode cX11_rowMany 7 = .ok (.if_icmp .ge 42, 3) := by decide +kernel
theorem dX11_rowMany_10 : decode cX11_rowMany 10 = .ok (.aload_n 0, 1) := by decide +kernel
theorem dX11_rowMany_11 : decode cX11_rowMany 11 = .ok (.iload_n 2, 1) := by decide +kernel
theorem dX11_rowMany_12 : decode cX11_rowMany 12 = .ok (.invokevirtual 145, 3) := by decide +kernel
theorem dX11_rowMany_15 : decode cX11_rowMany 15 = .ok (.ifCond .eq 28, 3) := by decide +kernel
theorem dX11_rowMany_18 : decode cX11_rowMany 18 = .ok (.iload_n 1, 1) := by decide +kernel
theorem dX11_rowMany_19 : decode cX11_rowMany 19 = .ok (.ldc_w 266, 3) := by decide +kernel
theorem dX11_rowMany_22 : decode cX11_rowMany 22 = .ok (.if_icmp .gt 21, 3) := by decide +kernel
theorem dX11_rowMany_25 : decode cX11_rowMany 25 = .ok (.iload_n 1, 1) := by decide +kernel
theorem dX11_rowMany_26 : decode cX11_rowMany 26 = .ok (.aload_n 0, 1) := by decide +kernel
theorem dX11_rowMany_27 : decode cX11_rowMany 27 = .ok (.getfield 13, 3) := by decide +kernel
theorem dX11_rowMany_30 : decode cX11_rowMany 30 = .ok (.iload_n 2, 1) := by decide +kernel
theorem dX11_rowMany_31 : decode cX11_rowMany 31 = .ok (.iaload, 1) := by decide +kernel
theorem dX11_rowMany_32 : decode cX11_rowMany 32 = .ok (.aload_n 0, 1) := by decide +kernel
theorem dX11_rowMany_33 : decode cX11_rowMany 33 = .ok (.getfield 7, 3) := by decide +kernel
theorem dX11_rowMany_36 : decode cX11_rowMany 36 = .ok (.iload_n 2, 1) := by decide +kernel
theorem dX11_rowMany_37 : decode cX11_rowMany 37 = .ok (.iaload, 1) := by decide +kernel
theorem dX11_rowMany_38 : decode cX11_rowMany 38 = .ok (.isub, 1) := by decide +kernel
theorem dX11_rowMany_39 : decode cX11_rowMany 39 = .ok (.iconst 1, 1) := by decide +kernel
theorem dX11_rowMany_40 : decode cX11_rowMany 40 = .ok (.iadd, 1) := by decide +kernel
theorem dX11_rowMany_41 : decode cX11_rowMany 41 = .ok (.imul, 1) := by decide +kernel
theorem dX11_rowMany_42 : decode cX11_rowMany 42 = .ok (.istore_n 1, 1) := by decide +kernel
theorem dX11_rowMany_43 : decode cX11_rowMany 43 = .ok (.iinc 2 1, 3) := by decide +kernel
theorem dX11_rowMany_46 : decode cX11_rowMany 46 = .ok (.goto (-42), 3) := by decide +kernel
theorem dX11_rowMany_49 : decode cX11_rowMany 49 = .ok (.iload_n 1, 1) := by decide +kernel
theorem dX11_rowMany_50 : decode cX11_rowMany 50 = .ok (.ireturn, 1) := by decide +kernel
theorem dX11_rows_0 : decode cX11_rows 0 = .ok (.aload_n 0, 1) := by decide +kernel
theorem dX11_rows_1 : decode cX11_rows 1 = .ok (.invokevirtual 267, 3) := by decide +kernel
theorem dX11_rows_4 : decode cX11_rows 4 = .ok (.ldc_w 266, 3) := by decide +kernel
theorem dX11_rows_7 : decode cX11_rows 7 = .ok (.if_icmp .le 8, 3) := by decide +kernel
theorem dX11_rows_10 : decode cX11_rows 10 = .ok (.bipush (-3), 2) := by decide +kernel
theorem dX11_rows_12 : decode cX11_rows 12 = .ok (.goto 7, 3) := by decide +kernel
theorem dX11_rows_15 : decode cX11_rows 15 = .ok (.aload_n 0, 1) := by decide +kernel
theorem dX11_rows_16 : decode cX11_rows 16 = .ok (.invokevirtual 267, 3) := by decide +kernel
theorem dX11_rows_19 : decode cX11_rows 19 = .ok (.ireturn, 1) := by decide +kernel
theorem dX11_firstRow_0 : decode cX11_firstRow 0 = .ok (.iconst 0, 1) := by decide +kernel
theorem dX11_firstRow_1 : decode cX11_firstRow 1 = .ok (.istore_n 1, 1) := by decide +kernel
theorem dX11_firstRow_2 : decode cX11_firstRow 2 = .ok (.iload_n 1, 1) := by decide +kernel
theorem dX11_firstRow_3 : decode cX11_firstRow 3 = .ok (.bipush 6, 2) := by decide +kernel
theorem dX11_firstRow_5 : decode cX11_firstRow 5 = .ok (.if_icmp .ge 21, 3) := by decide +kernel
theorem dX11_firstRow_8 : decode cX11_firstRow 8 = .ok (.aload_n 0, 1) := by decide +kernel
theorem dX11_firstRow_9 : decode cX11_firstRow 9 = .ok (.getfield 77, 3) := by decide +kernel
theorem dX11_firstRow_12 : decode cX11_firstRow 12 = .ok (.iload_n 1, 1) := by decide +kernel
theorem dX11_firstRow_13 : decode cX11_firstRow 13 = .ok (.aload_n 0, 1) := by decide +kernel
theorem dX11_firstRow_14 : decode cX11_firstRow 14 = .ok (.getfield 7, 3) := by decide +kernel
theorem dX11_firstRow_17 : decode cX11_firstRow 17 = .ok (.iload_n 1, 1) := by decide +kernel
theorem dX11_firstRow_18 : decode cX11_firstRow 18 = .ok (.iaload, 1) := by decide +kernel
theorem dX11_firstRow_19 : decode cX11_firstRow 19 = .ok (.iastore, 1) := by decide +kernel
theorem dX11_firstRow_20 : decode cX11_firstRow 20 = .ok (.iinc 1 1, 3) := by decide +kernel
theorem dX11_firstRow_23 : decode cX11_firstRow 23 = .ok (.goto (-21), 3) := by decide +kernel
theorem dX11_firstRow_26 : decode cX11_firstRow 26 = .ok (.return_, 1) := by decide +kernel
theorem dX11_nextRow_0 : decode cX11_nextRow 0 = .ok (.iconst 5, 1) := by decide +kernel
theorem dX11_nextRow_1 : decode cX11_nextRow 1 = .ok (.istore_n 1, 1) := by decide +kernel
theorem dX11_nextRow_2 : decode cX11_nextRow 2 = .ok (.iload_n 1, 1) := by decide +kernel
theorem dX11_nextRow_3 : decode cX11_nextRow 3 = .ok (.ifCond .lt 63, 3) := by decide +kernel
theorem dX11_nextRow_6 : decode cX11_nextRow 6 = .ok (.aload_n 0, 1) := by decide +kernel
theorem dX11_nextRow_7 : decode cX11_nextRow 7 = .ok (.iload_n 1, 1) := by decide +kernel
theorem dX11_nextRow_8 : decode cX11_nextRow 8 = .ok (.invokevirtual 145, 3) := by decide +kernel
theorem dX11_nextRow_11 : decode cX11_nextRow 11 = .ok (.ifCond .ne 6, 3) := by decide +kernel
theorem dX11_nextRow_14 : decode cX11_nextRow 14 = .ok (.goto 46, 3) := by decide +kernel
theorem dX11_nextRow_17 : decode cX11_nextRow 17 = .ok (.aload_n 0, 1) := by decide +kernel
theorem dX11_nextRow_18 : decode cX11_nextRow 18 = .ok (.getfield 77, 3) := by decide +kernel
theorem dX11_nextRow_21 : decode cX11_nextRow 21 = .ok (.iload_n 1, 1) := by decide +kernel
theorem dX11_nextRow_22 : decode cX11_nextRow 22 = .ok (.iaload, 1) := by decide +kernel
theorem dX11_nextRow_23 : decode cX11_nextRow 23 = .ok (.aload_n 0, 1) := by decide +kernel
theorem dX11_nextRow_24 : decode cX11_nextRow 24 = .ok (.getfield 13, 3) := by decide +kernel
theorem dX11_nextRow_27 : decode cX11_nextRow 27 = .ok (.iload_n 1, 1) := by decide +kernel
theorem dX11_nextRow_28 : decode cX11_nextRow 28 = .ok (.iaload, 1) := by decide +kernel
theorem dX11_nextRow_29 : decode cX11_nextRow 29 = .ok (.if_icmp .ge 19, 3) := by decide +kernel
theorem dX11_nextRow_32 : decode cX11_nextRow 32 = .ok (.aload_n 0, 1) := by decide +kernel
theorem dX11_nextRow_33 : decode cX11_nextRow 33 = .ok (.getfield 77, 3) := by decide +kernel
theorem dX11_nextRow_36 : decode cX11_nextRow 36 = .ok (.iload_n 1, 1) := by decide +kernel
theorem dX11_nextRow_37 : decode cX11_nextRow 37 = .ok (.aload_n 0, 1) := by decide +kernel
theorem dX11_nextRow_38 : decode cX11_nextRow 38 = .ok (.getfield 77, 3) := by decide +kernel
theorem dX11_nextRow_41 : decode cX11_nextRow 41 = .ok (.iload_n 1, 1) := by decide +kernel
theorem dX11_nextRow_42 : decode cX11_nextRow 42 = .ok (.iaload, 1) := by decide +kernel
theorem dX11_nextRow_43 : decode cX11_nextRow 43 = .ok (.iconst 1, 1) := by decide +kernel
theorem dX11_nextRow_44 : decode cX11_nextRow 44 = .ok (.iadd, 1) := by decide +kernel
theorem dX11_nextRow_45 : decode cX11_nextRow 45 = .ok (.iastore, 1) := by decide +kernel
theorem dX11_nextRow_46 : decode cX11_nextRow 46 = .ok (.iconst 1, 1) := by decide +kernel
theorem dX11_nextRow_47 : decode cX11_nextRow 47 = .ok (.ireturn, 1) := by decide +kernel
theorem dX11_nextRow_48 : decode cX11_nextRow 48 = .ok (.aload_n 0, 1) := by decide +kernel
theorem dX11_nextRow_49 : decode cX11_nextRow 49 = .ok (.getfield 77, 3) := by decide +kernel
theorem dX11_nextRow_52 : decode cX11_nextRow 52 = .ok (.iload_n 1, 1) := by decide +kernel
theorem dX11_nextRow_53 : decode cX11_nextRow 53 = .ok (.aload_n 0, 1) := by decide +kernel
theorem dX11_nextRow_54 : decode cX11_nextRow 54 = .ok (.getfield 7, 3) := by decide +kernel
theorem dX11_nextRow_57 : decode cX11_nextRow 57 = .ok (.iload_n 1, 1) := by decide +kernel
theorem dX11_nextRow_58 : decode cX11_nextRow 58 = .ok (.iaload, 1) := by decide +kernel
theorem dX11_nextRow_59 : decode cX11_nextRow 59 = .ok (.iastore, 1) := by decide +kernel
theorem dX11_nextRow_60 : decode cX11_nextRow 60 = .ok (.iinc 1 (-1), 3) := by decide +kernel
theorem dX11_nextRow_63 : decode cX11_nextRow 63 = .ok (.goto (-61), 3) := by decide +kernel
theorem dX11_nextRow_66 : decode cX11_nextRow 66 = .ok (.iconst 0, 1) := by decide +kernel
theorem dX11_nextRow_67 : decode cX11_nextRow 67 = .ok (.ireturn, 1) := by decide +kernel
theorem dX11_valueOf_0 : decode cX11_valueOf 0 = .ok (.aload_n 0, 1) := by decide +kernel
theorem dX11_valueOf_1 : decode cX11_valueOf 1 = .ok (.getfield 28, 3) := by decide +kernel
theorem dX11_valueOf_4 : decode cX11_valueOf 4 = .ok (.iload_n 1, 1) := by decide +kernel
theorem dX11_valueOf_5 : decode cX11_valueOf 5 = .ok (.iaload, 1) := by decide +kernel
theorem dX11_valueOf_6 : decode cX11_valueOf 6 = .ok (.istore_n 2, 1) := by decide +kernel
theorem dX11_valueOf_7 : decode cX11_valueOf 7 = .ok (.iconst 0, 1) := by decide +kernel
theorem dX11_valueOf_8 : decode cX11_valueOf 8 = .ok (.istore_n 3, 1) := by decide +kernel
theorem dX11_valueOf_9 : decode cX11_valueOf 9 = .ok (.iload_n 3, 1) := by decide +kernel
theorem dX11_valueOf_10 : decode cX11_valueOf 10 = .ok (.bipush 6, 2) := by decide +kernel
theorem dX11_valueOf_12 : decode cX11_valueOf 12 = .ok (.if_icmp .ge 30, 3) := by decide +kernel
theorem dX11_valueOf_15 : decode cX11_valueOf 15 = .ok (.iload_n 2, 1) := by decide +kernel
theorem dX11_valueOf_16 : decode cX11_valueOf 16 = .ok (.aload_n 0, 1) := by decide +kernel
theorem dX11_valueOf_17 : decode cX11_valueOf 17 = .ok (.getfield 22, 3) := by decide +kernel
theorem dX11_valueOf_20 : decode cX11_valueOf 20 = .ok (.bipush 6, 2) := by decide +kernel
theorem dX11_valueOf_22 : decode cX11_valueOf 22 = .ok (.iload_n 1, 1) := by decide +kernel
theorem dX11_valueOf_23 : decode cX11_valueOf 23 = .ok (.imul, 1) := by decide +kernel
theorem dX11_valueOf_24 : decode cX11_valueOf 24 = .ok (.iload_n 3, 1) := by decide +kernel
theorem dX11_valueOf_25 : decode cX11_valueOf 25 = .ok (.iadd, 1) := by decide +kernel
theorem dX11_valueOf_26 : decode cX11_valueOf 26 = .ok (.iaload, 1) := by decide +kernel
theorem dX11_valueOf_27 : decode cX11_valueOf 27 = .ok (.aload_n 0, 1) := by decide +kernel
theorem dX11_valueOf_28 : decode cX11_valueOf 28 = .ok (.getfield 77, 3) := by decide +kernel
theorem dX11_valueOf_31 : decode cX11_valueOf 31 = .ok (.iload_n 3, 1) := by decide +kernel
theorem dX11_valueOf_32 : decode cX11_valueOf 32 = .ok (.iaload, 1) := by decide +kernel
theorem dX11_valueOf_33 : decode cX11_valueOf 33 = .ok (.imul, 1) := by decide +kernel
theorem dX11_valueOf_34 : decode cX11_valueOf 34 = .ok (.iadd, 1) := by decide +kernel
theorem dX11_valueOf_35 : decode cX11_valueOf 35 = .ok (.istore_n 2, 1) := by decide +kernel
theorem dX11_valueOf_36 : decode cX11_valueOf 36 = .ok (.iinc 3 1, 3) := by decide +kernel
theorem dX11_valueOf_39 : decode cX11_valueOf 39 = .ok (.goto (-30), 3) := by decide +kernel
theorem dX11_valueOf_42 : decode cX11_valueOf 42 = .ok (.iload_n 2, 1) := by decide +kernel
theorem dX11_valueOf_43 : decode cX11_valueOf 43 = .ok (.ireturn, 1) := by decide +kernel
theorem dX11_isSo_0 : decode cX11_isSo 0 = .ok (.aload_n 0, 1) := by decide +kernel
theorem dX11_isSo_1 : decode cX11_isSo 1 = .ok (.getfield 31, 3) := by decide +kernel
theorem dX11_isSo_4 : decode cX11_isSo 4 = .ok (.iload_n 1, 1) := by decide +kernel
theorem dX11_isSo_5 : decode cX11_isSo 5 = .ok (.iaload, 1) := by decide +kernel
theorem dX11_isSo_6 : decode cX11_isSo 6 = .ok (.tableswitch 56 0 2 #[26, 36, 46], 26) := by decide +kernel
theorem dX11_isSo_32 : decode cX11_isSo 32 = .ok (.iload_n 2, 1) := by decide +kernel
theorem dX11_isSo_33 : decode cX11_isSo 33 = .ok (.ifCond .ne 7, 3) := by decide +kernel
theorem dX11_isSo_36 : decode cX11_isSo 36 = .ok (.iconst 1, 1) := by decide +kernel
theorem dX11_isSo_37 : decode cX11_isSo 37 = .ok (.goto 4, 3) := by decide +kernel
theorem dX11_isSo_40 : decode cX11_isSo 40 = .ok (.iconst 0, 1) := by decide +kernel
theorem dX11_isSo_41 : decode cX11_isSo 41 = .ok (.ireturn, 1) := by decide +kernel
theorem dX11_isSo_42 : decode cX11_isSo 42 = .ok (.iload_n 2, 1) := by decide +kernel
theorem dX11_isSo_43 : decode cX11_isSo 43 = .ok (.ifCond .ge 7, 3) := by decide +kernel
theorem dX11_isSo_46 : decode cX11_isSo 46 = .ok (.iconst 1, 1) := by decide +kernel
theorem dX11_isSo_47 : decode cX11_isSo 47 = .ok (.goto 4, 3) := by decide +kernel
theorem dX11_isSo_50 : decode cX11_isSo 50 = .ok (.iconst 0, 1) := by decide +kernel
theorem dX11_isSo_51 : decode cX11_isSo 51 = .ok (.ireturn, 1) := by decide +kernel
theorem dX11_isSo_52 : decode cX11_isSo 52 = .ok (.iload_n 2, 1) := by decide +kernel
theorem dX11_isSo_53 : decode cX11_isSo 53 = .ok (.ifCond .le 7, 3) := by decide +kernel
theorem dX11_isSo_56 : decode cX11_isSo 56 = .ok (.iconst 1, 1) := by decide +kernel
theorem dX11_isSo_57 : decode cX11_isSo 57 = .ok (.goto 4, 3) := by decide +kernel
theorem dX11_isSo_60 : decode cX11_isSo 60 = .ok (.iconst 0, 1) := by decide +kernel
theorem dX11_isSo_61 : decode cX11_isSo 61 = .ok (.ireturn, 1) := by decide +kernel
theorem dX11_isSo_62 : decode cX11_isSo 62 = .ok (.iload_n 2, 1) := by decide +kernel
theorem dX11_isSo_63 : decode cX11_isSo 63 = .ok (.aload_n 0, 1) := by decide +kernel
theorem dX11_isSo_64 : decode cX11_isSo 64 = .ok (.getfield 34, 3) := by decide +kernel
theorem dX11_isSo_67 : decode cX11_isSo 67 = .ok (.iload_n 1, 1) := by decide +kernel
theorem dX11_isSo_68 : decode cX11_isSo 68 = .ok (.iaload, 1) := by decide +kernel
theorem dX11_isSo_69 : decode cX11_isSo 69 = .ok (.irem, 1) := by decide +kernel
theorem dX11_isSo_70 : decode cX11_isSo 70 = .ok (.ifCond .ne 7, 3) := by decide +kernel
theorem dX11_isSo_73 : decode cX11_isSo 73 = .ok (.iconst 1, 1) := by decide +kernel
theorem dX11_isSo_74 : decode cX11_isSo 74 = .ok (.goto 4, 3) := by decide +kernel
theorem dX11_isSo_77 : decode cX11_isSo 77 = .ok (.iconst 0, 1) := by decide +kernel
theorem dX11_isSo_78 : decode cX11_isSo 78 = .ok (.ireturn, 1) := by decide +kernel
theorem dX11_fitsAll_0 : decode cX11_fitsAll 0 = .ok (.iconst 0, 1) := by decide +kernel
theorem dX11_fitsAll_1 : decode cX11_fitsAll 1 = .ok (.istore_n 2, 1) := by decide +kernel
theorem dX11_fitsAll_2 : decode cX11_fitsAll 2 = .ok (.iload_n 2, 1) := by decide +kernel
theorem dX11_fitsAll_3 : decode cX11_fitsAll 3 = .ok (.bipush 10, 2) := by decide +kernel
theorem dX11_fitsAll_5 : decode cX11_fitsAll 5 = .ok (.if_icmp .ge 32, 3) := by decide +kernel
theorem dX11_fitsAll_8 : decode cX11_fitsAll 8 = .ok (.iload_n 1, 1) := by decide +kernel
theorem dX11_fitsAll_9 : decode cX11_fitsAll 9 = .ok (.iload_n 2, 1) := by decide +kernel
theorem dX11_fitsAll_10 : decode cX11_fitsAll 10 = .ok (.invokestatic 133, 3) := by decide +kernel
theorem dX11_fitsAll_13 : decode cX11_fitsAll 13 = .ok (.ifCond .eq 18, 3) := by decide +kernel
theorem dX11_fitsAll_16 : decode cX11_fitsAll 16 = .ok (.aload_n 0, 1) := by decide +kernel
theorem dX11_fitsAll_17 : decode cX11_fitsAll 17 = .ok (.iload_n 2, 1) := by decide +kernel
theorem dX11_fitsAll_18 : decode cX11_fitsAll 18 = .ok (.aload_n 0, 1) := by decide +kernel
theorem dX11_fitsAll_19 : decode cX11_fitsAll 19 = .ok (.iload_n 2, 1) := by decide +kernel
theorem dX11_fitsAll_20 : decode cX11_fitsAll 20 = .ok (.invokevirtual 270, 3) := by decide +kernel
theorem dX11_fitsAll_23 : decode cX11_fitsAll 23 = .ok (.invokevirtual 273, 3) := by decide +kernel
theorem dX11_fitsAll_26 : decode cX11_fitsAll 26 = .ok (.ifCond .ne 5, 3) := by decide +kernel
theorem dX11_fitsAll_29 : decode cX11_fitsAll 29 = .ok (.iconst 0, 1) := by decide +kernel
theorem dX11_fitsAll_30 : decode cX11_fitsAll 30 = .ok (.ireturn, 1) := by decide +kernel
theorem dX11_fitsAll_31 : decode cX11_fitsAll 31 = .ok (.iinc 2 1, 3) := by decide +kernel
theorem dX11_fitsAll_34 : decode cX11_fitsAll 34 = .ok (.goto (-32), 3) := by decide +kernel
theorem dX11_fitsAll_37 : decode cX11_fitsAll 37 = .ok (.iconst 1, 1) := by decide +kernel
theorem dX11_fitsAll_38 : decode cX11_fitsAll 38 = .ok (.ireturn, 1) := by decide +kernel
theorem dX11_counts_0 : decode cX11_counts 0 = .ok (.iconst 0, 1) := by decide +kernel
theorem dX11_counts_1 : decode cX11_counts 1 = .ok (.istore_n 1, 1) := by decide +kernel
theorem dX11_counts_2 : decode cX11_counts 2 = .ok (.iload_n 1, 1) := by decide +kernel
theorem dX11_counts_3 : decode cX11_counts 3 = .ok (.sipush 1024, 3) := by decide +kernel
theorem dX11_counts_6 : decode cX11_counts 6 = .ok (.if_icmp .ge 16, 3) := by decide +kernel
theorem dX11_counts_9 : decode cX11_counts 9 = .ok (.aload_n 0, 1) := by decide +kernel
theorem dX11_counts_10 : decode cX11_counts 10 = .ok (.getfield 80, 3) := by decide +kernel
theorem dX11_counts_13 : decode cX11_counts 13 = .ok (.iload_n 1, 1) := by decide +kernel
theorem dX11_counts_14 : decode cX11_counts 14 = .ok (.iconst 0, 1) := by decide +kernel
theorem dX11_counts_15 : decode cX11_counts 15 = .ok (.iastore, 1) := by decide +kernel
theorem dX11_counts_16 : decode cX11_counts 16 = .ok (.iinc 1 1, 3) := by decide +kernel
theorem dX11_counts_19 : decode cX11_counts 19 = .ok (.goto (-17), 3) := by decide +kernel
theorem dX11_counts_22 : decode cX11_counts 22 = .ok (.aload_n 0, 1) := by decide +kernel
theorem dX11_counts_23 : decode cX11_counts 23 = .ok (.invokevirtual 276, 3) := by decide +kernel
theorem dX11_counts_26 : decode cX11_counts 26 = .ok (.iconst 1, 1) := by decide +kernel
theorem dX11_counts_27 : decode cX11_counts 27 = .ok (.istore_n 1, 1) := by decide +kernel
theorem dX11_counts_28 : decode cX11_counts 28 = .ok (.iload_n 1, 1) := by decide +kernel
theorem dX11_counts_29 : decode cX11_counts 29 = .ok (.ifCond .eq 68, 3) := by decide +kernel
theorem dX11_counts_32 : decode cX11_counts 32 = .ok (.iconst 0, 1) := by decide +kernel
theorem dX11_counts_33 : decode cX11_counts 33 = .ok (.istore_n 2, 1) := by decide +kernel
theorem dX11_counts_34 : decode cX11_counts 34 = .ok (.iconst 0, 1) := by decide +kernel
theorem dX11_counts_35 : decode cX11_counts 35 = .ok (.istore_n 3, 1) := by decide +kernel
theorem dX11_counts_36 : decode cX11_counts 36 = .ok (.iload_n 3, 1) := by decide +kernel
theorem dX11_counts_37 : decode cX11_counts 37 = .ok (.bipush 10, 2) := by decide +kernel
theorem dX11_counts_39 : decode cX11_counts 39 = .ok (.if_icmp .ge 36, 3) := by decide +kernel
theorem dX11_counts_42 : decode cX11_counts 42 = .ok (.aload_n 0, 1) := by decide +kernel
theorem dX11_counts_43 : decode cX11_counts 43 = .ok (.iload_n 3, 1) := by decide +kernel
theorem dX11_counts_44 : decode cX11_counts 44 = .ok (.invokevirtual 263, 3) := by decide +kernel
theorem dX11_counts_47 : decode cX11_counts 47 = .ok (.ifCond .eq 22, 3) := by decide +kernel
theorem dX11_counts_50 : decode cX11_counts 50 = .ok (.aload_n 0, 1) := by decide +kernel
theorem dX11_counts_51 : decode cX11_counts 51 = .ok (.iload_n 3, 1) := by decide +kernel
theorem dX11_counts_52 : decode cX11_counts 52 = .ok (.aload_n 0, 1) := by decide +kernel
theorem dX11_counts_53 : decode cX11_counts 53 = .ok (.iload_n 3, 1) := by decide +kernel
theorem dX11_counts_54 : decode cX11_counts 54 = .ok (.invokevirtual 270, 3) := by decide +kernel
theorem dX11_counts_57 : decode cX11_counts 57 = .ok (.invokevirtual 273, 3) := by decide +kernel
theorem dX11_counts_60 : decode cX11_counts 60 = .ok (.ifCond .eq 9, 3) := by decide +kernel
theorem dX11_counts_63 : decode cX11_counts 63 = .ok (.iload_n 2, 1) := by decide +kernel
theorem dX11_counts_64 : decode cX11_counts 64 = .ok (.iconst 1, 1) := by decide +kernel
theorem dX11_counts_65 : decode cX11_counts 65 = .ok (.iload_n 3, 1) := by decide +kernel
theorem dX11_counts_66 : decode cX11_counts 66 = .ok (.ishl, 1) := by decide +kernel
theorem dX11_counts_67 : decode cX11_counts 67 = .ok (.ior, 1) := by decide +kernel
theorem dX11_counts_68 : decode cX11_counts 68 = .ok (.istore_n 2, 1) := by decide +kernel
theorem dX11_counts_69 : decode cX11_counts 69 = .ok (.iinc 3 1, 3) := by decide +kernel
theorem dX11_counts_72 : decode cX11_counts 72 = .ok (.goto (-36), 3) := by decide +kernel
theorem dX11_counts_75 : decode cX11_counts 75 = .ok (.aload_n 0, 1) := by decide +kernel
theorem dX11_counts_76 : decode cX11_counts 76 = .ok (.getfield 80, 3) := by decide +kernel
theorem dX11_counts_79 : decode cX11_counts 79 = .ok (.iload_n 2, 1) := by decide +kernel
theorem dX11_counts_80 : decode cX11_counts 80 = .ok (.aload_n 0, 1) := by decide +kernel
theorem dX11_counts_81 : decode cX11_counts 81 = .ok (.getfield 80, 3) := by decide +kernel
theorem dX11_counts_84 : decode cX11_counts 84 = .ok (.iload_n 2, 1) := by decide +kernel
theorem dX11_counts_85 : decode cX11_counts 85 = .ok (.iaload, 1) := by decide +kernel
theorem dX11_counts_86 : decode cX11_counts 86 = .ok (.iconst 1, 1) := by decide +kernel
theorem dX11_counts_87 : decode cX11_counts 87 = .ok (.iadd, 1) := by decide +kernel
theorem dX11_counts_88 : decode cX11_counts 88 = .ok (.iastore, 1) := by decide +kernel
theorem dX11_counts_89 : decode cX11_counts 89 = .ok (.aload_n 0, 1) := by decide +kernel
theorem dX11_counts_90 : decode cX11_counts 90 = .ok (.invokevirtual 279, 3) := by decide +kernel
theorem dX11_counts_93 : decode cX11_counts 93 = .ok (.istore_n 1, 1) := by decide +kernel
theorem dX11_counts_94 : decode cX11_counts 94 = .ok (.goto (-66), 3) := by decide +kernel
theorem dX11_counts_97 : decode cX11_counts 97 = .ok (.return_, 1) := by decide +kernel
theorem dX11_fitting_0 : decode cX11_fitting 0 = .ok (.iconst 0, 1) := by decide +kernel
theorem dX11_fitting_1 : decode cX11_fitting 1 = .ok (.istore_n 2, 1) := by decide +kernel
theorem dX11_fitting_2 : decode cX11_fitting 2 = .ok (.iconst 0, 1) := by decide +kernel
theorem dX11_fitting_3 : decode cX11_fitting 3 = .ok (.istore_n 3, 1) := by decide +kernel
theorem dX11_fitting_4 : decode cX11_fitting 4 = .ok (.iload_n 3, 1) := by decide +kernel
theorem dX11_fitting_5 : decode cX11_fitting 5 = .ok (.sipush 1024, 3) := by decide +kernel
theorem dX11_fitting_8 : decode cX11_fitting 8 = .ok (.if_icmp .ge 26, 3) := by decide +kernel
theorem dX11_fitting_11 : decode cX11_fitting 11 = .ok (.iload_n 1, 1) := by decide +kernel
theorem dX11_fitting_12 : decode cX11_fitting 12 = .ok (.iload_n 3, 1) := by decide +kernel
theorem dX11_fitting_13 : decode cX11_fitting 13 = .ok (.iconst (-1), 1) := by decide +kernel
theorem dX11_fitting_14 : decode cX11_fitting 14 = .ok (.ixor, 1) := by decide +kernel
theorem dX11_fitting_15 : decode cX11_fitting 15 = .ok (.iand, 1) := by decide +kernel
theorem dX11_fitting_16 : decode cX11_fitting 16 = .ok (.ifCond .ne 12, 3) := by decide +kernel
theorem dX11_fitting_19 : decode cX11_fitting 19 = .ok (.iload_n 2, 1) := by decide +kernel
theorem dX11_fitting_20 : decode cX11_fitting 20 = .ok (.aload_n 0, 1) := by decide +kernel
theorem dX11_fitting_21 : decode cX11_fitting 21 = .ok (.getfield 80, 3) := by decide +kernel
theorem dX11_fitting_24 : decode cX11_fitting 24 = .ok (.iload_n 3, 1) := by decide +kernel
theorem dX11_fitting_25 : decode cX11_fitting 25 = .ok (.iaload, 1) := by decide +kernel
theorem dX11_fitting_26 : decode cX11_fitting 26 = .ok (.iadd, 1) := by decide +kernel
theorem dX11_fitting_27 : decode cX11_fitting 27 = .ok (.istore_n 2, 1) := by decide +kernel
theorem dX11_fitting_28 : decode cX11_fitting 28 = .ok (.iinc 3 1, 3) := by decide +kernel
theorem dX11_fitting_31 : decode cX11_fitting 31 = .ok (.goto (-27), 3) := by decide +kernel
theorem dX11_fitting_34 : decode cX11_fitting 34 = .ok (.iload_n 2, 1) := by decide +kernel
theorem dX11_fitting_35 : decode cX11_fitting 35 = .ok (.ireturn, 1) := by decide +kernel
theorem dX11_findsRow_0 : decode cX11_findsRow 0 = .ok (.aload_n 0, 1) := by decide +kernel
theorem dX11_findsRow_1 : decode cX11_findsRow 1 = .ok (.invokevirtual 276, 3) := by decide +kernel
theorem dX11_findsRow_4 : decode cX11_findsRow 4 = .ok (.iconst 1, 1) := by decide +kernel
theorem dX11_findsRow_5 : decode cX11_findsRow 5 = .ok (.istore_n 2, 1) := by decide +kernel
theorem dX11_findsRow_6 : decode cX11_findsRow 6 = .ok (.iload_n 2, 1) := by decide +kernel
theorem dX11_findsRow_7 : decode cX11_findsRow 7 = .ok (.ifCond .eq 21, 3) := by decide +kernel
theorem dX11_findsRow_10 : decode cX11_findsRow 10 = .ok (.aload_n 0, 1) := by decide +kernel
theorem dX11_findsRow_11 : decode cX11_findsRow 11 = .ok (.iload_n 1, 1) := by decide +kernel
theorem dX11_findsRow_12 : decode cX11_findsRow 12 = .ok (.invokevirtual 282, 3) := by decide +kernel
theorem dX11_findsRow_15 : decode cX11_findsRow 15 = .ok (.ifCond .eq 5, 3) := by decide +kernel
theorem dX11_findsRow_18 : decode cX11_findsRow 18 = .ok (.iconst 1, 1) := by decide +kernel
theorem dX11_findsRow_19 : decode cX11_findsRow 19 = .ok (.ireturn, 1) := by decide +kernel
theorem dX11_findsRow_20 : decode cX11_findsRow 20 = .ok (.aload_n 0, 1) := by decide +kernel
theorem dX11_findsRow_21 : decode cX11_findsRow 21 = .ok (.invokevirtual 279, 3) := by decide +kernel
theorem dX11_findsRow_24 : decode cX11_findsRow 24 = .ok (.istore_n 2, 1) := by decide +kernel
theorem dX11_findsRow_25 : decode cX11_findsRow 25 = .ok (.goto (-19), 3) := by decide +kernel
theorem dX11_findsRow_28 : decode cX11_findsRow 28 = .ok (.iconst 0, 1) := by decide +kernel
theorem dX11_findsRow_29 : decode cX11_findsRow 29 = .ok (.ireturn, 1) := by decide +kernel
theorem dX11_fit_0 : decode cX11_fit 0 = .ok (.aload_n 0, 1) := by decide +kernel
theorem dX11_fit_1 : decode cX11_fit 1 = .ok (.iload_n 1, 1) := by decide +kernel
theorem dX11_fit_2 : decode cX11_fit 2 = .ok (.invokevirtual 285, 3) := by decide +kernel
theorem dX11_fit_5 : decode cX11_fit 5 = .ok (.ifCond .eq 23, 3) := by decide +kernel
theorem dX11_fit_8 : decode cX11_fit 8 = .ok (.iload_n 2, 1) := by decide +kernel
theorem dX11_fit_9 : decode cX11_fit 9 = .ok (.bipush 100, 2) := by decide +kernel
theorem dX11_fit_11 : decode cX11_fit 11 = .ok (.if_icmp .eq 19, 3) := by decide +kernel
theorem dX11_fit_14 : decode cX11_fit 14 = .ok (.iload_n 2, 1) := by decide +kernel
theorem dX11_fit_15 : decode cX11_fit 15 = .ok (.bipush 101, 2) := by decide +kernel
theorem dX11_fit_17 : decode cX11_fit 17 = .ok (.if_icmp .eq 13, 3) := by decide +kernel
theorem dX11_fit_20 : decode cX11_fit 20 = .ok (.aload_n 0, 1) := by decide +kernel
theorem dX11_fit_21 : decode cX11_fit 21 = .ok (.iload_n 2, 1) := by decide +kernel
theorem dX11_fit_22 : decode cX11_fit 22 = .ok (.invokevirtual 145, 3) := by decide +kernel
theorem dX11_fit_25 : decode cX11_fit 25 = .ok (.ifCond .ne 5, 3) := by decide +kernel
theorem dX11_fit_28 : decode cX11_fit 28 = .ok (.iconst (-1), 1) := by decide +kernel
theorem dX11_fit_29 : decode cX11_fit 29 = .ok (.ireturn, 1) := by decide +kernel
theorem dX11_fit_30 : decode cX11_fit 30 = .ok (.aload_n 0, 1) := by decide +kernel
theorem dX11_fit_31 : decode cX11_fit 31 = .ok (.invokevirtual 267, 3) := by decide +kernel
theorem dX11_fit_34 : decode cX11_fit 34 = .ok (.ldc_w 266, 3) := by decide +kernel
theorem dX11_fit_37 : decode cX11_fit 37 = .ok (.if_icmp .le 6, 3) := by decide +kernel
theorem dX11_fit_40 : decode cX11_fit 40 = .ok (.bipush (-3), 2) := by decide +kernel
theorem dX11_fit_42 : decode cX11_fit 42 = .ok (.ireturn, 1) := by decide +kernel
theorem dX11_fit_43 : decode cX11_fit 43 = .ok (.iload_n 2, 1) := by decide +kernel
theorem dX11_fit_44 : decode cX11_fit 44 = .ok (.bipush 100, 2) := by decide +kernel
theorem dX11_fit_46 : decode cX11_fit 46 = .ok (.if_icmp .ge 23, 3) := by decide +kernel
theorem dX11_fit_49 : decode cX11_fit 49 = .ok (.aload_n 0, 1) := by decide +kernel
theorem dX11_fit_50 : decode cX11_fit 50 = .ok (.iload_n 1, 1) := by decide +kernel
theorem dX11_fit_51 : decode cX11_fit 51 = .ok (.invokevirtual 288, 3) := by decide +kernel
theorem dX11_fit_54 : decode cX11_fit 54 = .ok (.ifCond .eq 12, 3) := by decide +kernel
theorem dX11_fit_57 : decode cX11_fit 57 = .ok (.aload_n 0, 1) := by decide +kernel
theorem dX11_fit_58 : decode cX11_fit 58 = .ok (.getfield 77, 3) := by decide +kernel
theorem dX11_fit_61 : decode cX11_fit 61 = .ok (.iload_n 2, 1) := by decide +kernel
theorem dX11_fit_62 : decode cX11_fit 62 = .ok (.iaload, 1) := by decide +kernel
theorem dX11_fit_63 : decode cX11_fit 63 = .ok (.goto 5, 3) := by decide +kernel
theorem dX11_fit_66 : decode cX11_fit 66 = .ok (.bipush (-2), 2) := by decide +kernel
theorem dX11_fit_68 : decode cX11_fit 68 = .ok (.ireturn, 1) := by decide +kernel
theorem dX11_fit_69 : decode cX11_fit 69 = .ok (.aload_n 0, 1) := by decide +kernel
theorem dX11_fit_70 : decode cX11_fit 70 = .ok (.invokevirtual 291, 3) := by decide +kernel
theorem dX11_fit_73 : decode cX11_fit 73 = .ok (.iload_n 2, 1) := by decide +kernel
theorem dX11_fit_74 : decode cX11_fit 74 = .ok (.bipush 100, 2) := by decide +kernel
theorem dX11_fit_76 : decode cX11_fit 76 = .ok (.if_icmp .ne 9, 3) := by decide +kernel
theorem dX11_fit_79 : decode cX11_fit 79 = .ok (.aload_n 0, 1) := by decide +kernel
theorem dX11_fit_80 : decode cX11_fit 80 = .ok (.iload_n 1, 1) := by decide +kernel
theorem dX11_fit_81 : decode cX11_fit 81 = .ok (.invokevirtual 294, 3) := by decide +kernel
theorem dX11_fit_84 : decode cX11_fit 84 = .ok (.ireturn, 1) := by decide +kernel
theorem dX11_fit_85 : decode cX11_fit 85 = .ok (.iconst 0, 1) := by decide +kernel
theorem dX11_fit_86 : decode cX11_fit 86 = .ok (.istore_n 3, 1) := by decide +kernel
theorem dX11_fit_87 : decode cX11_fit 87 = .ok (.iconst 0, 1) := by decide +kernel
theorem dX11_fit_88 : decode cX11_fit 88 = .ok (.istore 4, 2) := by decide +kernel
theorem dX11_fit_90 : decode cX11_fit 90 = .ok (.iload 4, 2) := by decide +kernel
theorem dX11_fit_92 : decode cX11_fit 92 = .ok (.sipush 1024, 3) := by decide +kernel
theorem dX11_fit_95 : decode cX11_fit 95 = .ok (.if_icmp .ge 32, 3) := by decide +kernel
theorem dX11_fit_98 : decode cX11_fit 98 = .ok (.iload_n 1, 1) := by decide +kernel
theorem dX11_fit_99 : decode cX11_fit 99 = .ok (.iload 4, 2) := by decide +kernel
theorem dX11_fit_101 : decode cX11_fit 101 = .ok (.iconst (-1), 1) := by decide +kernel
theorem dX11_fit_102 : decode cX11_fit 102 = .ok (.ixor, 1) := by decide +kernel
theorem dX11_fit_103 : decode cX11_fit 103 = .ok (.iand, 1) := by decide +kernel
theorem dX11_fit_104 : decode cX11_fit 104 = .ok (.invokestatic 256, 3) := by decide +kernel
theorem dX11_fit_107 : decode cX11_fit 107 = .ok (.iconst 1, 1) := by decide +kernel
theorem dX11_fit_108 : decode cX11_fit 108 = .ok (.if_icmp .gt 13, 3) := by decide +kernel
theorem dX11_fit_111 : decode cX11_fit 111 = .ok (.iload_n 3, 1) := by decide +kernel
theorem dX11_fit_112 : decode cX11_fit 112 = .ok (.aload_n 0, 1) := by decide +kernel
theorem dX11_fit_113 : decode cX11_fit 113 = .ok (.getfield 80, 3) := by decide +kernel
theorem dX11_fit_116 : decode cX11_fit 116 = .ok (.iload 4, 2) := by decide +kernel
theorem dX11_fit_118 : decode cX11_fit 118 = .ok (.iaload, 1) := by decide +kernel
theorem dX11_fit_119 : decode cX11_fit 119 = .ok (.iadd, 1) := by decide +kernel
theorem dX11_fit_120 : decode cX11_fit 120 = .ok (.istore_n 3, 1) := by decide +kernel
theorem dX11_fit_121 : decode cX11_fit 121 = .ok (.iinc 4 1, 3) := by decide +kernel
theorem dX11_fit_124 : decode cX11_fit 124 = .ok (.goto (-34), 3) := by decide +kernel
theorem dX11_fit_127 : decode cX11_fit 127 = .ok (.iload_n 3, 1) := by decide +kernel
theorem dX11_fit_128 : decode cX11_fit 128 = .ok (.ireturn, 1) := by decide +kernel
theorem dX11_laysAges_0 : decode cX11_laysAges 0 = .ok (.iconst 0, 1) := by decide +kernel
theorem dX11_laysAges_1 : decode cX11_laysAges 1 = .ok (.istore_n 3, 1) := by decide +kernel
theorem dX11_laysAges_2 : decode cX11_laysAges 2 = .ok (.iload_n 3, 1) := by decide +kernel
theorem dX11_laysAges_3 : decode cX11_laysAges 3 = .ok (.bipush 100, 2) := by decide +kernel
theorem dX11_laysAges_5 : decode cX11_laysAges 5 = .ok (.if_icmp .ge 16, 3) := by decide +kernel
theorem dX11_laysAges_8 : decode cX11_laysAges 8 = .ok (.aload_n 0, 1) := by decide +kernel
theorem dX11_laysAges_9 : decode cX11_laysAges 9 = .ok (.getfield 83, 3) := by decide +kernel
theorem dX11_laysAges_12 : decode cX11_laysAges 12 = .ok (.iload_n 3, 1) := by decide +kernel
theorem dX11_laysAges_13 : decode cX11_laysAges 13 = .ok (.iconst 0, 1) := by decide +kernel
theorem dX11_laysAges_14 : decode cX11_laysAges 14 = .ok (.iastore, 1) := by decide +kernel
theorem dX11_laysAges_15 : decode cX11_laysAges 15 = .ok (.iinc 3 1, 3) := by decide +kernel
theorem dX11_laysAges_18 : decode cX11_laysAges 18 = .ok (.goto (-16), 3) := by decide +kernel
theorem dX11_laysAges_21 : decode cX11_laysAges 21 = .ok (.aload_n 0, 1) := by decide +kernel
theorem dX11_laysAges_22 : decode cX11_laysAges 22 = .ok (.invokevirtual 276, 3) := by decide +kernel
theorem dX11_laysAges_25 : decode cX11_laysAges 25 = .ok (.iconst 1, 1) := by decide +kernel
theorem dX11_laysAges_26 : decode cX11_laysAges 26 = .ok (.istore_n 3, 1) := by decide +kernel
theorem dX11_laysAges_27 : decode cX11_laysAges 27 = .ok (.iload_n 3, 1) := by decide +kernel
theorem dX11_laysAges_28 : decode cX11_laysAges 28 = .ok (.ifCond .eq 43, 3) := by decide +kernel
theorem dX11_laysAges_31 : decode cX11_laysAges 31 = .ok (.aload_n 0, 1) := by decide +kernel
theorem dX11_laysAges_32 : decode cX11_laysAges 32 = .ok (.iload_n 1, 1) := by decide +kernel
theorem dX11_laysAges_33 : decode cX11_laysAges 33 = .ok (.invokevirtual 282, 3) := by decide +kernel
theorem dX11_laysAges_36 : decode cX11_laysAges 36 = .ok (.ifCond .eq 27, 3) := by decide +kernel
theorem dX11_laysAges_39 : decode cX11_laysAges 39 = .ok (.aload_n 0, 1) := by decide +kernel
theorem dX11_laysAges_40 : decode cX11_laysAges 40 = .ok (.getfield 83, 3) := by decide +kernel
theorem dX11_laysAges_43 : decode cX11_laysAges 43 = .ok (.aload_n 0, 1) := by decide +kernel
theorem dX11_laysAges_44 : decode cX11_laysAges 44 = .ok (.getfield 77, 3) := by decide +kernel
theorem dX11_laysAges_47 : decode cX11_laysAges 47 = .ok (.iload_n 2, 1) := by decide +kernel
theorem dX11_laysAges_48 : decode cX11_laysAges 48 = .ok (.iaload, 1) := by decide +kernel
theorem dX11_laysAges_49 : decode cX11_laysAges 49 = .ok (.aload_n 0, 1) := by decide +kernel
theorem dX11_laysAges_50 : decode cX11_laysAges 50 = .ok (.getfield 83, 3) := by decide +kernel
theorem dX11_laysAges_53 : decode cX11_laysAges 53 = .ok (.aload_n 0, 1) := by decide +kernel
theorem dX11_laysAges_54 : decode cX11_laysAges 54 = .ok (.getfield 77, 3) := by decide +kernel
theorem dX11_laysAges_57 : decode cX11_laysAges 57 = .ok (.iload_n 2, 1) := by decide +kernel
theorem dX11_laysAges_58 : decode cX11_laysAges 58 = .ok (.iaload, 1) := by decide +kernel
theorem dX11_laysAges_59 : decode cX11_laysAges 59 = .ok (.iaload, 1) := by decide +kernel
theorem dX11_laysAges_60 : decode cX11_laysAges 60 = .ok (.iconst 1, 1) := by decide +kernel
theorem dX11_laysAges_61 : decode cX11_laysAges 61 = .ok (.iadd, 1) := by decide +kernel
theorem dX11_laysAges_62 : decode cX11_laysAges 62 = .ok (.iastore, 1) := by decide +kernel
theorem dX11_laysAges_63 : decode cX11_laysAges 63 = .ok (.aload_n 0, 1) := by decide +kernel
theorem dX11_laysAges_64 : decode cX11_laysAges 64 = .ok (.invokevirtual 279, 3) := by decide +kernel
theorem dX11_laysAges_67 : decode cX11_laysAges 67 = .ok (.istore_n 3, 1) := by decide +kernel
theorem dX11_laysAges_68 : decode cX11_laysAges 68 = .ok (.goto (-41), 3) := by decide +kernel
theorem dX11_laysAges_71 : decode cX11_laysAges 71 = .ok (.return_, 1) := by decide +kernel
theorem dX11_ageIs_0 : decode cX11_ageIs 0 = .ok (.aload_n 0, 1) := by decide +kernel
theorem dX11_ageIs_1 : decode cX11_ageIs 1 = .ok (.iload_n 1, 1) := by decide +kernel
theorem dX11_ageIs_2 : decode cX11_ageIs 2 = .ok (.invokevirtual 285, 3) := by decide +kernel
theorem dX11_ageIs_5 : decode cX11_ageIs 5 = .ok (.ifCond .eq 20, 3) := by decide +kernel
theorem dX11_ageIs_8 : decode cX11_ageIs 8 = .ok (.aload_n 0, 1) := by decide +kernel
theorem dX11_ageIs_9 : decode cX11_ageIs 9 = .ok (.iload_n 2, 1) := by decide +kernel
theorem dX11_ageIs_10 : decode cX11_ageIs 10 = .ok (.invokevirtual 145, 3) := by decide +kernel
theorem dX11_ageIs_13 : decode cX11_ageIs 13 = .ok (.ifCond .eq 12, 3) := by decide +kernel
theorem dX11_ageIs_16 : decode cX11_ageIs 16 = .ok (.iload_n 3, 1) := by decide +kernel
theorem dX11_ageIs_17 : decode cX11_ageIs 17 = .ok (.iconst 0, 1) := by decide +kernel
theorem dX11_ageIs_18 : decode cX11_ageIs 18 = .ok (.iconst 2, 1) := by decide +kernel
theorem dX11_ageIs_19 : decode cX11_ageIs 19 = .ok (.invokestatic 137, 3) := by decide +kernel
theorem dX11_ageIs_22 : decode cX11_ageIs 22 = .ok (.ifCond .ne 5, 3) := by decide +kernel
theorem dX11_ageIs_25 : decode cX11_ageIs 25 = .ok (.iconst (-1), 1) := by decide +kernel
theorem dX11_ageIs_26 : decode cX11_ageIs 26 = .ok (.ireturn, 1) := by decide +kernel
theorem dX11_ageIs_27 : decode cX11_ageIs 27 = .ok (.aload_n 0, 1) := by decide +kernel
theorem dX11_ageIs_28 : decode cX11_ageIs 28 = .ok (.invokevirtual 267, 3) := by decide +kernel
theorem dX11_ageIs_31 : decode cX11_ageIs 31 = .ok (.ldc_w 266, 3) := by decide +kernel
theorem dX11_ageIs_34 : decode cX11_ageIs 34 = .ok (.if_icmp .le 6, 3) := by decide +kernel
theorem dX11_ageIs_37 : decode cX11_ageIs 37 = .ok (.bipush (-3), 2) := by decide +kernel
theorem dX11_ageIs_39 : decode cX11_ageIs 39 = .ok (.ireturn, 1) := by decide +kernel
theorem dX11_ageIs_40 : decode cX11_ageIs 40 = .ok (.aload_n 0, 1) := by decide +kernel
theorem dX11_ageIs_41 : decode cX11_ageIs 41 = .ok (.iload_n 1, 1) := by decide +kernel
theorem dX11_ageIs_42 : decode cX11_ageIs 42 = .ok (.iload_n 2, 1) := by decide +kernel
theorem dX11_ageIs_43 : decode cX11_ageIs 43 = .ok (.invokevirtual 297, 3) := by decide +kernel
theorem dX11_ageIs_46 : decode cX11_ageIs 46 = .ok (.bipush (-2), 2) := by decide +kernel
theorem dX11_ageIs_48 : decode cX11_ageIs 48 = .ok (.istore 4, 2) := by decide +kernel
theorem dX11_ageIs_50 : decode cX11_ageIs 50 = .ok (.bipush (-2), 2) := by decide +kernel
theorem dX11_ageIs_52 : decode cX11_ageIs 52 = .ok (.istore 5, 2) := by decide +kernel
theorem dX11_ageIs_54 : decode cX11_ageIs 54 = .ok (.iconst 0, 1) := by decide +kernel
theorem dX11_ageIs_55 : decode cX11_ageIs 55 = .ok (.istore 6, 2) := by decide +kernel
theorem dX11_ageIs_57 : decode cX11_ageIs 57 = .ok (.iconst 0, 1) := by decide +kernel
theorem dX11_ageIs_58 : decode cX11_ageIs 58 = .ok (.istore 7, 2) := by decide +kernel
theorem dX11_ageIs_60 : decode cX11_ageIs 60 = .ok (.iload 7, 2) := by decide +kernel
theorem dX11_ageIs_62 : decode cX11_ageIs 62 = .ok (.bipush 100, 2) := by decide +kernel
theorem dX11_ageIs_64 : decode cX11_ageIs 64 = .ok (.if_icmp .ge 48, 3) := by decide +kernel
theorem dX11_ageIs_67 : decode cX11_ageIs 67 = .ok (.aload_n 0, 1) := by decide +kernel
theorem dX11_ageIs_68 : decode cX11_ageIs 68 = .ok (.getfield 83, 3) := by decide +kernel
theorem dX11_ageIs_71 : decode cX11_ageIs 71 = .ok (.iload 7, 2) := by decide +kernel
theorem dX11_ageIs_73 : decode cX11_ageIs 73 = .ok (.iaload, 1) := by decide +kernel
theorem dX11_ageIs_74 : decode cX11_ageIs 74 = .ok (.ifCond .ne 6, 3) := by decide +kernel
theorem dX11_ageIs_77 : decode cX11_ageIs 77 = .ok (.goto 29, 3) := by decide +kernel
theorem dX11_ageIs_80 : decode cX11_ageIs 80 = .ok (.iload 4, 2) := by decide +kernel
theorem dX11_ageIs_82 : decode cX11_ageIs 82 = .ok (.bipush (-2), 2) := by decide +kernel
theorem dX11_ageIs_84 : decode cX11_ageIs 84 = .ok (.if_icmp .ne 8, 3) := by decide +kernel
theorem dX11_ageIs_87 : decode cX11_ageIs 87 = .ok (.iload 7, 2) := by decide +kernel
theorem dX11_ageIs_89 : decode cX11_ageIs 89 = .ok (.goto 5, 3) := by decide +kernel
theorem dX11_ageIs_92 : decode cX11_ageIs 92 = .ok (.iload 4, 2) := by decide +kernel
theorem dX11_ageIs_94 : decode cX11_ageIs 94 = .ok (.istore 4, 2) := by decide +kernel
theorem dX11_ageIs_96 : decode cX11_ageIs 96 = .ok (.iload 7, 2) := by decide +kernel
theorem dX11_ageIs_98 : decode cX11_ageIs 98 = .ok (.istore 5, 2) := by decide +kernel
theorem dX11_ageIs_100 : decode cX11_ageIs 100 = .ok (.iload 6, 2) := by decide +kernel
theorem dX11_ageIs_102 : decode cX11_ageIs 102 = .ok (.iconst 1, 1) := by decide +kernel
theorem dX11_ageIs_103 : decode cX11_ageIs 103 = .ok (.iadd, 1) := by decide +kernel
theorem dX11_ageIs_104 : decode cX11_ageIs 104 = .ok (.istore 6, 2) := by decide +kernel
theorem dX11_ageIs_106 : decode cX11_ageIs 106 = .ok (.iinc 7 1, 3) := by decide +kernel
theorem dX11_ageIs_109 : decode cX11_ageIs 109 = .ok (.goto (-49), 3) := by decide +kernel
theorem dX11_ageIs_112 : decode cX11_ageIs 112 = .ok (.iload_n 3, 1) := by decide +kernel
theorem dX11_ageIs_113 : decode cX11_ageIs 113 = .ok (.ifCond .ne 8, 3) := by decide +kernel
theorem dX11_ageIs_116 : decode cX11_ageIs 116 = .ok (.iload 4, 2) := by decide +kernel
theorem dX11_ageIs_118 : decode cX11_ageIs 118 = .ok (.goto 15, 3) := by decide +kernel
theorem dX11_ageIs_121 : decode cX11_ageIs 121 = .ok (.iload_n 3, 1) := by decide +kernel
theorem dX11_ageIs_122 : decode cX11_ageIs 122 = .ok (.iconst 1, 1) := by decide +kernel
theorem dX11_ageIs_123 : decode cX11_ageIs 123 = .ok (.if_icmp .ne 8, 3) := by decide +kernel
theorem dX11_ageIs_126 : decode cX11_ageIs 126 = .ok (.iload 5, 2) := by decide +kernel
theorem dX11_ageIs_128 : decode cX11_ageIs 128 = .ok (.goto 5, 3) := by decide +kernel
theorem dX11_ageIs_131 : decode cX11_ageIs 131 = .ok (.iload 6, 2) := by decide +kernel
theorem dX11_ageIs_133 : decode cX11_ageIs 133 = .ok (.ireturn, 1) := by decide +kernel
theorem dX11_aged_0 : decode cX11_aged 0 = .ok (.aload_n 0, 1) := by decide +kernel
theorem dX11_aged_1 : decode cX11_aged 1 = .ok (.iload_n 1, 1) := by decide +kernel
theorem dX11_aged_2 : decode cX11_aged 2 = .ok (.invokevirtual 285, 3) := by decide +kernel
theorem dX11_aged_5 : decode cX11_aged 5 = .ok (.ifCond .eq 21, 3) := by decide +kernel
theorem dX11_aged_8 : decode cX11_aged 8 = .ok (.aload_n 0, 1) := by decide +kernel
theorem dX11_aged_9 : decode cX11_aged 9 = .ok (.iload_n 2, 1) := by decide +kernel
theorem dX11_aged_10 : decode cX11_aged 10 = .ok (.invokevirtual 145, 3) := by decide +kernel
theorem dX11_aged_13 : decode cX11_aged 13 = .ok (.ifCond .eq 13, 3) := by decide +kernel
theorem dX11_aged_16 : decode cX11_aged 16 = .ok (.iload_n 3, 1) := by decide +kernel
theorem dX11_aged_17 : decode cX11_aged 17 = .ok (.iconst 0, 1) := by decide +kernel
theorem dX11_aged_18 : decode cX11_aged 18 = .ok (.bipush 99, 2) := by decide +kernel
theorem dX11_aged_20 : decode cX11_aged 20 = .ok (.invokestatic 137, 3) := by decide +kernel
theorem dX11_aged_23 : decode cX11_aged 23 = .ok (.ifCond .ne 5, 3) := by decide +kernel
theorem dX11_aged_26 : decode cX11_aged 26 = .ok (.iconst (-1), 1) := by decide +kernel
theorem dX11_aged_27 : decode cX11_aged 27 = .ok (.ireturn, 1) := by decide +kernel
theorem dX11_aged_28 : decode cX11_aged 28 = .ok (.aload_n 0, 1) := by decide +kernel
theorem dX11_aged_29 : decode cX11_aged 29 = .ok (.invokevirtual 267, 3) := by decide +kernel
theorem dX11_aged_32 : decode cX11_aged 32 = .ok (.ldc_w 266, 3) := by decide +kernel
theorem dX11_aged_35 : decode cX11_aged 35 = .ok (.if_icmp .le 6, 3) := by decide +kernel
theorem dX11_aged_38 : decode cX11_aged 38 = .ok (.bipush (-3), 2) := by decide +kernel
theorem dX11_aged_40 : decode cX11_aged 40 = .ok (.ireturn, 1) := by decide +kernel
theorem dX11_aged_41 : decode cX11_aged 41 = .ok (.aload_n 0, 1) := by decide +kernel
theorem dX11_aged_42 : decode cX11_aged 42 = .ok (.iload_n 1, 1) := by decide +kernel
theorem dX11_aged_43 : decode cX11_aged 43 = .ok (.iload_n 2, 1) := by decide +kernel
theorem dX11_aged_44 : decode cX11_aged 44 = .ok (.invokevirtual 297, 3) := by decide +kernel
theorem dX11_aged_47 : decode cX11_aged 47 = .ok (.aload_n 0, 1) := by decide +kernel
theorem dX11_aged_48 : decode cX11_aged 48 = .ok (.getfield 83, 3) := by decide +kernel
theorem dX11_aged_51 : decode cX11_aged 51 = .ok (.iload_n 3, 1) := by decide +kernel
theorem dX11_aged_52 : decode cX11_aged 52 = .ok (.iaload, 1) := by decide +kernel
theorem dX11_aged_53 : decode cX11_aged 53 = .ok (.ireturn, 1) := by decide +kernel
theorem dX11_middle_0 : decode cX11_middle 0 = .ok (.aload_n 0, 1) := by decide +kernel
theorem dX11_middle_1 : decode cX11_middle 1 = .ok (.iload_n 1, 1) := by decide +kernel
theorem dX11_middle_2 : decode cX11_middle 2 = .ok (.invokevirtual 285, 3) := by decide +kernel
theorem dX11_middle_5 : decode cX11_middle 5 = .ok (.ifCond .eq 11, 3) := by decide +kernel
theorem dX11_middle_8 : decode cX11_middle 8 = .ok (.aload_n 0, 1) := by decide +kernel
theorem dX11_middle_9 : decode cX11_middle 9 = .ok (.iload_n 2, 1) := by decide +kernel
theorem dX11_middle_10 : decode cX11_middle 10 = .ok (.invokevirtual 145, 3) := by decide +kernel
theorem dX11_middle_13 : decode cX11_middle 13 = .ok (.ifCond .ne 5, 3) := by decide +kernel
theorem dX11_middle_16 : decode cX11_middle 16 = .ok (.iconst (-1), 1) := by decide +kernel
theorem dX11_middle_17 : decode cX11_middle 17 = .ok (.ireturn, 1) := by decide +kernel
theorem dX11_middle_18 : decode cX11_middle 18 = .ok (.aload_n 0, 1) := by decide +kernel
theorem dX11_middle_19 : decode cX11_middle 19 = .ok (.invokevirtual 267, 3) := by decide +kernel
theorem dX11_middle_22 : decode cX11_middle 22 = .ok (.ldc_w 266, 3) := by decide +kernel
theorem dX11_middle_25 : decode cX11_middle 25 = .ok (.if_icmp .le 6, 3) := by decide +kernel
theorem dX11_middle_28 : decode cX11_middle 28 = .ok (.bipush (-3), 2) := by decide +kernel
theorem dX11_middle_30 : decode cX11_middle 30 = .ok (.ireturn, 1) := by decide +kernel
theorem dX11_middle_31 : decode cX11_middle 31 = .ok (.aload_n 0, 1) := by decide +kernel
theorem dX11_middle_32 : decode cX11_middle 32 = .ok (.iload_n 1, 1) := by decide +kernel
theorem dX11_middle_33 : decode cX11_middle 33 = .ok (.iload_n 2, 1) := by decide +kernel
theorem dX11_middle_34 : decode cX11_middle 34 = .ok (.invokevirtual 297, 3) := by decide +kernel
theorem dX11_middle_37 : decode cX11_middle 37 = .ok (.iconst 0, 1) := by decide +kernel
theorem dX11_middle_38 : decode cX11_middle 38 = .ok (.istore_n 3, 1) := by decide +kernel
theorem dX11_middle_39 : decode cX11_middle 39 = .ok (.iconst 0, 1) := by decide +kernel
theorem dX11_middle_40 : decode cX11_middle 40 = .ok (.istore 4, 2) := by decide +kernel
theorem dX11_middle_42 : decode cX11_middle 42 = .ok (.iload 4, 2) := by decide +kernel
theorem dX11_middle_44 : decode cX11_middle 44 = .ok (.bipush 100, 2) := by decide +kernel
theorem dX11_middle_46 : decode cX11_middle 46 = .ok (.if_icmp .ge 19, 3) := by decide +kernel
theorem dX11_middle_49 : decode cX11_middle 49 = .ok (.iload_n 3, 1) := by decide +kernel
theorem dX11_middle_50 : decode cX11_middle 50 = .ok (.aload_n 0, 1) := by decide +kernel
theorem dX11_middle_51 : decode cX11_middle 51 = .ok (.getfield 83, 3) := by decide +kernel
theorem dX11_middle_54 : decode cX11_middle 54 = .ok (.iload 4, 2) := by decide +kernel
theorem dX11_middle_56 : decode cX11_middle 56 = .ok (.iaload, 1) := by decide +kernel
theorem dX11_middle_57 : decode cX11_middle 57 = .ok (.iadd, 1) := by decide +kernel
theorem dX11_middle_58 : decode cX11_middle 58 = .ok (.istore_n 3, 1) := by decide +kernel
theorem dX11_middle_59 : decode cX11_middle 59 = .ok (.iinc 4 1, 3) := by decide +kernel
theorem dX11_middle_62 : decode cX11_middle 62 = .ok (.goto (-20), 3) := by decide +kernel
theorem dX11_middle_65 : decode cX11_middle 65 = .ok (.iload_n 3, 1) := by decide +kernel
theorem dX11_middle_66 : decode cX11_middle 66 = .ok (.ifCond .ne 6, 3) := by decide +kernel
theorem dX11_middle_69 : decode cX11_middle 69 = .ok (.bipush (-2), 2) := by decide +kernel
theorem dX11_middle_71 : decode cX11_middle 71 = .ok (.ireturn, 1) := by decide +kernel
theorem dX11_middle_72 : decode cX11_middle 72 = .ok (.iconst 0, 1) := by decide +kernel
theorem dX11_middle_73 : decode cX11_middle 73 = .ok (.istore 4, 2) := by decide +kernel
theorem dX11_middle_75 : decode cX11_middle 75 = .ok (.aload_n 0, 1) := by decide +kernel
theorem dX11_middle_76 : decode cX11_middle 76 = .ok (.getfield 83, 3) := by decide +kernel
theorem dX11_middle_79 : decode cX11_middle 79 = .ok (.iconst 0, 1) := by decide +kernel
theorem dX11_middle_80 : decode cX11_middle 80 = .ok (.iaload, 1) := by decide +kernel
theorem dX11_middle_81 : decode cX11_middle 81 = .ok (.istore 5, 2) := by decide +kernel
theorem dX11_middle_83 : decode cX11_middle 83 = .ok (.iconst 2, 1) := by decide +kernel
theorem dX11_middle_84 : decode cX11_middle 84 = .ok (.iload 5, 2) := by decide +kernel
theorem dX11_middle_86 : decode cX11_middle 86 = .ok (.imul, 1) := by decide +kernel
theorem dX11_middle_87 : decode cX11_middle 87 = .ok (.iload_n 3, 1) := by decide +kernel
theorem dX11_middle_88 : decode cX11_middle 88 = .ok (.if_icmp .ge 24, 3) := by decide +kernel
theorem dX11_middle_91 : decode cX11_middle 91 = .ok (.iload 4, 2) := by decide +kernel
theorem dX11_middle_93 : decode cX11_middle 93 = .ok (.iconst 1, 1) := by decide +kernel
theorem dX11_middle_94 : decode cX11_middle 94 = .ok (.iadd, 1) := by decide +kernel
theorem dX11_middle_95 : decode cX11_middle 95 = .ok (.istore 4, 2) := by decide +kernel
theorem dX11_middle_97 : decode cX11_middle 97 = .ok (.iload 5, 2) := by decide +kernel
theorem dX11_middle_99 : decode cX11_middle 99 = .ok (.aload_n 0, 1) := by decide +kernel
theorem dX11_middle_100 : decode cX11_middle 100 = .ok (.getfield 83, 3) := by decide +kernel
theorem dX11_middle_103 : decode cX11_middle 103 = .ok (.iload 4, 2) := by decide +kernel
theorem dX11_middle_105 : decode cX11_middle 105 = .ok (.iaload, 1) := by decide +kernel
theorem dX11_middle_106 : decode cX11_middle 106 = .ok (.iadd, 1) := by decide +kernel
theorem dX11_middle_107 : decode cX11_middle 107 = .ok (.istore 5, 2) := by decide +kernel
theorem dX11_middle_109 : decode cX11_middle 109 = .ok (.goto (-26), 3) := by decide +kernel
theorem dX11_middle_112 : decode cX11_middle 112 = .ok (.iload 4, 2) := by decide +kernel
theorem dX11_middle_114 : decode cX11_middle 114 = .ok (.ireturn, 1) := by decide +kernel
theorem dX11_apart_0 : decode cX11_apart 0 = .ok (.aload_n 0, 1) := by decide +kernel
theorem dX11_apart_1 : decode cX11_apart 1 = .ok (.iload_n 1, 1) := by decide +kernel
theorem dX11_apart_2 : decode cX11_apart 2 = .ok (.invokevirtual 285, 3) := by decide +kernel
theorem dX11_apart_5 : decode cX11_apart 5 = .ok (.ifCond .eq 22, 3) := by decide +kernel
theorem dX11_apart_8 : decode cX11_apart 8 = .ok (.aload_n 0, 1) := by decide +kernel
theorem dX11_apart_9 : decode cX11_apart 9 = .ok (.iload_n 2, 1) := by decide +kernel
theorem dX11_apart_10 : decode cX11_apart 10 = .ok (.iload_n 3, 1) := by decide +kernel
theorem dX11_apart_11 : decode cX11_apart 11 = .ok (.invokevirtual 300, 3) := by decide +kernel
theorem dX11_apart_14 : decode cX11_apart 14 = .ok (.ifCond .eq 13, 3) := by decide +kernel
theorem dX11_apart_17 : decode cX11_apart 17 = .ok (.iload 4, 2) := by decide +kernel
theorem dX11_apart_19 : decode cX11_apart 19 = .ok (.iconst 0, 1) := by decide +kernel
theorem dX11_apart_20 : decode cX11_apart 20 = .ok (.iconst 2, 1) := by decide +kernel
theorem dX11_apart_21 : decode cX11_apart 21 = .ok (.invokestatic 137, 3) := by decide +kernel
theorem dX11_apart_24 : decode cX11_apart 24 = .ok (.ifCond .ne 7, 3) := by decide +kernel
theorem dX11_apart_27 : decode cX11_apart 27 = .ok (.sipush (-400), 3) := by decide +kernel
theorem dX11_apart_30 : decode cX11_apart 30 = .ok (.ireturn, 1) := by decide +kernel
theorem dX11_apart_31 : decode cX11_apart 31 = .ok (.aload_n 0, 1) := by decide +kernel
theorem dX11_apart_32 : decode cX11_apart 32 = .ok (.invokevirtual 267, 3) := by decide +kernel
theorem dX11_apart_35 : decode cX11_apart 35 = .ok (.ldc_w 266, 3) := by decide +kernel
theorem dX11_apart_38 : decode cX11_apart 38 = .ok (.if_icmp .le 7, 3) := by decide +kernel
theorem dX11_apart_41 : decode cX11_apart 41 = .ok (.sipush (-300), 3) := by decide +kernel
theorem dX11_apart_44 : decode cX11_apart 44 = .ok (.ireturn, 1) := by decide +kernel
theorem dX11_apart_45 : decode cX11_apart 45 = .ok (.ldc_w 303, 3) := by decide +kernel
theorem dX11_apart_48 : decode cX11_apart 48 = .ok (.istore 5, 2) := by decide +kernel
theorem dX11_apart_50 : decode cX11_apart 50 = .ok (.ldc_w 304, 3) := by decide +kernel
theorem dX11_apart_53 : decode cX11_apart 53 = .ok (.istore 6, 2) := by decide +kernel
theorem dX11_apart_55 : decode cX11_apart 55 = .ok (.iconst 0, 1) := by decide +kernel
theorem dX11_apart_56 : decode cX11_apart 56 = .ok (.istore 7, 2) := by decide +kernel
theorem dX11_apart_58 : decode cX11_apart 58 = .ok (.aload_n 0, 1) := by decide +kernel
theorem dX11_apart_59 : decode cX11_apart 59 = .ok (.invokevirtual 276, 3) := by decide +kernel
theorem dX11_apart_62 : decode cX11_apart 62 = .ok (.iconst 1, 1) := by decide +kernel
theorem dX11_apart_63 : decode cX11_apart 63 = .ok (.istore 8, 2) := by decide +kernel
theorem dX11_apart_65 : decode cX11_apart 65 = .ok (.iload 8, 2) := by decide +kernel
theorem dX11_apart_67 : decode cX11_apart 67 = .ok (.ifCond .eq 68, 3) := by decide +kernel
theorem dX11_apart_70 : decode cX11_apart 70 = .ok (.aload_n 0, 1) := by decide +kernel
theorem dX11_apart_71 : decode cX11_apart 71 = .ok (.iload_n 1, 1) := by decide +kernel
theorem dX11_apart_72 : decode cX11_apart 72 = .ok (.invokevirtual 282, 3) := by decide +kernel
theorem dX11_apart_75 : decode cX11_apart 75 = .ok (.ifCond .eq 51, 3) := by decide +kernel
theorem dX11_apart_78 : decode cX11_apart 78 = .ok (.aload_n 0, 1) := by decide +kernel
theorem dX11_apart_79 : decode cX11_apart 79 = .ok (.getfield 77, 3) := by decide +kernel
theorem dX11_apart_82 : decode cX11_apart 82 = .ok (.iload_n 2, 1) := by decide +kernel
theorem dX11_apart_83 : decode cX11_apart 83 = .ok (.iaload, 1) := by decide +kernel
theorem dX11_apart_84 : decode cX11_apart 84 = .ok (.aload_n 0, 1) := by decide +kernel
theorem dX11_apart_85 : decode cX11_apart 85 = .ok (.getfield 77, 3) := by decide +kernel
theorem dX11_apart_88 : decode cX11_apart 88 = .ok (.iload_n 3, 1) := by decide +kernel
theorem dX11_apart_89 : decode cX11_apart 89 = .ok (.iaload, 1) := by decide +kernel
theorem dX11_apart_90 : decode cX11_apart 90 = .ok (.isub, 1) := by decide +kernel
theorem dX11_apart_91 : decode cX11_apart 91 = .ok (.istore 9, 2) := by decide +kernel
theorem dX11_apart_93 : decode cX11_apart 93 = .ok (.iload 5, 2) := by decide +kernel
theorem dX11_apart_95 : decode cX11_apart 95 = .ok (.iload 9, 2) := by decide +kernel
theorem dX11_apart_97 : decode cX11_apart 97 = .ok (.invokestatic 305, 3) := by decide +kernel
theorem dX11_apart_100 : decode cX11_apart 100 = .ok (.istore 5, 2) := by decide +kernel
theorem dX11_apart_102 : decode cX11_apart 102 = .ok (.iload 6, 2) := by decide +kernel
theorem dX11_apart_104 : decode cX11_apart 104 = .ok (.iload 9, 2) := by decide +kernel
theorem dX11_apart_106 : decode cX11_apart 106 = .ok (.invokestatic 209, 3) := by decide +kernel
theorem dX11_apart_109 : decode cX11_apart 109 = .ok (.istore 6, 2) := by decide +kernel
theorem dX11_apart_111 : decode cX11_apart 111 = .ok (.iload 7, 2) := by decide +kernel
theorem dX11_apart_113 : decode cX11_apart 113 = .ok (.iload 9, 2) := by decide +kernel
theorem dX11_apart_115 : decode cX11_apart 115 = .ok (.ifCond .ne 7, 3) := by decide +kernel
theorem dX11_apart_118 : decode cX11_apart 118 = .ok (.iconst 1, 1) := by decide +kernel
theorem dX11_apart_119 : decode cX11_apart 119 = .ok (.goto 4, 3) := by decide +kernel
theorem dX11_apart_122 : decode cX11_apart 122 = .ok (.iconst 0, 1) := by decide +kernel
theorem dX11_apart_123 : decode cX11_apart 123 = .ok (.iadd, 1) := by decide +kernel
theorem dX11_apart_124 : decode cX11_apart 124 = .ok (.istore 7, 2) := by decide +kernel
theorem dX11_apart_126 : decode cX11_apart 126 = .ok (.aload_n 0, 1) := by decide +kernel
theorem dX11_apart_127 : decode cX11_apart 127 = .ok (.invokevirtual 279, 3) := by decide +kernel
theorem dX11_apart_130 : decode cX11_apart 130 = .ok (.istore 8, 2) := by decide +kernel
theorem dX11_apart_132 : decode cX11_apart 132 = .ok (.goto (-67), 3) := by decide +kernel
theorem dX11_apart_135 : decode cX11_apart 135 = .ok (.iload 4, 2) := by decide +kernel
theorem dX11_apart_137 : decode cX11_apart 137 = .ok (.iconst 2, 1) := by decide +kernel
theorem dX11_apart_138 : decode cX11_apart 138 = .ok (.if_icmp .ne 6, 3) := by decide +kernel
theorem dX11_apart_141 : decode cX11_apart 141 = .ok (.iload 7, 2) := by decide +kernel
theorem dX11_apart_143 : decode cX11_apart 143 = .ok (.ireturn, 1) := by decide +kernel
theorem dX11_apart_144 : decode cX11_apart 144 = .ok (.iload 5, 2) := by decide +kernel
theorem dX11_apart_146 : decode cX11_apart 146 = .ok (.ldc_w 303, 3) := by decide +kernel
theorem dX11_apart_149 : decode cX11_apart 149 = .ok (.if_icmp .ne 9, 3) := by decide +kernel
theorem dX11_apart_152 : decode cX11_apart 152 = .ok (.sipush (-200), 3) := by decide +kernel
theorem dX11_apart_155 : decode cX11_apart 155 = .ok (.goto 15, 3) := by decide +kernel
theorem dX11_apart_158 : decode cX11_apart 158 = .ok (.iload 4, 2) := by decide +kernel
theorem dX11_apart_160 : decode cX11_apart 160 = .ok (.ifCond .ne 8, 3) := by decide +kernel
theorem dX11_apart_163 : decode cX11_apart 163 = .ok (.iload 5, 2) := by decide +kernel
theorem dX11_apart_165 : decode cX11_apart 165 = .ok (.goto 5, 3) := by decide +kernel
theorem dX11_apart_168 : decode cX11_apart 168 = .ok (.iload 6, 2) := by decide +kernel
theorem dX11_apart_170 : decode cX11_apart 170 = .ok (.ireturn, 1) := by decide +kernel
theorem dX11_follows_0 : decode cX11_follows 0 = .ok (.aload_n 0, 1) := by decide +kernel
theorem dX11_follows_1 : decode cX11_follows 1 = .ok (.iload_n 1, 1) := by decide +kernel
theorem dX11_follows_2 : decode cX11_follows 2 = .ok (.invokevirtual 285, 3) := by decide +kernel
theorem dX11_follows_5 : decode cX11_follows 5 = .ok (.ifCond .eq 12, 3) := by decide +kernel
theorem dX11_follows_8 : decode cX11_follows 8 = .ok (.iload_n 2, 1) := by decide +kernel
theorem dX11_follows_9 : decode cX11_follows 9 = .ok (.iconst 0, 1) := by decide +kernel
theorem dX11_follows_10 : decode cX11_follows 10 = .ok (.iconst 1, 1) := by decide +kernel
theorem dX11_follows_11 : decode cX11_follows 11 = .ok (.invokestatic 137, 3) := by decide +kernel
theorem dX11_follows_14 : decode cX11_follows 14 = .ok (.ifCond .ne 5, 3) := by decide +kernel
theorem dX11_follows_17 : decode cX11_follows 17 = .ok (.iconst (-1), 1) := by decide +kernel
theorem dX11_follows_18 : decode cX11_follows 18 = .ok (.ireturn, 1) := by decide +kernel
theorem dX11_follows_19 : decode cX11_follows 19 = .ok (.aload_n 0, 1) := by decide +kernel
theorem dX11_follows_20 : decode cX11_follows 20 = .ok (.invokevirtual 267, 3) := by decide +kernel
theorem dX11_follows_23 : decode cX11_follows 23 = .ok (.ldc_w 266, 3) := by decide +kernel
theorem dX11_follows_26 : decode cX11_follows 26 = .ok (.if_icmp .le 6, 3) := by decide +kernel
theorem dX11_follows_29 : decode cX11_follows 29 = .ok (.bipush (-3), 2) := by decide +kernel
theorem dX11_follows_31 : decode cX11_follows 31 = .ok (.ireturn, 1) := by decide +kernel
theorem dX11_follows_32 : decode cX11_follows 32 = .ok (.aload_n 0, 1) := by decide +kernel
theorem dX11_follows_33 : decode cX11_follows 33 = .ok (.invokevirtual 291, 3) := by decide +kernel
theorem dX11_follows_36 : decode cX11_follows 36 = .ok (.aload_n 0, 1) := by decide +kernel
theorem dX11_follows_37 : decode cX11_follows 37 = .ok (.iload_n 1, 1) := by decide +kernel
theorem dX11_follows_38 : decode cX11_follows 38 = .ok (.invokevirtual 294, 3) := by decide +kernel
theorem dX11_follows_41 : decode cX11_follows 41 = .ok (.istore_n 3, 1) := by decide +kernel
theorem dX11_follows_42 : decode cX11_follows 42 = .ok (.iconst 0, 1) := by decide +kernel
theorem dX11_follows_43 : decode cX11_follows 43 = .ok (.istore 4, 2) := by decide +kernel
theorem dX11_follows_45 : decode cX11_follows 45 = .ok (.iconst 0, 1) := by decide +kernel
theorem dX11_follows_46 : decode cX11_follows 46 = .ok (.istore 5, 2) := by decide +kernel
theorem dX11_follows_48 : decode cX11_follows 48 = .ok (.iload 5, 2) := by decide +kernel
theorem dX11_follows_50 : decode cX11_follows 50 = .ok (.bipush 10, 2) := by decide +kernel
theorem dX11_follows_52 : decode cX11_follows 52 = .ok (.if_icmp .ge 56, 3) := by decide +kernel
theorem dX11_follows_55 : decode cX11_follows 55 = .ok (.aload_n 0, 1) := by decide +kernel
theorem dX11_follows_56 : decode cX11_follows 56 = .ok (.iload 5, 2) := by decide +kernel
theorem dX11_follows_58 : decode cX11_follows 58 = .ok (.invokevirtual 263, 3) := by decide +kernel
theorem dX11_follows_61 : decode cX11_follows 61 = .ok (.ifCond .ne 6, 3) := by decide +kernel
theorem dX11_follows_64 : decode cX11_follows 64 = .ok (.goto 38, 3) := by decide +kernel
theorem dX11_follows_67 : decode cX11_follows 67 = .ok (.aload_n 0, 1) := by decide +kernel
theorem dX11_follows_68 : decode cX11_follows 68 = .ok (.iload_n 1, 1) := by decide +kernel
theorem dX11_follows_69 : decode cX11_follows 69 = .ok (.iconst 1, 1) := by decide +kernel
theorem dX11_follows_70 : decode cX11_follows 70 = .ok (.iload 5, 2) := by decide +kernel
theorem dX11_follows_72 : decode cX11_follows 72 = .ok (.ishl, 1) := by decide +kernel
theorem dX11_follows_73 : decode cX11_follows 73 = .ok (.ior, 1) := by decide +kernel
theorem dX11_follows_74 : decode cX11_follows 74 = .ok (.invokevirtual 294, 3) := by decide +kernel
theorem dX11_follows_77 : decode cX11_follows 77 = .ok (.istore 6, 2) := by decide +kernel
theorem dX11_follows_79 : decode cX11_follows 79 = .ok (.iload 6, 2) := by decide +kernel
theorem dX11_follows_81 : decode cX11_follows 81 = .ok (.iload_n 2, 1) := by decide +kernel
theorem dX11_follows_82 : decode cX11_follows 82 = .ok (.ifCond .ne 7, 3) := by decide +kernel
theorem dX11_follows_85 : decode cX11_follows 85 = .ok (.iload_n 3, 1) := by decide +kernel
theorem dX11_follows_86 : decode cX11_follows 86 = .ok (.goto 4, 3) := by decide +kernel
theorem dX11_follows_89 : decode cX11_follows 89 = .ok (.iconst 0, 1) := by decide +kernel
theorem dX11_follows_90 : decode cX11_follows 90 = .ok (.if_icmp .ne 12, 3) := by decide +kernel
theorem dX11_follows_93 : decode cX11_follows 93 = .ok (.iload 4, 2) := by decide +kernel
theorem dX11_follows_95 : decode cX11_follows 95 = .ok (.iconst 1, 1) := by decide +kernel
theorem dX11_follows_96 : decode cX11_follows 96 = .ok (.iload 5, 2) := by decide +kernel
theorem dX11_follows_98 : decode cX11_follows 98 = .ok (.ishl, 1) := by decide +kernel
theorem dX11_follows_99 : decode cX11_follows 99 = .ok (.ior, 1) := by decide +kernel
theorem dX11_follows_100 : decode cX11_follows 100 = .ok (.istore 4, 2) := by decide +kernel
theorem dX11_follows_102 : decode cX11_follows 102 = .ok (.iinc 5 1, 3) := by decide +kernel
theorem dX11_follows_105 : decode cX11_follows 105 = .ok (.goto (-57), 3) := by decide +kernel
theorem dX11_follows_108 : decode cX11_follows 108 = .ok (.iload 4, 2) := by decide +kernel
theorem dX11_follows_110 : decode cX11_follows 110 = .ok (.ireturn, 1) := by decide +kernel
theorem dX11_clash_0 : decode cX11_clash 0 = .ok (.aload_n 0, 1) := by decide +kernel
theorem dX11_clash_1 : decode cX11_clash 1 = .ok (.iload_n 1, 1) := by decide +kernel
theorem dX11_clash_2 : decode cX11_clash 2 = .ok (.invokevirtual 285, 3) := by decide +kernel
theorem dX11_clash_5 : decode cX11_clash 5 = .ok (.ifCond .eq 12, 3) := by decide +kernel
theorem dX11_clash_8 : decode cX11_clash 8 = .ok (.iload_n 2, 1) := by decide +kernel
theorem dX11_clash_9 : decode cX11_clash 9 = .ok (.iconst 0, 1) := by decide +kernel
theorem dX11_clash_10 : decode cX11_clash 10 = .ok (.iconst 1, 1) := by decide +kernel
theorem dX11_clash_11 : decode cX11_clash 11 = .ok (.invokestatic 137, 3) := by decide +kernel
theorem dX11_clash_14 : decode cX11_clash 14 = .ok (.ifCond .ne 5, 3) := by decide +kernel
theorem dX11_clash_17 : decode cX11_clash 17 = .ok (.iconst (-1), 1) := by decide +kernel
theorem dX11_clash_18 : decode cX11_clash 18 = .ok (.ireturn, 1) := by decide +kernel
theorem dX11_clash_19 : decode cX11_clash 19 = .ok (.aload_n 0, 1) := by decide +kernel
theorem dX11_clash_20 : decode cX11_clash 20 = .ok (.invokevirtual 267, 3) := by decide +kernel
theorem dX11_clash_23 : decode cX11_clash 23 = .ok (.ldc_w 266, 3) := by decide +kernel
theorem dX11_clash_26 : decode cX11_clash 26 = .ok (.if_icmp .le 6, 3) := by decide +kernel
theorem dX11_clash_29 : decode cX11_clash 29 = .ok (.bipush (-3), 2) := by decide +kernel
theorem dX11_clash_31 : decode cX11_clash 31 = .ok (.ireturn, 1) := by decide +kernel
theorem dX11_clash_32 : decode cX11_clash 32 = .ok (.aload_n 0, 1) := by decide +kernel
theorem dX11_clash_33 : decode cX11_clash 33 = .ok (.invokevirtual 291, 3) := by decide +kernel
theorem dX11_clash_36 : decode cX11_clash 36 = .ok (.bipush (-2), 2) := by decide +kernel
theorem dX11_clash_38 : decode cX11_clash 38 = .ok (.istore_n 3, 1) := by decide +kernel
theorem dX11_clash_39 : decode cX11_clash 39 = .ok (.iconst 0, 1) := by decide +kernel
theorem dX11_clash_40 : decode cX11_clash 40 = .ok (.istore 4, 2) := by decide +kernel
theorem dX11_clash_42 : decode cX11_clash 42 = .ok (.iload 4, 2) := by decide +kernel
theorem dX11_clash_44 : decode cX11_clash 44 = .ok (.sipush 1024, 3) := by decide +kernel
theorem dX11_clash_47 : decode cX11_clash 47 = .ok (.if_icmp .ge 51, 3) := by decide +kernel
theorem dX11_clash_50 : decode cX11_clash 50 = .ok (.iload 4, 2) := by decide +kernel
theorem dX11_clash_52 : decode cX11_clash 52 = .ok (.iload_n 1, 1) := by decide +kernel
theorem dX11_clash_53 : decode cX11_clash 53 = .ok (.iconst (-1), 1) := by decide +kernel
theorem dX11_clash_54 : decode cX11_clash 54 = .ok (.ixor, 1) := by decide +kernel
theorem dX11_clash_55 : decode cX11_clash 55 = .ok (.iand, 1) := by decide +kernel
theorem dX11_clash_56 : decode cX11_clash 56 = .ok (.ifCond .ne 36, 3) := by decide +kernel
theorem dX11_clash_59 : decode cX11_clash 59 = .ok (.iload_n 3, 1) := by decide +kernel
theorem dX11_clash_60 : decode cX11_clash 60 = .ok (.bipush (-2), 2) := by decide +kernel
theorem dX11_clash_62 : decode cX11_clash 62 = .ok (.if_icmp .eq 18, 3) := by decide +kernel
theorem dX11_clash_65 : decode cX11_clash 65 = .ok (.iload 4, 2) := by decide +kernel
theorem dX11_clash_67 : decode cX11_clash 67 = .ok (.invokestatic 256, 3) := by decide +kernel
theorem dX11_clash_70 : decode cX11_clash 70 = .ok (.iload_n 3, 1) := by decide +kernel
theorem dX11_clash_71 : decode cX11_clash 71 = .ok (.invokestatic 256, 3) := by decide +kernel
theorem dX11_clash_74 : decode cX11_clash 74 = .ok (.if_icmp .lt 6, 3) := by decide +kernel
theorem dX11_clash_77 : decode cX11_clash 77 = .ok (.goto 15, 3) := by decide +kernel
theorem dX11_clash_80 : decode cX11_clash 80 = .ok (.aload_n 0, 1) := by decide +kernel
theorem dX11_clash_81 : decode cX11_clash 81 = .ok (.iload 4, 2) := by decide +kernel
theorem dX11_clash_83 : decode cX11_clash 83 = .ok (.invokevirtual 294, 3) := by decide +kernel
theorem dX11_clash_86 : decode cX11_clash 86 = .ok (.ifCond .ne 6, 3) := by decide +kernel
theorem dX11_clash_89 : decode cX11_clash 89 = .ok (.iload 4, 2) := by decide +kernel
theorem dX11_clash_91 : decode cX11_clash 91 = .ok (.istore_n 3, 1) := by decide +kernel
theorem dX11_clash_92 : decode cX11_clash 92 = .ok (.iinc 4 1, 3) := by decide +kernel
theorem dX11_clash_95 : decode cX11_clash 95 = .ok (.goto (-53), 3) := by decide +kernel
theorem dX11_clash_98 : decode cX11_clash 98 = .ok (.iload_n 2, 1) := by decide +kernel
theorem dX11_clash_99 : decode cX11_clash 99 = .ok (.iconst 1, 1) := by decide +kernel
theorem dX11_clash_100 : decode cX11_clash 100 = .ok (.if_icmp .eq 9, 3) := by decide +kernel
theorem dX11_clash_103 : decode cX11_clash 103 = .ok (.iload_n 3, 1) := by decide +kernel
theorem dX11_clash_104 : decode cX11_clash 104 = .ok (.bipush (-2), 2) := by decide +kernel
theorem dX11_clash_106 : decode cX11_clash 106 = .ok (.if_icmp .ne 7, 3) := by decide +kernel
theorem dX11_clash_109 : decode cX11_clash 109 = .ok (.iload_n 3, 1) := by decide +kernel
theorem dX11_clash_110 : decode cX11_clash 110 = .ok (.goto 7, 3) := by decide +kernel
theorem dX11_clash_113 : decode cX11_clash 113 = .ok (.iload_n 3, 1) := by decide +kernel
theorem dX11_clash_114 : decode cX11_clash 114 = .ok (.invokestatic 256, 3) := by decide +kernel
theorem dX11_clash_117 : decode cX11_clash 117 = .ok (.ireturn, 1) := by decide +kernel
theorem dX11_needless_0 : decode cX11_needless 0 = .ok (.aload_n 0, 1) := by decide +kernel
theorem dX11_needless_1 : decode cX11_needless 1 = .ok (.iload_n 1, 1) := by decide +kernel
theorem dX11_needless_2 : decode cX11_needless 2 = .ok (.invokevirtual 285, 3) := by decide +kernel
theorem dX11_needless_5 : decode cX11_needless 5 = .ok (.ifCond .ne 5, 3) := by decide +kernel
theorem dX11_needless_8 : decode cX11_needless 8 = .ok (.iconst (-1), 1) := by decide +kernel
theorem dX11_needless_9 : decode cX11_needless 9 = .ok (.ireturn, 1) := by decide +kernel
theorem dX11_needless_10 : decode cX11_needless 10 = .ok (.aload_n 0, 1) := by decide +kernel
theorem dX11_needless_11 : decode cX11_needless 11 = .ok (.invokevirtual 267, 3) := by decide +kernel
theorem dX11_needless_14 : decode cX11_needless 14 = .ok (.ldc_w 266, 3) := by decide +kernel
theorem dX11_needless_17 : decode cX11_needless 17 = .ok (.if_icmp .le 6, 3) := by decide +kernel
theorem dX11_needless_20 : decode cX11_needless 20 = .ok (.bipush (-3), 2) := by decide +kernel
theorem dX11_needless_22 : decode cX11_needless 22 = .ok (.ireturn, 1) := by decide +kernel
theorem dX11_needless_23 : decode cX11_needless 23 = .ok (.aload_n 0, 1) := by decide +kernel
theorem dX11_needless_24 : decode cX11_needless 24 = .ok (.invokevirtual 291, 3) := by decide +kernel
theorem dX11_needless_27 : decode cX11_needless 27 = .ok (.aload_n 0, 1) := by decide +kernel
theorem dX11_needless_28 : decode cX11_needless 28 = .ok (.iload_n 1, 1) := by decide +kernel
theorem dX11_needless_29 : decode cX11_needless 29 = .ok (.invokevirtual 294, 3) := by decide +kernel
theorem dX11_needless_32 : decode cX11_needless 32 = .ok (.istore_n 2, 1) := by decide +kernel
theorem dX11_needless_33 : decode cX11_needless 33 = .ok (.iconst 0, 1) := by decide +kernel
theorem dX11_needless_34 : decode cX11_needless 34 = .ok (.istore_n 3, 1) := by decide +kernel
theorem dX11_needless_35 : decode cX11_needless 35 = .ok (.iconst 0, 1) := by decide +kernel
theorem dX11_needless_36 : decode cX11_needless 36 = .ok (.istore 4, 2) := by decide +kernel
theorem dX11_needless_38 : decode cX11_needless 38 = .ok (.iload 4, 2) := by decide +kernel
theorem dX11_needless_40 : decode cX11_needless 40 = .ok (.bipush 10, 2) := by decide +kernel
theorem dX11_needless_42 : decode cX11_needless 42 = .ok (.if_icmp .ge 41, 3) := by decide +kernel
theorem dX11_needless_45 : decode cX11_needless 45 = .ok (.iload_n 1, 1) := by decide +kernel
theorem dX11_needless_46 : decode cX11_needless 46 = .ok (.iload 4, 2) := by decide +kernel
theorem dX11_needless_48 : decode cX11_needless 48 = .ok (.invokestatic 133, 3) := by decide +kernel
theorem dX11_needless_51 : decode cX11_needless 51 = .ok (.ifCond .eq 26, 3) := by decide +kernel
theorem dX11_needless_54 : decode cX11_needless 54 = .ok (.aload_n 0, 1) := by decide +kernel
theorem dX11_needless_55 : decode cX11_needless 55 = .ok (.iload_n 1, 1) := by decide +kernel
theorem dX11_needless_56 : decode cX11_needless 56 = .ok (.iconst 1, 1) := by decide +kernel
theorem dX11_needless_57 : decode cX11_needless 57 = .ok (.iload 4, 2) := by decide +kernel
theorem dX11_needless_59 : decode cX11_needless 59 = .ok (.ishl, 1) := by decide +kernel
theorem dX11_needless_60 : decode cX11_needless 60 = .ok (.iconst (-1), 1) := by decide +kernel
theorem dX11_needless_61 : decode cX11_needless 61 = .ok (.ixor, 1) := by decide +kernel
theorem dX11_needless_62 : decode cX11_needless 62 = .ok (.iand, 1) := by decide +kernel
theorem dX11_needless_63 : decode cX11_needless 63 = .ok (.invokevirtual 294, 3) := by decide +kernel
theorem dX11_needless_66 : decode cX11_needless 66 = .ok (.iload_n 2, 1) := by decide +kernel
theorem dX11_needless_67 : decode cX11_needless 67 = .ok (.if_icmp .ne 10, 3) := by decide +kernel
theorem dX11_needless_70 : decode cX11_needless 70 = .ok (.iload_n 3, 1) := by decide +kernel
theorem dX11_needless_71 : decode cX11_needless 71 = .ok (.iconst 1, 1) := by decide +kernel
theorem dX11_needless_72 : decode cX11_needless 72 = .ok (.iload 4, 2) := by decide +kernel
theorem dX11_needless_74 : decode cX11_needless 74 = .ok (.ishl, 1) := by decide +kernel
theorem dX11_needless_75 : decode cX11_needless 75 = .ok (.ior, 1) := by decide +kernel
theorem dX11_needless_76 : decode cX11_needless 76 = .ok (.istore_n 3, 1) := by decide +kernel
theorem dX11_needless_77 : decode cX11_needless 77 = .ok (.iinc 4 1, 3) := by decide +kernel
theorem dX11_needless_80 : decode cX11_needless 80 = .ok (.goto (-42), 3) := by decide +kernel
theorem dX11_needless_83 : decode cX11_needless 83 = .ok (.iload_n 3, 1) := by decide +kernel
theorem dX11_needless_84 : decode cX11_needless 84 = .ok (.ireturn, 1) := by decide +kernel
theorem dX11_settles_0 : decode cX11_settles 0 = .ok (.aload_n 0, 1) := by decide +kernel
theorem dX11_settles_1 : decode cX11_settles 1 = .ok (.iload_n 1, 1) := by decide +kernel
theorem dX11_settles_2 : decode cX11_settles 2 = .ok (.invokevirtual 285, 3) := by decide +kernel
theorem dX11_settles_5 : decode cX11_settles 5 = .ok (.ifCond .ne 5, 3) := by decide +kernel
theorem dX11_settles_8 : decode cX11_settles 8 = .ok (.iconst (-1), 1) := by decide +kernel
theorem dX11_settles_9 : decode cX11_settles 9 = .ok (.ireturn, 1) := by decide +kernel
theorem dX11_settles_10 : decode cX11_settles 10 = .ok (.aload_n 0, 1) := by decide +kernel
theorem dX11_settles_11 : decode cX11_settles 11 = .ok (.invokevirtual 267, 3) := by decide +kernel
theorem dX11_settles_14 : decode cX11_settles 14 = .ok (.ldc_w 266, 3) := by decide +kernel
theorem dX11_settles_17 : decode cX11_settles 17 = .ok (.if_icmp .le 6, 3) := by decide +kernel
theorem dX11_settles_20 : decode cX11_settles 20 = .ok (.bipush (-3), 2) := by decide +kernel
theorem dX11_settles_22 : decode cX11_settles 22 = .ok (.ireturn, 1) := by decide +kernel
theorem dX11_settles_23 : decode cX11_settles 23 = .ok (.aload_n 0, 1) := by decide +kernel
theorem dX11_settles_24 : decode cX11_settles 24 = .ok (.invokevirtual 291, 3) := by decide +kernel
theorem dX11_settles_27 : decode cX11_settles 27 = .ok (.iconst 0, 1) := by decide +kernel
theorem dX11_settles_28 : decode cX11_settles 28 = .ok (.istore_n 2, 1) := by decide +kernel
theorem dX11_settles_29 : decode cX11_settles 29 = .ok (.iload_n 2, 1) := by decide +kernel
theorem dX11_settles_30 : decode cX11_settles 30 = .ok (.bipush 10, 2) := by decide +kernel
theorem dX11_settles_32 : decode cX11_settles 32 = .ok (.if_icmp .ge 40, 3) := by decide +kernel
theorem dX11_settles_35 : decode cX11_settles 35 = .ok (.aload_n 0, 1) := by decide +kernel
theorem dX11_settles_36 : decode cX11_settles 36 = .ok (.iload_n 2, 1) := by decide +kernel
theorem dX11_settles_37 : decode cX11_settles 37 = .ok (.invokevirtual 263, 3) := by decide +kernel
theorem dX11_settles_40 : decode cX11_settles 40 = .ok (.ifCond .eq 26, 3) := by decide +kernel
theorem dX11_settles_43 : decode cX11_settles 43 = .ok (.iload_n 1, 1) := by decide +kernel
theorem dX11_settles_44 : decode cX11_settles 44 = .ok (.iload_n 2, 1) := by decide +kernel
theorem dX11_settles_45 : decode cX11_settles 45 = .ok (.invokestatic 133, 3) := by decide +kernel
theorem dX11_settles_48 : decode cX11_settles 48 = .ok (.ifCond .ne 18, 3) := by decide +kernel
theorem dX11_settles_51 : decode cX11_settles 51 = .ok (.aload_n 0, 1) := by decide +kernel
theorem dX11_settles_52 : decode cX11_settles 52 = .ok (.iload_n 1, 1) := by decide +kernel
theorem dX11_settles_53 : decode cX11_settles 53 = .ok (.iconst 1, 1) := by decide +kernel
theorem dX11_settles_54 : decode cX11_settles 54 = .ok (.iload_n 2, 1) := by decide +kernel
theorem dX11_settles_55 : decode cX11_settles 55 = .ok (.ishl, 1) := by decide +kernel
theorem dX11_settles_56 : decode cX11_settles 56 = .ok (.ior, 1) := by decide +kernel
theorem dX11_settles_57 : decode cX11_settles 57 = .ok (.invokevirtual 294, 3) := by decide +kernel
theorem dX11_settles_60 : decode cX11_settles 60 = .ok (.iconst 1, 1) := by decide +kernel
theorem dX11_settles_61 : decode cX11_settles 61 = .ok (.if_icmp .ne 5, 3) := by decide +kernel
theorem dX11_settles_64 : decode cX11_settles 64 = .ok (.iload_n 2, 1) := by decide +kernel
theorem dX11_settles_65 : decode cX11_settles 65 = .ok (.ireturn, 1) := by decide +kernel
theorem dX11_settles_66 : decode cX11_settles 66 = .ok (.iinc 2 1, 3) := by decide +kernel
theorem dX11_settles_69 : decode cX11_settles 69 = .ok (.goto (-40), 3) := by decide +kernel

theorem dX6_readTerm_6 : decode cX6_readTerm 6 = .ok (.astore_n 2, 1) := by decide +kernel
theorem dX6_readTerm_7 : decode cX6_readTerm 7 = .ok (.aload_n 2, 1) := by decide +kernel
theorem dX6_readTerm_8 : decode cX6_readTerm 8 = .ok (.iconst 0, 1) := by decide +kernel
theorem dX6_readTerm_9 : decode cX6_readTerm 9 = .ok (.invokestatic 122, 3) := by decide +kernel
theorem dX6_readTerm_12 : decode cX6_readTerm 12 = .ok (.aload_n 2, 1) := by decide +kernel
theorem dX6_readTerm_13 : decode cX6_readTerm 13 = .ok (.bipush 6, 2) := by decide +kernel
theorem dX6_readTerm_15 : decode cX6_readTerm 15 = .ok (.iconst 1, 1) := by decide +kernel
theorem dX6_readTerm_16 : decode cX6_readTerm 16 = .ok (.iastore, 1) := by decide +kernel
theorem dX6_readTerm_17 : decode cX6_readTerm 17 = .ok (.iconst 0, 1) := by decide +kernel
theorem dX6_readTerm_18 : decode cX6_readTerm 18 = .ok (.istore_n 3, 1) := by decide +kernel
theorem dX6_readTerm_19 : decode cX6_readTerm 19 = .ok (.aload_n 0, 1) := by decide +kernel
theorem dX6_readTerm_20 : decode cX6_readTerm 20 = .ok (.getfield 42, 3) := by decide +kernel
theorem dX6_readTerm_23 : decode cX6_readTerm 23 = .ok (.istore 4, 2) := by decide +kernel
theorem dX6_readTerm_25 : decode cX6_readTerm 25 = .ok (.iconst 0, 1) := by decide +kernel
theorem dX6_readTerm_26 : decode cX6_readTerm 26 = .ok (.istore 5, 2) := by decide +kernel
theorem dX6_readTerm_28 : decode cX6_readTerm 28 = .ok (.iload 5, 2) := by decide +kernel
theorem dX6_readTerm_30 : decode cX6_readTerm 30 = .ok (.bipush 60, 2) := by decide +kernel
theorem dX6_readTerm_32 : decode cX6_readTerm 32 = .ok (.if_icmp .gt 113, 3) := by decide +kernel
theorem dX6_readTerm_35 : decode cX6_readTerm 35 = .ok (.aload_n 0, 1) := by decide +kernel
theorem dX6_readTerm_36 : decode cX6_readTerm 36 = .ok (.getfield 45, 3) := by decide +kernel
theorem dX6_readTerm_39 : decode cX6_readTerm 39 = .ok (.istore 6, 2) := by decide +kernel
theorem dX6_readTerm_41 : decode cX6_readTerm 41 = .ok (.aload_n 0, 1) := by decide +kernel
theorem dX6_readTerm_42 : decode cX6_readTerm 42 = .ok (.iload_n 1, 1) := by decide +kernel
theorem dX6_readTerm_43 : decode cX6_readTerm 43 = .ok (.invokevirtual 131, 3) := by decide +kernel
theorem dX6_readTerm_46 : decode cX6_readTerm 46 = .ok (.ifCond .ne 5, 3) := by decide +kernel
theorem dX6_readTerm_49 : decode cX6_readTerm 49 = .ok (.iconst 0, 1) := by decide +kernel
theorem dX6_readTerm_50 : decode cX6_readTerm 50 = .ok (.ireturn, 1) := by decide +kernel
theorem dX6_readTerm_51 : decode cX6_readTerm 51 = .ok (.aload_n 0, 1) := by decide +kernel
theorem dX6_readTerm_52 : decode cX6_readTerm 52 = .ok (.getfield 45, 3) := by decide +kernel
theorem dX6_readTerm_55 : decode cX6_readTerm 55 = .ok (.iload 6, 2) := by decide +kernel
theorem dX6_readTerm_57 : decode cX6_readTerm 57 = .ok (.if_icmp .le 7, 3) := by decide +kernel
theorem dX6_readTerm_60 : decode cX6_readTerm 60 = .ok (.iconst 1, 1) := by decide +kernel
theorem dX6_readTerm_61 : decode cX6_readTerm 61 = .ok (.goto 4, 3) := by decide +kernel
theorem dX6_readTerm_64 : decode cX6_readTerm 64 = .ok (.iconst 0, 1) := by decide +kernel
theorem dX6_readTerm_65 : decode cX6_readTerm 65 = .ok (.istore 7, 2) := by decide +kernel
theorem dX6_readTerm_67 : decode cX6_readTerm 67 = .ok (.iload_n 3, 1) := by decide +kernel
theorem dX6_readTerm_68 : decode cX6_readTerm 68 = .ok (.ifCond .eq 17, 3) := by decide +kernel
theorem dX6_readTerm_71 : decode cX6_readTerm 71 = .ok (.iload 7, 2) := by decide +kernel
theorem dX6_readTerm_73 : decode cX6_readTerm 73 = .ok (.ifCond .eq 12, 3) := by decide +kernel
theorem dX6_readTerm_76 : decode cX6_readTerm 76 = .ok (.aload_n 0, 1) := by decide +kernel
theorem dX6_readTerm_77 : decode cX6_readTerm 77 = .ok (.bipush 8, 2) := by decide +kernel
theorem dX6_readTerm_79 : decode cX6_readTerm 79 = .ok (.iload 4, 2) := by decide +kernel
theorem dX6_readTerm_81 : decode cX6_readTerm 81 = .ok (.invokevirtual 79, 3) := by decide +kernel
theorem dX6_readTerm_84 : decode cX6_readTerm 84 = .ok (.ireturn, 1) := by decide +kernel
theorem dX6_readTerm_85 : decode cX6_readTerm 85 = .ok (.aload_n 2, 1) := by decide +kernel
theorem dX6_readTerm_86 : decode cX6_readTerm 86 = .ok (.aload_n 0, 1) := by decide +kernel
theorem dX6_readTerm_87 : decode cX6_readTerm 87 = .ok (.getfield 19, 3) := by decide +kernel
theorem dX6_readTerm_90 : decode cX6_readTerm 90 = .ok (.iload_n 1, 1) := by decide +kernel
theorem dX6_readTerm_91 : decode cX6_readTerm 91 = .ok (.aaload, 1) := by decide +kernel
theorem dX6_readTerm_92 : decode cX6_readTerm 92 = .ok (.iload 7, 2) := by decide +kernel
theorem dX6_readTerm_94 : decode cX6_readTerm 94 = .ok (.invokestatic 134, 3) := by decide +kernel
theorem dX6_readTerm_97 : decode cX6_readTerm 97 = .ok (.iload_n 3, 1) := by decide +kernel
theorem dX6_readTerm_98 : decode cX6_readTerm 98 = .ok (.ifCond .ne 8, 3) := by decide +kernel
theorem dX6_readTerm_101 : decode cX6_readTerm 101 = .ok (.iload 7, 2) := by decide +kernel
theorem dX6_readTerm_103 : decode cX6_readTerm 103 = .ok (.ifCond .eq 7, 3) := by decide +kernel
theorem dX6_readTerm_106 : decode cX6_readTerm 106 = .ok (.iconst 1, 1) := by decide +kernel
theorem dX6_readTerm_107 : decode cX6_readTerm 107 = .ok (.goto 4, 3) := by decide +kernel
theorem dX6_readTerm_110 : decode cX6_readTerm 110 = .ok (.iconst 0, 1) := by decide +kernel
theorem dX6_readTerm_111 : decode cX6_readTerm 111 = .ok (.istore_n 3, 1) := by decide +kernel
theorem dX6_readTerm_112 : decode cX6_readTerm 112 = .ok (.aload_n 0, 1) := by decide +kernel
theorem dX6_readTerm_113 : decode cX6_readTerm 113 = .ok (.invokevirtual 105, 3) := by decide +kernel
theorem dX6_readTerm_116 : decode cX6_readTerm 116 = .ok (.bipush 42, 2) := by decide +kernel
theorem dX6_readTerm_118 : decode cX6_readTerm 118 = .ok (.if_icmp .eq 5, 3) := by decide +kernel
theorem dX6_readTerm_121 : decode cX6_readTerm 121 = .ok (.iconst 1, 1) := by decide +kernel
theorem dX6_readTerm_122 : decode cX6_readTerm 122 = .ok (.ireturn, 1) := by decide +kernel
theorem dX6_readTerm_123 : decode cX6_readTerm 123 = .ok (.aload_n 0, 1) := by decide +kernel
theorem dX6_readTerm_124 : decode cX6_readTerm 124 = .ok (.getfield 42, 3) := by decide +kernel
theorem dX6_readTerm_127 : decode cX6_readTerm 127 = .ok (.istore 4, 2) := by decide +kernel
theorem dX6_readTerm_129 : decode cX6_readTerm 129 = .ok (.aload_n 0, 1) := by decide +kernel
theorem dX6_readTerm_130 : decode cX6_readTerm 130 = .ok (.dup, 1) := by decide +kernel
theorem dX6_readTerm_131 : decode cX6_readTerm 131 = .ok (.getfield 42, 3) := by decide +kernel
theorem dX6_readTerm_134 : decode cX6_readTerm 134 = .ok (.iconst 1, 1) := by decide +kernel
theorem dX6_readTerm_135 : decode cX6_readTerm 135 = .ok (.iadd, 1) := by decide +kernel
theorem dX6_readTerm_136 : decode cX6_readTerm 136 = .ok (.putfield 42, 3) := by decide +kernel
theorem dX6_readTerm_139 : decode cX6_readTerm 139 = .ok (.iinc 5 1, 3) := by decide +kernel
theorem dX6_readTerm_142 : decode cX6_readTerm 142 = .ok (.goto (-114), 3) := by decide +kernel
theorem dX6_readTerm_145 : decode cX6_readTerm 145 = .ok (.aload_n 0, 1) := by decide +kernel
theorem dX6_readTerm_146 : decode cX6_readTerm 146 = .ok (.iconst 1, 1) := by decide +kernel
theorem dX6_readTerm_147 : decode cX6_readTerm 147 = .ok (.aload_n 0, 1) := by decide +kernel
theorem dX6_readTerm_148 : decode cX6_readTerm 148 = .ok (.getfield 42, 3) := by decide +kernel
theorem dX6_readTerm_151 : decode cX6_readTerm 151 = .ok (.invokevirtual 79, 3) := by decide +kernel
theorem dX6_readTerm_154 : decode cX6_readTerm 154 = .ok (.ireturn, 1) := by decide +kernel
theorem dX6_readFactor_0 : decode cX6_readFactor 0 = .ok (.aload_n 0, 1) := by decide +kernel
theorem dX6_readFactor_1 : decode cX6_readFactor 1 = .ok (.getfield 19, 3) := by decide +kernel
theorem dX6_readFactor_4 : decode cX6_readFactor 4 = .ok (.iload_n 1, 1) := by decide +kernel
theorem dX6_readFactor_5 : decode cX6_readFactor 5 = .ok (.aaload, 1) := by decide +kernel
theorem dX6_readFactor_6 : decode cX6_readFactor 6 = .ok (.astore_n 2, 1) := by decide +kernel
theorem dX6_readFactor_7 : decode cX6_readFactor 7 = .ok (.aload_n 0, 1) := by decide +kernel
theorem dX6_readFactor_8 : decode cX6_readFactor 8 = .ok (.invokevirtual 105, 3) := by decide +kernel
theorem dX6_readFactor_11 : decode cX6_readFactor 11 = .ok (.istore_n 3, 1) := by decide +kernel
theorem dX6_readFactor_12 : decode cX6_readFactor 12 = .ok (.iload_n 3, 1) := by decide +kernel
theorem dX6_readFactor_13 : decode cX6_readFactor 13 = .ok (.bipush 97, 2) := by decide +kernel
theorem dX6_readFactor_15 : decode cX6_readFactor 15 = .ok (.if_icmp .lt 15, 3) := by decide +kernel
theorem dX6_readFactor_18 : decode cX6_readFactor 18 = .ok (.iload_n 3, 1) := by decide +kernel
theorem dX6_readFactor_19 : decode cX6_readFactor 19 = .ok (.bipush 102, 2) := by decide +kernel
theorem dX6_readFactor_21 : decode cX6_readFactor 21 = .ok (.if_icmp .gt 9, 3) := by decide +kernel
theorem dX6_readFactor_24 : decode cX6_readFactor 24 = .ok (.aload_n 0, 1) := by decide +kernel
theorem dX6_readFactor_25 : decode cX6_readFactor 25 = .ok (.iload_n 1, 1) := by decide +kernel
theorem dX6_readFactor_26 : decode cX6_readFactor 26 = .ok (.invokevirtual 138, 3) := by decide +kernel
theorem dX6_readFactor_29 : decode cX6_readFactor 29 = .ok (.ireturn, 1) := by decide +kernel
theorem dX6_readFactor_30 : decode cX6_readFactor 30 = .ok (.iload_n 3, 1) := by decide +kernel
theorem dX6_readFactor_31 : decode cX6_readFactor 31 = .ok (.bipush 40, 2) := by decide +kernel
theorem dX6_readFactor_33 : decode cX6_readFactor 33 = .ok (.if_icmp .ne 50, 3) := by decide +kernel
theorem dX6_readFactor_36 : decode cX6_readFactor 36 = .ok (.aload_n 0, 1) := by decide +kernel
theorem dX6_readFactor_37 : decode cX6_readFactor 37 = .ok (.iload_n 1, 1) := by decide +kernel
theorem dX6_readFactor_38 : decode cX6_readFactor 38 = .ok (.invokevirtual 141, 3) := by decide +kernel
theorem dX6_readFactor_41 : decode cX6_readFactor 41 = .ok (.ifCond .eq 22, 3) := by decide +kernel
theorem dX6_readFactor_44 : decode cX6_readFactor 44 = .ok (.aload_n 0, 1) := by decide +kernel
theorem dX6_readFactor_45 : decode cX6_readFactor 45 = .ok (.iload_n 1, 1) := by decide +kernel
theorem dX6_readFactor_46 : decode cX6_readFactor 46 = .ok (.iconst 1, 1) := by decide +kernel
theorem dX6_readFactor_47 : decode cX6_readFactor 47 = .ok (.iadd, 1) := by decide +kernel
theorem dX6_readFactor_48 : decode cX6_readFactor 48 = .ok (.invokevirtual 65, 3) := by decide +kernel
theorem dX6_readFactor_51 : decode cX6_readFactor 51 = .ok (.ifCond .eq 12, 3) := by decide +kernel
theorem dX6_readFactor_54 : decode cX6_readFactor 54 = .ok (.aload_n 0, 1) := by decide +kernel
theorem dX6_readFactor_55 : decode cX6_readFactor 55 = .ok (.bipush 41, 2) := by decide +kernel
theorem dX6_readFactor_57 : decode cX6_readFactor 57 = .ok (.invokevirtual 144, 3) := by decide +kernel
theorem dX6_readFactor_60 : decode cX6_readFactor 60 = .ok (.ifCond .ne 5, 3) := by decide +kernel
theorem dX6_readFactor_63 : decode cX6_readFactor 63 = .ok (.iconst 0, 1) := by decide +kernel
theorem dX6_readFactor_64 : decode cX6_readFactor 64 = .ok (.ireturn, 1) := by decide +kernel
theorem dX6_readFactor_65 : decode cX6_readFactor 65 = .ok (.aload_n 0, 1) := by decide +kernel
theorem dX6_readFactor_66 : decode cX6_readFactor 66 = .ok (.getfield 13, 3) := by decide +kernel
theorem dX6_readFactor_69 : decode cX6_readFactor 69 = .ok (.iload_n 1, 1) := by decide +kernel
theorem dX6_readFactor_70 : decode cX6_readFactor 70 = .ok (.iconst 1, 1) := by decide +kernel
theorem dX6_readFactor_71 : decode cX6_readFactor 71 = .ok (.iadd, 1) := by decide +kernel
theorem dX6_readFactor_72 : decode cX6_readFactor 72 = .ok (.aaload, 1) := by decide +kernel
theorem dX6_readFactor_73 : decode cX6_readFactor 73 = .ok (.iconst 0, 1) := by decide +kernel
theorem dX6_readFactor_74 : decode cX6_readFactor 74 = .ok (.aload_n 2, 1) := by decide +kernel
theorem dX6_readFactor_75 : decode cX6_readFactor 75 = .ok (.iconst 0, 1) := by decide +kernel
theorem dX6_readFactor_76 : decode cX6_readFactor 76 = .ok (.bipush 7, 2) := by decide +kernel
theorem dX6_readFactor_78 : decode cX6_readFactor 78 = .ok (.invokestatic 69, 3) := by decide +kernel
theorem dX6_readFactor_81 : decode cX6_readFactor 81 = .ok (.iconst 1, 1) := by decide +kernel
theorem dX6_readFactor_82 : decode cX6_readFactor 82 = .ok (.ireturn, 1) := by decide +kernel
theorem dX6_readFactor_83 : decode cX6_readFactor 83 = .ok (.aload_n 2, 1) := by decide +kernel
theorem dX6_readFactor_84 : decode cX6_readFactor 84 = .ok (.iconst 0, 1) := by decide +kernel
theorem dX6_readFactor_85 : decode cX6_readFactor 85 = .ok (.invokestatic 122, 3) := by decide +kernel
theorem dX6_readFactor_88 : decode cX6_readFactor 88 = .ok (.aload_n 0, 1) := by decide +kernel
theorem dX6_readFactor_89 : decode cX6_readFactor 89 = .ok (.invokevirtual 116, 3) := by decide +kernel
theorem dX6_readFactor_92 : decode cX6_readFactor 92 = .ok (.istore 4, 2) := by decide +kernel
theorem dX6_readFactor_94 : decode cX6_readFactor 94 = .ok (.aload_n 2, 1) := by decide +kernel
theorem dX6_readFactor_95 : decode cX6_readFactor 95 = .ok (.bipush 6, 2) := by decide +kernel
theorem dX6_readFactor_97 : decode cX6_readFactor 97 = .ok (.aload_n 0, 1) := by decide +kernel
theorem dX6_readFactor_98 : decode cX6_readFactor 98 = .ok (.getfield 119, 3) := by decide +kernel
theorem dX6_readFactor_101 : decode cX6_readFactor 101 = .ok (.iastore, 1) := by decide +kernel
theorem dX6_readFactor_102 : decode cX6_readFactor 102 = .ok (.iload 4, 2) := by decide +kernel
theorem dX6_readFactor_104 : decode cX6_readFactor 104 = .ok (.ireturn, 1) := by decide +kernel
theorem dX6_readPerson_0 : decode cX6_readPerson 0 = .ok (.aload_n 0, 1) := by decide +kernel
theorem dX6_readPerson_1 : decode cX6_readPerson 1 = .ok (.getfield 19, 3) := by decide +kernel
theorem dX6_readPerson_4 : decode cX6_readPerson 4 = .ok (.iload_n 1, 1) := by decide +kernel
theorem dX6_readPerson_5 : decode cX6_readPerson 5 = .ok (.aaload, 1) := by decide +kernel
theorem dX6_readPerson_6 : decode cX6_readPerson 6 = .ok (.astore_n 2, 1) := by decide +kernel
theorem dX6_readPerson_7 : decode cX6_readPerson 7 = .ok (.aload_n 0, 1) := by decide +kernel
theorem dX6_readPerson_8 : decode cX6_readPerson 8 = .ok (.invokevirtual 147, 3) := by decide +kernel
theorem dX6_readPerson_11 : decode cX6_readPerson 11 = .ok (.istore_n 3, 1) := by decide +kernel
theorem dX6_readPerson_12 : decode cX6_readPerson 12 = .ok (.iload_n 3, 1) := by decide +kernel
theorem dX6_readPerson_13 : decode cX6_readPerson 13 = .ok (.ifCond .ge 5, 3) := by decide +kernel
theorem dX6_readPerson_16 : decode cX6_readPerson 16 = .ok (.iconst 0, 1) := by decide +kernel
theorem dX6_readPerson_17 : decode cX6_readPerson 17 = .ok (.ireturn, 1) := by decide +kernel
theorem dX6_readPerson_18 : decode cX6_readPerson 18 = .ok (.aload_n 0, 1) := by decide +kernel
theorem dX6_readPerson_19 : decode cX6_readPerson 19 = .ok (.invokevirtual 105, 3) := by decide +kernel
theorem dX6_readPerson_22 : decode cX6_readPerson 22 = .ok (.bipush 64, 2) := by decide +kernel
theorem dX6_readPerson_24 : decode cX6_readPerson 24 = .ok (.if_icmp .eq 14, 3) := by decide +kernel
theorem dX6_readPerson_27 : decode cX6_readPerson 27 = .ok (.aload_n 2, 1) := by decide +kernel
theorem dX6_readPerson_28 : decode cX6_readPerson 28 = .ok (.iconst 0, 1) := by decide +kernel
theorem dX6_readPerson_29 : decode cX6_readPerson 29 = .ok (.invokestatic 122, 3) := by decide +kernel
theorem dX6_readPerson_32 : decode cX6_readPerson 32 = .ok (.aload_n 2, 1) := by decide +kernel
theorem dX6_readPerson_33 : decode cX6_readPerson 33 = .ok (.iload_n 3, 1) := by decide +kernel
theorem dX6_readPerson_34 : decode cX6_readPerson 34 = .ok (.iconst 1, 1) := by decide +kernel
theorem dX6_readPerson_35 : decode cX6_readPerson 35 = .ok (.iastore, 1) := by decide +kernel
theorem dX6_readPerson_36 : decode cX6_readPerson 36 = .ok (.iconst 1, 1) := by decide +kernel
theorem dX6_readPerson_37 : decode cX6_readPerson 37 = .ok (.ireturn, 1) := by decide +kernel
theorem dX6_readPerson_38 : decode cX6_readPerson 38 = .ok (.aload_n 0, 1) := by decide +kernel
theorem dX6_readPerson_39 : decode cX6_readPerson 39 = .ok (.dup, 1) := by decide +kernel
theorem dX6_readPerson_40 : decode cX6_readPerson 40 = .ok (.getfield 42, 3) := by decide +kernel
theorem dX6_readPerson_43 : decode cX6_readPerson 43 = .ok (.iconst 1, 1) := by decide +kernel
theorem dX6_readPerson_44 : decode cX6_readPerson 44 = .ok (.iadd, 1) := by decide +kernel
theorem dX6_readPerson_45 : decode cX6_readPerson 45 = .ok (.putfield 42, 3) := by decide +kernel
theorem dX6_readPerson_48 : decode cX6_readPerson 48 = .ok (.aload_n 0, 1) := by decide +kernel
theorem dX6_readPerson_49 : decode cX6_readPerson 49 = .ok (.iload_n 1, 1) := by decide +kernel
theorem dX6_readPerson_50 : decode cX6_readPerson 50 = .ok (.invokevirtual 141, 3) := by decide +kernel
theorem dX6_readPerson_53 : decode cX6_readPerson 53 = .ok (.ifCond .ne 5, 3) := by decide +kernel
theorem dX6_readPerson_56 : decode cX6_readPerson 56 = .ok (.iconst 0, 1) := by decide +kernel
theorem dX6_readPerson_57 : decode cX6_readPerson 57 = .ok (.ireturn, 1) := by decide +kernel
theorem dX6_readPerson_58 : decode cX6_readPerson 58 = .ok (.aload_n 0, 1) := by decide +kernel
theorem dX6_readPerson_59 : decode cX6_readPerson 59 = .ok (.invokevirtual 147, 3) := by decide +kernel
theorem dX6_readPerson_62 : decode cX6_readPerson 62 = .ok (.istore 4, 2) := by decide +kernel
theorem dX6_readPerson_64 : decode cX6_readPerson 64 = .ok (.iload 4, 2) := by decide +kernel
theorem dX6_readPerson_66 : decode cX6_readPerson 66 = .ok (.ifCond .lt 31, 3) := by decide +kernel
theorem dX6_readPerson_69 : decode cX6_readPerson 69 = .ok (.aload_n 0, 1) := by decide +kernel
theorem dX6_readPerson_70 : decode cX6_readPerson 70 = .ok (.bipush 58, 2) := by decide +kernel
theorem dX6_readPerson_72 : decode cX6_readPerson 72 = .ok (.invokevirtual 144, 3) := by decide +kernel
theorem dX6_readPerson_75 : decode cX6_readPerson 75 = .ok (.ifCond .eq 22, 3) := by decide +kernel
theorem dX6_readPerson_78 : decode cX6_readPerson 78 = .ok (.aload_n 0, 1) := by decide +kernel
theorem dX6_readPerson_79 : decode cX6_readPerson 79 = .ok (.iload_n 1, 1) := by decide +kernel
theorem dX6_readPerson_80 : decode cX6_readPerson 80 = .ok (.iconst 1, 1) := by decide +kernel
theorem dX6_readPerson_81 : decode cX6_readPerson 81 = .ok (.iadd, 1) := by decide +kernel
theorem dX6_readPerson_82 : decode cX6_readPerson 82 = .ok (.invokevirtual 65, 3) := by decide +kernel
theorem dX6_readPerson_85 : decode cX6_readPerson 85 = .ok (.ifCond .eq 12, 3) := by decide +kernel
theorem dX6_readPerson_88 : decode cX6_readPerson 88 = .ok (.aload_n 0, 1) := by decide +kernel
theorem dX6_readPerson_89 : decode cX6_readPerson 89 = .ok (.bipush 41, 2) := by decide +kernel
theorem dX6_readPerson_91 : decode cX6_readPerson 91 = .ok (.invokevirtual 144, 3) := by decide +kernel
theorem dX6_readPerson_94 : decode cX6_readPerson 94 = .ok (.ifCond .ne 5, 3) := by decide +kernel
theorem dX6_readPerson_97 : decode cX6_readPerson 97 = .ok (.iconst 0, 1) := by decide +kernel
theorem dX6_readPerson_98 : decode cX6_readPerson 98 = .ok (.ireturn, 1) := by decide +kernel
theorem dX6_readPerson_99 : decode cX6_readPerson 99 = .ok (.aload_n 0, 1) := by decide +kernel
theorem dX6_readPerson_100 : decode cX6_readPerson 100 = .ok (.getfield 13, 3) := by decide +kernel
theorem dX6_readPerson_103 : decode cX6_readPerson 103 = .ok (.iload_n 1, 1) := by decide +kernel
theorem dX6_readPerson_104 : decode cX6_readPerson 104 = .ok (.iconst 1, 1) := by decide +kernel
theorem dX6_readPerson_105 : decode cX6_readPerson 105 = .ok (.iadd, 1) := by decide +kernel
theorem dX6_readPerson_106 : decode cX6_readPerson 106 = .ok (.aaload, 1) := by decide +kernel
theorem dX6_readPerson_107 : decode cX6_readPerson 107 = .ok (.iconst 0, 1) := by decide +kernel
theorem dX6_readPerson_108 : decode cX6_readPerson 108 = .ok (.aload_n 2, 1) := by decide +kernel
theorem dX6_readPerson_109 : decode cX6_readPerson 109 = .ok (.iconst 0, 1) := by decide +kernel
theorem dX6_readPerson_110 : decode cX6_readPerson 110 = .ok (.bipush 7, 2) := by decide +kernel
theorem dX6_readPerson_112 : decode cX6_readPerson 112 = .ok (.invokestatic 69, 3) := by decide +kernel
theorem dX6_readPerson_115 : decode cX6_readPerson 115 = .ok (.aload_n 2, 1) := by decide +kernel
theorem dX6_readPerson_116 : decode cX6_readPerson 116 = .ok (.iload_n 3, 1) := by decide +kernel
theorem dX6_readPerson_117 : decode cX6_readPerson 117 = .ok (.dup2, 1) := by decide +kernel
theorem dX6_readPerson_118 : decode cX6_readPerson 118 = .ok (.iaload, 1) := by decide +kernel
theorem dX6_readPerson_119 : decode cX6_readPerson 119 = .ok (.iconst 1, 1) := by decide +kernel
theorem dX6_readPerson_120 : decode cX6_readPerson 120 = .ok (.iadd, 1) := by decide +kernel
theorem dX6_readPerson_121 : decode cX6_readPerson 121 = .ok (.iastore, 1) := by decide +kernel
theorem dX6_readPerson_122 : decode cX6_readPerson 122 = .ok (.aload_n 2, 1) := by decide +kernel
theorem dX6_readPerson_123 : decode cX6_readPerson 123 = .ok (.iload 4, 2) := by decide +kernel
theorem dX6_readPerson_125 : decode cX6_readPerson 125 = .ok (.dup2, 1) := by decide +kernel
theorem dX6_readPerson_126 : decode cX6_readPerson 126 = .ok (.iaload, 1) := by decide +kernel
theorem dX6_readPerson_127 : decode cX6_readPerson 127 = .ok (.iconst 1, 1) := by decide +kernel
theorem dX6_readPerson_128 : decode cX6_readPerson 128 = .ok (.isub, 1) := by decide +kernel
theorem dX6_readPerson_129 : decode cX6_readPerson 129 = .ok (.iastore, 1) := by decide +kernel
theorem dX6_readPerson_130 : decode cX6_readPerson 130 = .ok (.iconst 1, 1) := by decide +kernel
theorem dX6_readPerson_131 : decode cX6_readPerson 131 = .ok (.ireturn, 1) := by decide +kernel
theorem dX6_readLetter_0 : decode cX6_readLetter 0 = .ok (.aload_n 0, 1) := by decide +kernel
theorem dX6_readLetter_1 : decode cX6_readLetter 1 = .ok (.invokevirtual 105, 3) := by decide +kernel
theorem dX6_readLetter_4 : decode cX6_readLetter 4 = .ok (.bipush 97, 2) := by decide +kernel
theorem dX6_readLetter_6 : decode cX6_readLetter 6 = .ok (.isub, 1) := by decide +kernel
theorem dX6_readLetter_7 : decode cX6_readLetter 7 = .ok (.istore_n 1, 1) := by decide +kernel
theorem dX6_readLetter_8 : decode cX6_readLetter 8 = .ok (.iload_n 1, 1) := by decide +kernel
theorem dX6_readLetter_9 : decode cX6_readLetter 9 = .ok (.ifCond .lt 9, 3) := by decide +kernel
theorem dX6_readLetter_12 : decode cX6_readLetter 12 = .ok (.iload_n 1, 1) := by decide +kernel
theorem dX6_readLetter_13 : decode cX6_readLetter 13 = .ok (.bipush 6, 2) := by decide +kernel
theorem dX6_readLetter_15 : decode cX6_readLetter 15 = .ok (.if_icmp .lt 15, 3) := by decide +kernel
theorem dX6_readLetter_18 : decode cX6_readLetter 18 = .ok (.aload_n 0, 1) := by decide +kernel
theorem dX6_readLetter_19 : decode cX6_readLetter 19 = .ok (.iconst 1, 1) := by decide +kernel
theorem dX6_readLetter_20 : decode cX6_readLetter 20 = .ok (.aload_n 0, 1) := by decide +kernel
theorem dX6_readLetter_21 : decode cX6_readLetter 21 = .ok (.getfield 42, 3) := by decide +kernel
theorem dX6_readLetter_24 : decode cX6_readLetter 24 = .ok (.invokevirtual 79, 3) := by decide +kernel
theorem dX6_readLetter_27 : decode cX6_readLetter 27 = .ok (.pop, 1) := by decide +kernel
theorem dX6_readLetter_28 : decode cX6_readLetter 28 = .ok (.iconst (-1), 1) := by decide +kernel
theorem dX6_readLetter_29 : decode cX6_readLetter 29 = .ok (.ireturn, 1) := by decide +kernel
theorem dX6_readLetter_30 : decode cX6_readLetter 30 = .ok (.aload_n 0, 1) := by decide +kernel
theorem dX6_readLetter_31 : decode cX6_readLetter 31 = .ok (.getfield 39, 3) := by decide +kernel
theorem dX6_readLetter_34 : decode cX6_readLetter 34 = .ok (.iload_n 1, 1) := by decide +kernel
theorem dX6_readLetter_35 : decode cX6_readLetter 35 = .ok (.ishr, 1) := by decide +kernel
theorem dX6_readLetter_36 : decode cX6_readLetter 36 = .ok (.iconst 1, 1) := by decide +kernel
theorem dX6_readLetter_37 : decode cX6_readLetter 37 = .ok (.iand, 1) := by decide +kernel
theorem dX6_readLetter_38 : decode cX6_readLetter 38 = .ok (.ifCond .ne 16, 3) := by decide +kernel
theorem dX6_readLetter_41 : decode cX6_readLetter 41 = .ok (.aload_n 0, 1) := by decide +kernel
theorem dX6_readLetter_42 : decode cX6_readLetter 42 = .ok (.bipush 7, 2) := by decide +kernel
theorem dX6_readLetter_44 : decode cX6_readLetter 44 = .ok (.aload_n 0, 1) := by decide +kernel
theorem dX6_readLetter_45 : decode cX6_readLetter 45 = .ok (.getfield 42, 3) := by decide +kernel
theorem dX6_readLetter_48 : decode cX6_readLetter 48 = .ok (.invokevirtual 79, 3) := by decide +kernel
theorem dX6_readLetter_51 : decode cX6_readLetter 51 = .ok (.pop, 1) := by decide +kernel
theorem dX6_readLetter_52 : decode cX6_readLetter 52 = .ok (.iconst (-1), 1) := by decide +kernel
theorem dX6_readLetter_53 : decode cX6_readLetter 53 = .ok (.ireturn, 1) := by decide +kernel
theorem dX6_readLetter_54 : decode cX6_readLetter 54 = .ok (.aload_n 0, 1) := by decide +kernel
theorem dX6_readLetter_55 : decode cX6_readLetter 55 = .ok (.dup, 1) := by decide +kernel
theorem dX6_readLetter_56 : decode cX6_readLetter 56 = .ok (.getfield 42, 3) := by decide +kernel
theorem dX6_readLetter_59 : decode cX6_readLetter 59 = .ok (.iconst 1, 1) := by decide +kernel
theorem dX6_readLetter_60 : decode cX6_readLetter 60 = .ok (.iadd, 1) := by decide +kernel
theorem dX6_readLetter_61 : decode cX6_readLetter 61 = .ok (.putfield 42, 3) := by decide +kernel
theorem dX6_readLetter_64 : decode cX6_readLetter 64 = .ok (.aload_n 0, 1) := by decide +kernel
theorem dX6_readLetter_65 : decode cX6_readLetter 65 = .ok (.dup, 1) := by decide +kernel
theorem dX6_readLetter_66 : decode cX6_readLetter 66 = .ok (.getfield 45, 3) := by decide +kernel
theorem dX6_readLetter_69 : decode cX6_readLetter 69 = .ok (.iconst 1, 1) := by decide +kernel
theorem dX6_readLetter_70 : decode cX6_readLetter 70 = .ok (.iadd, 1) := by decide +kernel
theorem dX6_readLetter_71 : decode cX6_readLetter 71 = .ok (.putfield 45, 3) := by decide +kernel
theorem dX6_readLetter_74 : decode cX6_readLetter 74 = .ok (.aload_n 0, 1) := by decide +kernel
theorem dX6_readLetter_75 : decode cX6_readLetter 75 = .ok (.dup, 1) := by decide +kernel
theorem dX6_readLetter_76 : decode cX6_readLetter 76 = .ok (.getfield 48, 3) := by decide +kernel
theorem dX6_readLetter_79 : decode cX6_readLetter 79 = .ok (.iconst 1, 1) := by decide +kernel
theorem dX6_readLetter_80 : decode cX6_readLetter 80 = .ok (.iload_n 1, 1) := by decide +kernel
theorem dX6_readLetter_81 : decode cX6_readLetter 81 = .ok (.ishl, 1) := by decide +kernel
theorem dX6_readLetter_82 : decode cX6_readLetter 82 = .ok (.ior, 1) := by decide +kernel
theorem dX6_readLetter_83 : decode cX6_readLetter 83 = .ok (.putfield 48, 3) := by decide +kernel
theorem dX6_readLetter_86 : decode cX6_readLetter 86 = .ok (.iload_n 1, 1) := by decide +kernel
theorem dX6_readLetter_87 : decode cX6_readLetter 87 = .ok (.ireturn, 1) := by decide +kernel
theorem dX6_readNumber_0 : decode cX6_readNumber 0 = .ok (.aload_n 0, 1) := by decide +kernel
theorem dX6_readNumber_1 : decode cX6_readNumber 1 = .ok (.iconst 0, 1) := by decide +kernel
theorem dX6_readNumber_2 : decode cX6_readNumber 2 = .ok (.putfield 119, 3) := by decide +kernel
theorem dX6_readNumber_5 : decode cX6_readNumber 5 = .ok (.iconst 0, 1) := by decide +kernel
theorem dX6_readNumber_6 : decode cX6_readNumber 6 = .ok (.istore_n 1, 1) := by decide +kernel
theorem dX6_readNumber_7 : decode cX6_readNumber 7 = .ok (.iconst 0, 1) := by decide +kernel
theorem dX6_readNumber_8 : decode cX6_readNumber 8 = .ok (.istore_n 2, 1) := by decide +kernel
theorem dX6_readNumber_9 : decode cX6_readNumber 9 = .ok (.iload_n 2, 1) := by decide +kernel
theorem dX6_readNumber_10 : decode cX6_readNumber 10 = .ok (.iconst 4, 1) := by decide +kernel
theorem dX6_readNumber_11 : decode cX6_readNumber 11 = .ok (.if_icmp .ge 73, 3) := by decide +kernel
theorem dX6_readNumber_14 : decode cX6_readNumber 14 = .ok (.aload_n 0, 1) := by decide +kernel
theorem dX6_readNumber_15 : decode cX6_readNumber 15 = .ok (.invokevirtual 105, 3) := by decide +kernel
theorem dX6_readNumber_18 : decode cX6_readNumber 18 = .ok (.istore_n 3, 1) := by decide +kernel
theorem dX6_readNumber_19 : decode cX6_readNumber 19 = .ok (.iload_n 3, 1) := by decide +kernel
theorem dX6_readNumber_20 : decode cX6_readNumber 20 = .ok (.bipush 48, 2) := by decide +kernel
theorem dX6_readNumber_22 : decode cX6_readNumber 22 = .ok (.if_icmp .lt 62, 3) := by decide +kernel
theorem dX6_readNumber_25 : decode cX6_readNumber 25 = .ok (.iload_n 3, 1) := by decide +kernel
theorem dX6_readNumber_26 : decode cX6_readNumber 26 = .ok (.bipush 57, 2) := by decide +kernel
theorem dX6_readNumber_28 : decode cX6_readNumber 28 = .ok (.if_icmp .le 6, 3) := by decide +kernel
theorem dX6_readNumber_31 : decode cX6_readNumber 31 = .ok (.goto 53, 3) := by decide +kernel
theorem dX6_readNumber_34 : decode cX6_readNumber 34 = .ok (.iload_n 1, 1) := by decide +kernel
theorem dX6_readNumber_35 : decode cX6_readNumber 35 = .ok (.iconst 3, 1) := by decide +kernel
theorem dX6_readNumber_36 : decode cX6_readNumber 36 = .ok (.if_icmp .ne 13, 3) := by decide +kernel
theorem dX6_readNumber_39 : decode cX6_readNumber 39 = .ok (.aload_n 0, 1) := by decide +kernel
theorem dX6_readNumber_40 : decode cX6_readNumber 40 = .ok (.iconst 2, 1) := by decide +kernel
theorem dX6_readNumber_41 : decode cX6_readNumber 41 = .ok (.aload_n 0, 1) := by decide +kernel
theorem dX6_readNumber_42 : decode cX6_readNumber 42 = .ok (.getfield 42, 3) := by decide +kernel
theorem dX6_readNumber_45 : decode cX6_readNumber 45 = .ok (.invokevirtual 79, 3) := by decide +kernel
theorem dX6_readNumber_48 : decode cX6_readNumber 48 = .ok (.ireturn, 1) := by decide +kernel
theorem dX6_readNumber_49 : decode cX6_readNumber 49 = .ok (.aload_n 0, 1) := by decide +kernel
theorem dX6_readNumber_50 : decode cX6_readNumber 50 = .ok (.bipush 10, 2) := by decide +kernel
theorem dX6_readNumber_52 : decode cX6_readNumber 52 = .ok (.aload_n 0, 1) := by decide +kernel
theorem dX6_readNumber_53 : decode cX6_readNumber 53 = .ok (.getfield 119, 3) := by decide +kernel
theorem dX6_readNumber_56 : decode cX6_readNumber 56 = .ok (.imul, 1) := by decide +kernel
theorem dX6_readNumber_57 : decode cX6_readNumber 57 = .ok (.iload_n 3, 1) := by decide +kernel
theorem dX6_readNumber_58 : decode cX6_readNumber 58 = .ok (.iadd, 1) := by decide +kernel
theorem dX6_readNumber_59 : decode cX6_readNumber 59 = .ok (.bipush 48, 2) := by decide +kernel
theorem dX6_readNumber_61 : decode cX6_readNumber 61 = .ok (.isub, 1) := by decide +kernel
theorem dX6_readNumber_62 : decode cX6_readNumber 62 = .ok (.putfield 119, 3) := by decide +kernel
theorem dX6_readNumber_65 : decode cX6_readNumber 65 = .ok (.iinc 1 1, 3) := by decide +kernel
theorem dX6_readNumber_68 : decode cX6_readNumber 68 = .ok (.aload_n 0, 1) := by decide +kernel
theorem dX6_readNumber_69 : decode cX6_readNumber 69 = .ok (.dup, 1) := by decide +kernel
theorem dX6_readNumber_70 : decode cX6_readNumber 70 = .ok (.getfield 42, 3) := by decide +kernel
theorem dX6_readNumber_73 : decode cX6_readNumber 73 = .ok (.iconst 1, 1) := by decide +kernel
theorem dX6_readNumber_74 : decode cX6_readNumber 74 = .ok (.iadd, 1) := by decide +kernel
theorem dX6_readNumber_75 : decode cX6_readNumber 75 = .ok (.putfield 42, 3) := by decide +kernel
theorem dX6_readNumber_78 : decode cX6_readNumber 78 = .ok (.iinc 2 1, 3) := by decide +kernel
theorem dX6_readNumber_81 : decode cX6_readNumber 81 = .ok (.goto (-72), 3) := by decide +kernel
theorem dX6_readNumber_84 : decode cX6_readNumber 84 = .ok (.iload_n 1, 1) := by decide +kernel
theorem dX6_readNumber_85 : decode cX6_readNumber 85 = .ok (.ifCond .gt 15, 3) := by decide +kernel
theorem dX6_readNumber_88 : decode cX6_readNumber 88 = .ok (.aload_n 0, 1) := by decide +kernel
theorem dX6_readNumber_89 : decode cX6_readNumber 89 = .ok (.iconst 1, 1) := by decide +kernel
theorem dX6_readNumber_90 : decode cX6_readNumber 90 = .ok (.aload_n 0, 1) := by decide +kernel
theorem dX6_readNumber_91 : decode cX6_readNumber 91 = .ok (.getfield 42, 3) := by decide +kernel
theorem dX6_readNumber_94 : decode cX6_readNumber 94 = .ok (.invokevirtual 79, 3) := by decide +kernel
theorem dX6_readNumber_97 : decode cX6_readNumber 97 = .ok (.ifCond .eq 7, 3) := by decide +kernel
theorem dX6_readNumber_100 : decode cX6_readNumber 100 = .ok (.iconst 1, 1) := by decide +kernel
theorem dX6_readNumber_101 : decode cX6_readNumber 101 = .ok (.goto 4, 3) := by decide +kernel
theorem dX6_readNumber_104 : decode cX6_readNumber 104 = .ok (.iconst 0, 1) := by decide +kernel
theorem dX6_readNumber_105 : decode cX6_readNumber 105 = .ok (.ireturn, 1) := by decide +kernel
theorem dX6_open_0 : decode cX6_open 0 = .ok (.aload_n 0, 1) := by decide +kernel
theorem dX6_open_1 : decode cX6_open 1 = .ok (.invokevirtual 105, 3) := by decide +kernel
theorem dX6_open_4 : decode cX6_open 4 = .ok (.bipush 40, 2) := by decide +kernel
theorem dX6_open_6 : decode cX6_open 6 = .ok (.if_icmp .eq 13, 3) := by decide +kernel
theorem dX6_open_9 : decode cX6_open 9 = .ok (.aload_n 0, 1) := by decide +kernel
theorem dX6_open_10 : decode cX6_open 10 = .ok (.iconst 1, 1) := by decide +kernel
theorem dX6_open_11 : decode cX6_open 11 = .ok (.aload_n 0, 1) := by decide +kernel
theorem dX6_open_12 : decode cX6_open 12 = .ok (.getfield 42, 3) := by decide +kernel
theorem dX6_open_15 : decode cX6_open 15 = .ok (.invokevirtual 79, 3) := by decide +kernel
theorem dX6_open_18 : decode cX6_open 18 = .ok (.ireturn, 1) := by decide +kernel
theorem dX6_open_19 : decode cX6_open 19 = .ok (.iload_n 1, 1) := by decide +kernel
theorem dX6_open_20 : decode cX6_open 20 = .ok (.bipush 6, 2) := by decide +kernel
theorem dX6_open_22 : decode cX6_open 22 = .ok (.if_icmp .lt 13, 3) := by decide +kernel
theorem dX6_open_25 : decode cX6_open 25 = .ok (.aload_n 0, 1) := by decide +kernel
theorem dX6_open_26 : decode cX6_open 26 = .ok (.iconst 5, 1) := by decide +kernel
theorem dX6_open_27 : decode cX6_open 27 = .ok (.aload_n 0, 1) := by decide +kernel
theorem dX6_open_28 : decode cX6_open 28 = .ok (.getfield 42, 3) := by decide +kernel
theorem dX6_open_31 : decode cX6_open 31 = .ok (.invokevirtual 79, 3) := by decide +kernel
theorem dX6_open_34 : decode cX6_open 34 = .ok (.ireturn, 1) := by decide +kernel
theorem dX6_open_35 : decode cX6_open 35 = .ok (.aload_n 0, 1) := by decide +kernel
theorem dX6_open_36 : decode cX6_open 36 = .ok (.dup, 1) := by decide +kernel
theorem dX6_open_37 : decode cX6_open 37 = .ok (.getfield 42, 3) := by decide +kernel
theorem dX6_open_40 : decode cX6_open 40 = .ok (.iconst 1, 1) := by decide +kernel
theorem dX6_open_41 : decode cX6_open 41 = .ok (.iadd, 1) := by decide +kernel
theorem dX6_open_42 : decode cX6_open 42 = .ok (.putfield 42, 3) := by decide +kernel
theorem dX6_open_45 : decode cX6_open 45 = .ok (.iconst 1, 1) := by decide +kernel
theorem dX6_open_46 : decode cX6_open 46 = .ok (.ireturn, 1) := by decide +kernel
theorem dX6_pass_0 : decode cX6_pass 0 = .ok (.aload_n 0, 1) := by decide +kernel
theorem dX6_pass_1 : decode cX6_pass 1 = .ok (.invokevirtual 105, 3) := by decide +kernel
theorem dX6_pass_4 : decode cX6_pass 4 = .ok (.iload_n 1, 1) := by decide +kernel
theorem dX6_pass_5 : decode cX6_pass 5 = .ok (.if_icmp .eq 13, 3) := by decide +kernel
theorem dX6_pass_8 : decode cX6_pass 8 = .ok (.aload_n 0, 1) := by decide +kernel
theorem dX6_pass_9 : decode cX6_pass 9 = .ok (.iconst 1, 1) := by decide +kernel
theorem dX6_pass_10 : decode cX6_pass 10 = .ok (.aload_n 0, 1) := by decide +kernel
theorem dX6_pass_11 : decode cX6_pass 11 = .ok (.getfield 42, 3) := by decide +kernel
theorem dX6_pass_14 : decode cX6_pass 14 = .ok (.invokevirtual 79, 3) := by decide +kernel
theorem dX6_pass_17 : decode cX6_pass 17 = .ok (.ireturn, 1) := by decide +kernel
theorem dX6_pass_18 : decode cX6_pass 18 = .ok (.aload_n 0, 1) := by decide +kernel
theorem dX6_pass_19 : decode cX6_pass 19 = .ok (.dup, 1) := by decide +kernel
theorem dX6_pass_20 : decode cX6_pass 20 = .ok (.getfield 42, 3) := by decide +kernel
theorem dX6_pass_23 : decode cX6_pass 23 = .ok (.iconst 1, 1) := by decide +kernel
theorem dX6_pass_24 : decode cX6_pass 24 = .ok (.iadd, 1) := by decide +kernel
theorem dX6_pass_25 : decode cX6_pass 25 = .ok (.putfield 42, 3) := by decide +kernel
theorem dX6_pass_28 : decode cX6_pass 28 = .ok (.iconst 1, 1) := by decide +kernel
theorem dX6_pass_29 : decode cX6_pass 29 = .ok (.ireturn, 1) := by decide +kernel
theorem dX6_peek_0 : decode cX6_peek 0 = .ok (.aload_n 0, 1) := by decide +kernel
theorem dX6_peek_1 : decode cX6_peek 1 = .ok (.getfield 42, 3) := by decide +kernel
theorem dX6_peek_4 : decode cX6_peek 4 = .ok (.ifCond .lt 38, 3) := by decide +kernel
theorem dX6_peek_7 : decode cX6_peek 7 = .ok (.aload_n 0, 1) := by decide +kernel
theorem dX6_peek_8 : decode cX6_peek 8 = .ok (.getfield 42, 3) := by decide +kernel
theorem dX6_peek_11 : decode cX6_peek 11 = .ok (.aload_n 0, 1) := by decide +kernel
theorem dX6_peek_12 : decode cX6_peek 12 = .ok (.getfield 35, 3) := by decide +kernel
theorem dX6_peek_15 : decode cX6_peek 15 = .ok (.if_icmp .ge 27, 3) := by decide +kernel
theorem dX6_peek_18 : decode cX6_peek 18 = .ok (.aload_n 0, 1) := by decide +kernel
theorem dX6_peek_19 : decode cX6_peek 19 = .ok (.getfield 42, 3) := by decide +kernel
theorem dX6_peek_22 : decode cX6_peek 22 = .ok (.aload_n 0, 1) := by decide +kernel
theorem dX6_peek_23 : decode cX6_peek 23 = .ok (.getfield 26, 3) := by decide +kernel
theorem dX6_peek_26 : decode cX6_peek 26 = .ok (.arraylength, 1) := by decide +kernel
theorem dX6_peek_27 : decode cX6_peek 27 = .ok (.if_icmp .ge 15, 3) := by decide +kernel
theorem dX6_peek_30 : decode cX6_peek 30 = .ok (.aload_n 0, 1) := by decide +kernel
theorem dX6_peek_31 : decode cX6_peek 31 = .ok (.getfield 26, 3) := by decide +kernel
theorem dX6_peek_34 : decode cX6_peek 34 = .ok (.aload_n 0, 1) := by decide +kernel
theorem dX6_peek_35 : decode cX6_peek 35 = .ok (.getfield 42, 3) := by decide +kernel
theorem dX6_peek_38 : decode cX6_peek 38 = .ok (.iaload, 1) := by decide +kernel
theorem dX6_peek_39 : decode cX6_peek 39 = .ok (.goto 4, 3) := by decide +kernel
theorem dX6_peek_42 : decode cX6_peek 42 = .ok (.iconst (-1), 1) := by decide +kernel
theorem dX6_peek_43 : decode cX6_peek 43 = .ok (.ireturn, 1) := by decide +kernel
theorem dX6_fail_0 : decode cX6_fail 0 = .ok (.aload_n 0, 1) := by decide +kernel
theorem dX6_fail_1 : decode cX6_fail 1 = .ok (.iload_n 1, 1) := by decide +kernel
theorem dX6_fail_2 : decode cX6_fail 2 = .ok (.putfield 59, 3) := by decide +kernel
theorem dX6_fail_5 : decode cX6_fail 5 = .ok (.aload_n 0, 1) := by decide +kernel
theorem dX6_fail_6 : decode cX6_fail 6 = .ok (.iload_n 2, 1) := by decide +kernel
theorem dX6_fail_7 : decode cX6_fail 7 = .ok (.putfield 62, 3) := by decide +kernel
theorem dX6_fail_10 : decode cX6_fail 10 = .ok (.iconst 0, 1) := by decide +kernel
theorem dX6_fail_11 : decode cX6_fail 11 = .ok (.ireturn, 1) := by decide +kernel
theorem dX6_add_0 : decode cX6_add 0 = .ok (.iconst 0, 1) := by decide +kernel
theorem dX6_add_1 : decode cX6_add 1 = .ok (.istore_n 3, 1) := by decide +kernel
theorem dX6_add_2 : decode cX6_add 2 = .ok (.iload_n 3, 1) := by decide +kernel
theorem dX6_add_3 : decode cX6_add 3 = .ok (.bipush 7, 2) := by decide +kernel
theorem dX6_add_5 : decode cX6_add 5 = .ok (.if_icmp .ge 20, 3) := by decide +kernel
theorem dX6_add_8 : decode cX6_add 8 = .ok (.aload_n 0, 1) := by decide +kernel
theorem dX6_add_9 : decode cX6_add 9 = .ok (.iload_n 3, 1) := by decide +kernel
theorem dX6_add_10 : decode cX6_add 10 = .ok (.dup2, 1) := by decide +kernel
theorem dX6_add_11 : decode cX6_add 11 = .ok (.iaload, 1) := by decide +kernel
theorem dX6_add_12 : decode cX6_add 12 = .ok (.iload_n 2, 1) := by decide +kernel
theorem dX6_add_13 : decode cX6_add 13 = .ok (.aload_n 1, 1) := by decide +kernel
theorem dX6_add_14 : decode cX6_add 14 = .ok (.iload_n 3, 1) := by decide +kernel
theorem dX6_add_15 : decode cX6_add 15 = .ok (.iaload, 1) := by decide +kernel
theorem dX6_add_16 : decode cX6_add 16 = .ok (.imul, 1) := by decide +kernel
theorem dX6_add_17 : decode cX6_add 17 = .ok (.iadd, 1) := by decide +kernel
theorem dX6_add_18 : decode cX6_add 18 = .ok (.iastore, 1) := by decide +kernel
theorem dX6_add_19 : decode cX6_add 19 = .ok (.iinc 3 1, 3) := by decide +kernel
theorem dX6_add_22 : decode cX6_add 22 = .ok (.goto (-20), 3) := by decide +kernel
theorem dX6_add_25 : decode cX6_add 25 = .ok (.return_, 1) := by decide +kernel
theorem dX6_multiply_0 : decode cX6_multiply 0 = .ok (.iload_n 2, 1) := by decide +kernel
theorem dX6_multiply_1 : decode cX6_multiply 1 = .ok (.ifCond .eq 10, 3) := by decide +kernel
theorem dX6_multiply_4 : decode cX6_multiply 4 = .ok (.aload_n 0, 1) := by decide +kernel
theorem dX6_multiply_5 : decode cX6_multiply 5 = .ok (.bipush 6, 2) := by decide +kernel
theorem dX6_multiply_7 : decode cX6_multiply 7 = .ok (.iaload, 1) := by decide +kernel
theorem dX6_multiply_8 : decode cX6_multiply 8 = .ok (.goto 7, 3) := by decide +kernel
theorem dX6_multiply_11 : decode cX6_multiply 11 = .ok (.aload_n 1, 1) := by decide +kernel
theorem dX6_multiply_12 : decode cX6_multiply 12 = .ok (.bipush 6, 2) := by decide +kernel
theorem dX6_multiply_14 : decode cX6_multiply 14 = .ok (.iaload, 1) := by decide +kernel
theorem dX6_multiply_15 : decode cX6_multiply 15 = .ok (.istore_n 3, 1) := by decide +kernel
theorem dX6_multiply_16 : decode cX6_multiply 16 = .ok (.iconst 0, 1) := by decide +kernel
theorem dX6_multiply_17 : decode cX6_multiply 17 = .ok (.istore 4, 2) := by decide +kernel
theorem dX6_multiply_19 : decode cX6_multiply 19 = .ok (.iload 4, 2) := by decide +kernel
theorem dX6_multiply_21 : decode cX6_multiply 21 = .ok (.bipush 7, 2) := by decide +kernel
theorem dX6_multiply_23 : decode cX6_multiply 23 = .ok (.if_icmp .ge 30, 3) := by decide +kernel
theorem dX6_multiply_26 : decode cX6_multiply 26 = .ok (.aload_n 0, 1) := by decide +kernel
theorem dX6_multiply_27 : decode cX6_multiply 27 = .ok (.iload 4, 2) := by decide +kernel
theorem dX6_multiply_29 : decode cX6_multiply 29 = .ok (.iload_n 3, 1) := by decide +kernel
theorem dX6_multiply_30 : decode cX6_multiply 30 = .ok (.iload_n 2, 1) := by decide +kernel
theorem dX6_multiply_31 : decode cX6_multiply 31 = .ok (.ifCond .eq 10, 3) := by decide +kernel
theorem dX6_multiply_34 : decode cX6_multiply 34 = .ok (.aload_n 1, 1) := by decide +kernel
theorem dX6_multiply_35 : decode cX6_multiply 35 = .ok (.iload 4, 2) := by decide +kernel
theorem dX6_multiply_37 : decode cX6_multiply 37 = .ok (.iaload, 1) := by decide +kernel
theorem dX6_multiply_38 : decode cX6_multiply 38 = .ok (.goto 7, 3) := by decide +kernel
theorem dX6_multiply_41 : decode cX6_multiply 41 = .ok (.aload_n 0, 1) := by decide +kernel
theorem dX6_multiply_42 : decode cX6_multiply 42 = .ok (.iload 4, 2) := by decide +kernel
theorem dX6_multiply_44 : decode cX6_multiply 44 = .ok (.iaload, 1) := by decide +kernel
theorem dX6_multiply_45 : decode cX6_multiply 45 = .ok (.imul, 1) := by decide +kernel
theorem dX6_multiply_46 : decode cX6_multiply 46 = .ok (.iastore, 1) := by decide +kernel
theorem dX6_multiply_47 : decode cX6_multiply 47 = .ok (.iinc 4 1, 3) := by decide +kernel
theorem dX6_multiply_50 : decode cX6_multiply 50 = .ok (.goto (-31), 3) := by decide +kernel
theorem dX6_multiply_53 : decode cX6_multiply 53 = .ok (.return_, 1) := by decide +kernel
theorem dX7_init_0 : decode cX7_init 0 = .ok (.aload_n 0, 1) := by decide +kernel
theorem dX7_init_1 : decode cX7_init 1 = .ok (.invokespecial 3, 3) := by decide +kernel
theorem dX7_init_4 : decode cX7_init 4 = .ok (.aload_n 0, 1) := by decide +kernel
theorem dX7_init_5 : decode cX7_init 5 = .ok (.bipush 6, 2) := by decide +kernel
theorem dX7_init_7 : decode cX7_init 7 = .ok (.newarray .int, 2) := by decide +kernel
theorem dX7_init_9 : decode cX7_init 9 = .ok (.putfield 9, 3) := by decide +kernel
theorem dX7_init_12 : decode cX7_init 12 = .ok (.aload_n 0, 1) := by decide +kernel
theorem dX7_init_13 : decode cX7_init 13 = .ok (.bipush 10, 2) := by decide +kernel
theorem dX7_init_15 : decode cX7_init 15 = .ok (.newarray .int, 2) := by decide +kernel
theorem dX7_init_17 : decode cX7_init 17 = .ok (.putfield 15, 3) := by decide +kernel
theorem dX7_init_20 : decode cX7_init 20 = .ok (.aload_n 0, 1) := by decide +kernel
theorem dX7_init_21 : decode cX7_init 21 = .ok (.bipush 10, 2) := by decide +kernel
theorem dX7_init_23 : decode cX7_init 23 = .ok (.newarray .int, 2) := by decide +kernel
theorem dX7_init_25 : decode cX7_init 25 = .ok (.putfield 18, 3) := by decide +kernel
theorem dX7_init_28 : decode cX7_init 28 = .ok (.aload_n 0, 1) := by decide +kernel
theorem dX7_init_29 : decode cX7_init 29 = .ok (.aload_n 1, 1) := by decide +kernel
theorem dX7_init_30 : decode cX7_init 30 = .ok (.putfield 21, 3) := by decide +kernel
theorem dX7_init_33 : decode cX7_init 33 = .ok (.return_, 1) := by decide +kernel
theorem dX7_start_0 : decode cX7_start 0 = .ok (.aload_n 0, 1) := by decide +kernel
theorem dX7_start_1 : decode cX7_start 1 = .ok (.getfield 21, 3) := by decide +kernel
theorem dX7_start_4 : decode cX7_start 4 = .ok (.invokevirtual 25, 3) := by decide +kernel
theorem dX7_start_7 : decode cX7_start 7 = .ok (.lstore_n 2, 1) := by decide +kernel
theorem dX7_start_8 : decode cX7_start 8 = .ok (.lload_n 2, 1) := by decide +kernel
theorem dX7_start_9 : decode cX7_start 9 = .ok (.ldc2_w 31, 3) := by decide +kernel
theorem dX7_start_12 : decode cX7_start 12 = .ok (.lcmp, 1) := by decide +kernel
theorem dX7_start_13 : decode cX7_start 13 = .ok (.ifCond .le 5, 3) := by decide +kernel
theorem dX7_start_16 : decode cX7_start 16 = .ok (.iconst 0, 1) := by decide +kernel
theorem dX7_start_17 : decode cX7_start 17 = .ok (.ireturn, 1) := by decide +kernel
theorem dX7_start_18 : decode cX7_start 18 = .ok (.aload_n 0, 1) := by decide +kernel
theorem dX7_start_19 : decode cX7_start 19 = .ok (.lload_n 2, 1) := by decide +kernel
theorem dX7_start_20 : decode cX7_start 20 = .ok (.l2i, 1) := by decide +kernel
theorem dX7_start_21 : decode cX7_start 21 = .ok (.putfield 33, 3) := by decide +kernel
theorem dX7_start_24 : decode cX7_start 24 = .ok (.aload_n 0, 1) := by decide +kernel
theorem dX7_start_25 : decode cX7_start 25 = .ok (.iconst 0, 1) := by decide +kernel
theorem dX7_start_26 : decode cX7_start 26 = .ok (.putfield 37, 3) := by decide +kernel
theorem dX7_start_29 : decode cX7_start 29 = .ok (.iconst 0, 1) := by decide +kernel
theorem dX7_start_30 : decode cX7_start 30 = .ok (.istore 4, 2) := by decide +kernel
theorem dX7_start_32 : decode cX7_start 32 = .ok (.iload 4, 2) := by decide +kernel
theorem dX7_start_34 : decode cX7_start 34 = .ok (.bipush 6, 2) := by decide +kernel
theorem dX7_start_36 : decode cX7_start 36 = .ok (.if_icmp .ge 42, 3) := by decide +kernel
theorem dX7_start_39 : decode cX7_start 39 = .ok (.aload_n 0, 1) := by decide +kernel
theorem dX7_start_40 : decode cX7_start 40 = .ok (.getfield 9, 3) := by decide +kernel
theorem dX7_start_43 : decode cX7_start 43 = .ok (.iload 4, 2) := by decide +kernel
theorem dX7_start_45 : decode cX7_start 45 = .ok (.aload_n 0, 1) := by decide +kernel
theorem dX7_start_46 : decode cX7_start 46 = .ok (.getfield 21, 3) := by decide +kernel
theorem dX7_start_49 : decode cX7_start 49 = .ok (.iload 4, 2) := by decide +kernel
theorem dX7_start_51 : decode cX7_start 51 = .ok (.invokevirtual 40, 3) := by decide +kernel
theorem dX7_start_54 : decode cX7_start 54 = .ok (.ifCond .eq 16, 3) := by decide +kernel
theorem dX7_start_57 : decode cX7_start 57 = .ok (.aload_n 0, 1) := by decide +kernel
theorem dX7_start_58 : decode cX7_start 58 = .ok (.getfield 21, 3) := by decide +kernel
theorem dX7_start_61 : decode cX7_start 61 = .ok (.getfield 44, 3) := by decide +kernel
theorem dX7_start_64 : decode cX7_start 64 = .ok (.iload 4, 2) := by decide +kernel
theorem dX7_start_66 : decode cX7_start 66 = .ok (.iaload, 1) := by decide +kernel
theorem dX7_start_67 : decode cX7_start 67 = .ok (.goto 4, 3) := by decide +kernel
theorem dX7_start_70 : decode cX7_start 70 = .ok (.iconst 0, 1) := by decide +kernel
theorem dX7_start_71 : decode cX7_start 71 = .ok (.iastore, 1) := by decide +kernel
theorem dX7_start_72 : decode cX7_start 72 = .ok (.iinc 4 1, 3) := by decide +kernel
theorem dX7_start_75 : decode cX7_start 75 = .ok (.goto (-43), 3) := by decide +kernel
theorem dX7_start_78 : decode cX7_start 78 = .ok (.aload_n 0, 1) := by decide +kernel
theorem dX7_start_79 : decode cX7_start 79 = .ok (.iconst 0, 1) := by decide +kernel
theorem dX7_start_80 : decode cX7_start 80 = .ok (.putfield 47, 3) := by decide +kernel
theorem dX7_start_83 : decode cX7_start 83 = .ok (.iconst 0, 1) := by decide +kernel
theorem dX7_start_84 : decode cX7_start 84 = .ok (.istore 4, 2) := by decide +kernel
theorem dX7_start_86 : decode cX7_start 86 = .ok (.iload 4, 2) := by decide +kernel
theorem dX7_start_88 : decode cX7_start 88 = .ok (.bipush 10, 2) := by decide +kernel
theorem dX7_start_90 : decode cX7_start 90 = .ok (.if_icmp .ge 65, 3) := by decide +kernel
theorem dX7_start_93 : decode cX7_start 93 = .ok (.iload_n 1, 1) := by decide +kernel
theorem dX7_start_94 : decode cX7_start 94 = .ok (.iload 4, 2) := by decide +kernel
theorem dX7_start_96 : decode cX7_start 96 = .ok (.ishr, 1) := by decide +kernel
theorem dX7_start_97 : decode cX7_start 97 = .ok (.iconst 1, 1) := by decide +kernel
theorem dX7_start_98 : decode cX7_start 98 = .ok (.iand, 1) := by decide +kernel
theorem dX7_start_99 : decode cX7_start 99 = .ok (.ifCond .eq 50, 3) := by decide +kernel
theorem dX7_start_102 : decode cX7_start 102 = .ok (.aload_n 0, 1) := by decide +kernel
theorem dX7_start_103 : decode cX7_start 103 = .ok (.getfield 15, 3) := by decide +kernel
theorem dX7_start_106 : decode cX7_start 106 = .ok (.aload_n 0, 1) := by decide +kernel
theorem dX7_start_107 : decode cX7_start 107 = .ok (.getfield 47, 3) := by decide +kernel
theorem dX7_start_110 : decode cX7_start 110 = .ok (.iload 4, 2) := by decide +kernel
theorem dX7_start_112 : decode cX7_start 112 = .ok (.iastore, 1) := by decide +kernel
theorem dX7_start_113 : decode cX7_start 113 = .ok (.aload_n 0, 1) := by decide +kernel
theorem dX7_start_114 : decode cX7_start 114 = .ok (.getfield 18, 3) := by decide +kernel
theorem dX7_start_117 : decode cX7_start 117 = .ok (.aload_n 0, 1) := by decide +kernel
theorem dX7_start_118 : decode cX7_start 118 = .ok (.getfield 47, 3) := by decide +kernel
theorem dX7_start_121 : decode cX7_start 121 = .ok (.aload_n 0, 1) := by decide +kernel
theorem dX7_start_122 : decode cX7_start 122 = .ok (.getfield 21, 3) := by decide +kernel
theorem dX7_start_125 : decode cX7_start 125 = .ok (.getfield 50, 3) := by decide +kernel
theorem dX7_start_128 : decode cX7_start 128 = .ok (.iload 4, 2) := by decide +kernel
theorem dX7_start_130 : decode cX7_start 130 = .ok (.aaload, 1) := by decide +kernel
theorem dX7_start_131 : decode cX7_start 131 = .ok (.aload_n 0, 1) := by decide +kernel
theorem dX7_start_132 : decode cX7_start 132 = .ok (.getfield 9, 3) := by decide +kernel
theorem dX7_start_135 : decode cX7_start 135 = .ok (.invokevirtual 54, 3) := by decide +kernel
theorem dX7_start_138 : decode cX7_start 138 = .ok (.iastore, 1) := by decide +kernel
theorem dX7_start_139 : decode cX7_start 139 = .ok (.aload_n 0, 1) := by decide +kernel
theorem dX7_start_140 : decode cX7_start 140 = .ok (.dup, 1) := by decide +kernel
theorem dX7_start_141 : decode cX7_start 141 = .ok (.getfield 47, 3) := by decide +kernel
theorem dX7_start_144 : decode cX7_start 144 = .ok (.iconst 1, 1) := by decide +kernel
theorem dX7_start_145 : decode cX7_start 145 = .ok (.iadd, 1) := by decide +kernel
theorem dX7_start_146 : decode cX7_start 146 = .ok (.putfield 47, 3) := by decide +kernel
theorem dX7_start_149 : decode cX7_start 149 = .ok (.iinc 4 1, 3) := by decide +kernel
theorem dX7_start_152 : decode cX7_start 152 = .ok (.goto (-66), 3) := by decide +kernel
theorem dX7_start_155 : decode cX7_start 155 = .ok (.iconst 1, 1) := by decide +kernel
theorem dX7_start_156 : decode cX7_start 156 = .ok (.ireturn, 1) := by decide +kernel
theorem dX7_seek_0 : decode cX7_seek 0 = .ok (.aload_n 0, 1) := by decide +kernel
theorem dX7_seek_1 : decode cX7_seek 1 = .ok (.iload_n 1, 1) := by decide +kernel
theorem dX7_seek_2 : decode cX7_seek 2 = .ok (.invokevirtual 60, 3) := by decide +kernel
theorem dX7_seek_5 : decode cX7_seek 5 = .ok (.ifCond .ne 6, 3) := by decide +kernel
theorem dX7_seek_8 : decode cX7_seek 8 = .ok (.bipush (-3), 2) := by decide +kernel
theorem dX7_seek_10 : decode cX7_seek 10 = .ok (.ireturn, 1) := by decide +kernel
theorem dX7_seek_11 : decode cX7_seek 11 = .ok (.aload_n 0, 1) := by decide +kernel
theorem dX7_seek_12 : decode cX7_seek 12 = .ok (.invokevirtual 63, 3) := by decide +kernel
theorem dX7_seek_15 : decode cX7_seek 15 = .ok (.ifCond .eq 7, 3) := by decide +kernel
theorem dX7_seek_18 : decode cX7_seek 18 = .ok (.iconst 0, 1) := by decide +kernel
theorem dX7_seek_19 : decode cX7_seek 19 = .ok (.goto 5, 3) := by decide +kernel
theorem dX7_seek_22 : decode cX7_seek 22 = .ok (.bipush (-2), 2) := by decide +kernel
theorem dX7_seek_24 : decode cX7_seek 24 = .ok (.ireturn, 1) := by decide +kernel
theorem dX7_next_0 : decode cX7_next 0 = .ok (.iconst 0, 1) := by decide +kernel
theorem dX7_next_1 : decode cX7_next 1 = .ok (.istore_n 1, 1) := by decide +kernel
theorem dX7_next_2 : decode cX7_next 2 = .ok (.iload_n 1, 1) := by decide +kernel
theorem dX7_next_3 : decode cX7_next 3 = .ok (.ldc 67, 2) := by decide +kernel
theorem dX7_next_5 : decode cX7_next 5 = .ok (.if_icmp .ge 25, 3) := by decide +kernel
theorem dX7_next_8 : decode cX7_next 8 = .ok (.aload_n 0, 1) := by decide +kernel
theorem dX7_next_9 : decode cX7_next 9 = .ok (.invokevirtual 68, 3) := by decide +kernel
theorem dX7_next_12 : decode cX7_next 12 = .ok (.ifCond .eq 18, 3) := by decide +kernel
theorem dX7_next_15 : decode cX7_next 15 = .ok (.aload_n 0, 1) := by decide +kernel
theorem dX7_next_16 : decode cX7_next 16 = .ok (.invokevirtual 71, 3) := by decide +kernel
theorem dX7_next_19 : decode cX7_next 19 = .ok (.ifCond .eq 5, 3) := by decide +kernel
theorem dX7_next_22 : decode cX7_next 22 = .ok (.iconst 1, 1) := by decide +kernel
theorem dX7_next_23 : decode cX7_next 23 = .ok (.ireturn, 1) := by decide +kernel
theorem dX7_next_24 : decode cX7_next 24 = .ok (.iinc 1 1, 3) := by decide +kernel
theorem dX7_next_27 : decode cX7_next 27 = .ok (.goto (-25), 3) := by decide +kernel
theorem dX7_next_30 : decode cX7_next 30 = .ok (.iconst 0, 1) := by decide +kernel
theorem dX7_next_31 : decode cX7_next 31 = .ok (.ireturn, 1) := by decide +kernel
theorem dX7_move_0 : decode cX7_move 0 = .ok (.aload_n 0, 1) := by decide +kernel
theorem dX7_move_1 : decode cX7_move 1 = .ok (.getfield 37, 3) := by decide +kernel
theorem dX7_move_4 : decode cX7_move 4 = .ok (.aload_n 0, 1) := by decide +kernel
theorem dX7_move_5 : decode cX7_move 5 = .ok (.getfield 33, 3) := by decide +kernel
theorem dX7_move_8 : decode cX7_move 8 = .ok (.if_icmp .lt 5, 3) := by decide +kernel
theorem dX7_move_11 : decode cX7_move 11 = .ok (.iconst 0, 1) := by decide +kernel
theorem dX7_move_12 : decode cX7_move 12 = .ok (.ireturn, 1) := by decide +kernel
theorem dX7_move_13 : decode cX7_move 13 = .ok (.aload_n 0, 1) := by decide +kernel
theorem dX7_move_14 : decode cX7_move 14 = .ok (.getfield 37, 3) := by decide +kernel
theorem dX7_move_17 : decode cX7_move 17 = .ok (.ifCond .le 7, 3) := by decide +kernel
theorem dX7_move_20 : decode cX7_move 20 = .ok (.aload_n 0, 1) := by decide +kernel
theorem dX7_move_21 : decode cX7_move 21 = .ok (.invokevirtual 74, 3) := by decide +kernel
theorem dX7_move_24 : decode cX7_move 24 = .ok (.aload_n 0, 1) := by decide +kernel
theorem dX7_move_25 : decode cX7_move 25 = .ok (.dup, 1) := by decide +kernel
theorem dX7_move_26 : decode cX7_move 26 = .ok (.getfield 37, 3) := by decide +kernel
theorem dX7_move_29 : decode cX7_move 29 = .ok (.iconst 1, 1) := by decide +kernel
theorem dX7_move_30 : decode cX7_move 30 = .ok (.iadd, 1) := by decide +kernel
theorem dX7_move_31 : decode cX7_move 31 = .ok (.putfield 37, 3) := by decide +kernel
theorem dX7_move_34 : decode cX7_move 34 = .ok (.iconst 1, 1) := by decide +kernel
theorem dX7_move_35 : decode cX7_move 35 = .ok (.ireturn, 1) := by decide +kernel
theorem dX7_step_0 : decode cX7_step 0 = .ok (.iconst 5, 1) := by decide +kernel
theorem dX7_step_1 : decode cX7_step 1 = .ok (.istore_n 1, 1) := by decide +kernel
theorem dX7_step_2 : decode cX7_step 2 = .ok (.iload_n 1, 1) := by decide +kernel
theorem dX7_step_3 : decode cX7_step 3 = .ok (.ifCond .lt 66, 3) := by decide +kernel
theorem dX7_step_6 : decode cX7_step 6 = .ok (.aload_n 0, 1) := by decide +kernel
theorem dX7_step_7 : decode cX7_step 7 = .ok (.getfield 21, 3) := by decide +kernel
theorem dX7_step_10 : decode cX7_step 10 = .ok (.iload_n 1, 1) := by decide +kernel
theorem dX7_step_11 : decode cX7_step 11 = .ok (.invokevirtual 40, 3) := by decide +kernel
theorem dX7_step_14 : decode cX7_step 14 = .ok (.ifCond .eq 49, 3) := by decide +kernel
theorem dX7_step_17 : decode cX7_step 17 = .ok (.aload_n 0, 1) := by decide +kernel
theorem dX7_step_18 : decode cX7_step 18 = .ok (.getfield 9, 3) := by decide +kernel
theorem dX7_step_21 : decode cX7_step 21 = .ok (.iload_n 1, 1) := by decide +kernel
theorem dX7_step_22 : decode cX7_step 22 = .ok (.iaload, 1) := by decide +kernel
theorem dX7_step_23 : decode cX7_step 23 = .ok (.aload_n 0, 1) := by decide +kernel
theorem dX7_step_24 : decode cX7_step 24 = .ok (.getfield 21, 3) := by decide +kernel
theorem dX7_step_27 : decode cX7_step 27 = .ok (.getfield 77, 3) := by decide +kernel
theorem dX7_step_30 : decode cX7_step 30 = .ok (.iload_n 1, 1) := by decide +kernel
theorem dX7_step_31 : decode cX7_step 31 = .ok (.iaload, 1) := by decide +kernel
theorem dX7_step_32 : decode cX7_step 32 = .ok (.if_icmp .ge 10, 3) := by decide +kernel
theorem dX7_step_35 : decode cX7_step 35 = .ok (.aload_n 0, 1) := by decide +kernel
theorem dX7_step_36 : decode cX7_step 36 = .ok (.iload_n 1, 1) := by decide +kernel
theorem dX7_step_37 : decode cX7_step 37 = .ok (.iconst 1, 1) := by decide +kernel
theorem dX7_step_38 : decode cX7_step 38 = .ok (.invokevirtual 80, 3) := by decide +kernel
theorem dX7_step_41 : decode cX7_step 41 = .ok (.return_, 1) := by decide +kernel
theorem dX7_step_42 : decode cX7_step 42 = .ok (.aload_n 0, 1) := by decide +kernel
theorem dX7_step_43 : decode cX7_step 43 = .ok (.iload_n 1, 1) := by decide +kernel
theorem dX7_step_44 : decode cX7_step 44 = .ok (.aload_n 0, 1) := by decide +kernel
theorem dX7_step_45 : decode cX7_step 45 = .ok (.getfield 21, 3) := by decide +kernel
theorem dX7_step_48 : decode cX7_step 48 = .ok (.getfield 44, 3) := by decide +kernel
theorem dX7_step_51 : decode cX7_step 51 = .ok (.iload_n 1, 1) := by decide +kernel
theorem dX7_step_52 : decode cX7_step 52 = .ok (.iaload, 1) := by decide +kernel
theorem dX7_step_53 : decode cX7_step 53 = .ok (.aload_n 0, 1) := by decide +kernel
theorem dX7_step_54 : decode cX7_step 54 = .ok (.getfield 9, 3) := by decide +kernel
theorem dX7_step_57 : decode cX7_step 57 = .ok (.iload_n 1, 1) := by decide +kernel
theorem dX7_step_58 : decode cX7_step 58 = .ok (.iaload, 1) := by decide +kernel
theorem dX7_step_59 : decode cX7_step 59 = .ok (.isub, 1) := by decide +kernel
theorem dX7_step_60 : decode cX7_step 60 = .ok (.invokevirtual 80, 3) := by decide +kernel
theorem dX7_step_63 : decode cX7_step 63 = .ok (.iinc 1 (-1), 3) := by decide +kernel
theorem dX7_step_66 : decode cX7_step 66 = .ok (.goto (-64), 3) := by decide +kernel
theorem dX7_step_69 : decode cX7_step 69 = .ok (.return_, 1) := by decide +kernel
theorem dX7_grow_0 : decode cX7_grow 0 = .ok (.aload_n 0, 1) := by decide +kernel
theorem dX7_grow_1 : decode cX7_grow 1 = .ok (.getfield 9, 3) := by decide +kernel
theorem dX7_grow_4 : decode cX7_grow 4 = .ok (.iload_n 1, 1) := by decide +kernel
theorem dX7_grow_5 : decode cX7_grow 5 = .ok (.dup2, 1) := by decide +kernel
theorem dX7_grow_6 : decode cX7_grow 6 = .ok (.iaload, 1) := by decide +kernel
theorem dX7_grow_7 : decode cX7_grow 7 = .ok (.iload_n 2, 1) := by decide +kernel
theorem dX7_grow_8 : decode cX7_grow 8 = .ok (.iadd, 1) := by decide +kernel
theorem dX7_grow_9 : decode cX7_grow 9 = .ok (.iastore, 1) := by decide +kernel
theorem dX7_grow_10 : decode cX7_grow 10 = .ok (.iconst 0, 1) := by decide +kernel
theorem dX7_grow_11 : decode cX7_grow 11 = .ok (.istore_n 3, 1) := by decide +kernel
theorem dX7_grow_12 : decode cX7_grow 12 = .ok (.iload_n 3, 1) := by decide +kernel
theorem dX7_grow_13 : decode cX7_grow 13 = .ok (.aload_n 0, 1) := by decide +kernel
theorem dX7_grow_14 : decode cX7_grow 14 = .ok (.getfield 47, 3) := by decide +kernel
theorem dX7_grow_17 : decode cX7_grow 17 = .ok (.if_icmp .ge 39, 3) := by decide +kernel
theorem dX7_grow_20 : decode cX7_grow 20 = .ok (.aload_n 0, 1) := by decide +kernel
theorem dX7_grow_21 : decode cX7_grow 21 = .ok (.getfield 18, 3) := by decide +kernel
theorem dX7_grow_24 : decode cX7_grow 24 = .ok (.iload_n 3, 1) := by decide +kernel
theorem dX7_grow_25 : decode cX7_grow 25 = .ok (.dup2, 1) := by decide +kernel
theorem dX7_grow_26 : decode cX7_grow 26 = .ok (.iaload, 1) := by decide +kernel
theorem dX7_grow_27 : decode cX7_grow 27 = .ok (.aload_n 0, 1) := by decide +kernel
theorem dX7_grow_28 : decode cX7_grow 28 = .ok (.getfield 21, 3) := by decide +kernel
theorem dX7_grow_31 : decode cX7_grow 31 = .ok (.getfield 50, 3) := by decide +kernel
theorem dX7_grow_34 : decode cX7_grow 34 = .ok (.aload_n 0, 1) := by decide +kernel
theorem dX7_grow_35 : decode cX7_grow 35 = .ok (.getfield 15, 3) := by decide +kernel
theorem dX7_grow_38 : decode cX7_grow 38 = .ok (.iload_n 3, 1) := by decide +kernel
theorem dX7_grow_39 : decode cX7_grow 39 = .ok (.iaload, 1) := by decide +kernel
theorem dX7_grow_40 : decode cX7_grow 40 = .ok (.aaload, 1) := by decide +kernel
theorem dX7_grow_41 : decode cX7_grow 41 = .ok (.getfield 84, 3) := by decide +kernel
theorem dX7_grow_44 : decode cX7_grow 44 = .ok (.iload_n 1, 1) := by decide +kernel
theorem dX7_grow_45 : decode cX7_grow 45 = .ok (.iaload, 1) := by decide +kernel
theorem dX7_grow_46 : decode cX7_grow 46 = .ok (.iload_n 2, 1) := by decide +kernel
theorem dX7_grow_47 : decode cX7_grow 47 = .ok (.imul, 1) := by decide +kernel
theorem dX7_grow_48 : decode cX7_grow 48 = .ok (.iadd, 1) := by decide +kernel
theorem dX7_grow_49 : decode cX7_grow 49 = .ok (.iastore, 1) := by decide +kernel
theorem dX7_grow_50 : decode cX7_grow 50 = .ok (.iinc 3 1, 3) := by decide +kernel
theorem dX7_grow_53 : decode cX7_grow 53 = .ok (.goto (-41), 3) := by decide +kernel
theorem dX7_grow_56 : decode cX7_grow 56 = .ok (.return_, 1) := by decide +kernel
theorem dX7_allHold_0 : decode cX7_allHold 0 = .ok (.iconst 0, 1) := by decide +kernel
theorem dX7_allHold_1 : decode cX7_allHold 1 = .ok (.istore_n 1, 1) := by decide +kernel
theorem dX7_allHold_2 : decode cX7_allHold 2 = .ok (.iload_n 1, 1) := by decide +kernel
theorem dX7_allHold_3 : decode cX7_allHold 3 = .ok (.aload_n 0, 1) := by decide +kernel
theorem dX7_allHold_4 : decode cX7_allHold 4 = .ok (.getfield 47, 3) := by decide +kernel
theorem dX7_allHold_7 : decode cX7_allHold 7 = .ok (.if_icmp .ge 37, 3) := by decide +kernel
theorem dX7_allHold_10 : decode cX7_allHold 10 = .ok (.aload_n 0, 1) := by decide +kernel
theorem dX7_allHold_11 : decode cX7_allHold 11 = .ok (.getfield 21, 3) := by decide +kernel
theorem dX7_allHold_14 : decode cX7_allHold 14 = .ok (.getfield 50, 3) := by decide +kernel
theorem dX7_allHold_17 : decode cX7_allHold 17 = .ok (.aload_n 0, 1) := by decide +kernel
theorem dX7_allHold_18 : decode cX7_allHold 18 = .ok (.getfield 15, 3) := by decide +kernel
theorem dX7_allHold_21 : decode cX7_allHold 21 = .ok (.iload_n 1, 1) := by decide +kernel
theorem dX7_allHold_22 : decode cX7_allHold 22 = .ok (.iaload, 1) := by decide +kernel
theorem dX7_allHold_23 : decode cX7_allHold 23 = .ok (.aaload, 1) := by decide +kernel
theorem dX7_allHold_24 : decode cX7_allHold 24 = .ok (.aload_n 0, 1) := by decide +kernel
theorem dX7_allHold_25 : decode cX7_allHold 25 = .ok (.getfield 18, 3) := by decide +kernel
theorem dX7_allHold_28 : decode cX7_allHold 28 = .ok (.iload_n 1, 1) := by decide +kernel
theorem dX7_allHold_29 : decode cX7_allHold 29 = .ok (.iaload, 1) := by decide +kernel
theorem dX7_allHold_30 : decode cX7_allHold 30 = .ok (.invokevirtual 87, 3) := by decide +kernel
theorem dX7_allHold_33 : decode cX7_allHold 33 = .ok (.ifCond .ne 5, 3) := by decide +kernel
theorem dX7_allHold_36 : decode cX7_allHold 36 = .ok (.iconst 0, 1) := by decide +kernel
theorem dX7_allHold_37 : decode cX7_allHold 37 = .ok (.ireturn, 1) := by decide +kernel
theorem dX7_allHold_38 : decode cX7_allHold 38 = .ok (.iinc 1 1, 3) := by decide +kernel
theorem dX7_allHold_41 : decode cX7_allHold 41 = .ok (.goto (-39), 3) := by decide +kernel
theorem dX7_allHold_44 : decode cX7_allHold 44 = .ok (.iconst 1, 1) := by decide +kernel
theorem dX7_allHold_45 : decode cX7_allHold 45 = .ok (.ireturn, 1) := by decide +kernel
theorem dX7_holding_0 : decode cX7_holding 0 = .ok (.iconst 0, 1) := by decide +kernel
theorem dX7_holding_1 : decode cX7_holding 1 = .ok (.istore_n 1, 1) := by decide +kernel
theorem dX7_holding_2 : decode cX7_holding 2 = .ok (.iconst 0, 1) := by decide +kernel
theorem dX7_holding_3 : decode cX7_holding 3 = .ok (.istore_n 2, 1) := by decide +kernel
theorem dX7_holding_4 : decode cX7_holding 4 = .ok (.iload_n 2, 1) := by decide +kernel
theorem dX7_holding_5 : decode cX7_holding 5 = .ok (.aload_n 0, 1) := by decide +kernel
theorem dX7_holding_6 : decode cX7_holding 6 = .ok (.getfield 47, 3) := by decide +kernel
theorem dX7_holding_9 : decode cX7_holding 9 = .ok (.if_icmp .ge 46, 3) := by decide +kernel
theorem dX7_holding_12 : decode cX7_holding 12 = .ok (.aload_n 0, 1) := by decide +kernel
theorem dX7_holding_13 : decode cX7_holding 13 = .ok (.getfield 21, 3) := by decide +kernel
theorem dX7_holding_16 : decode cX7_holding 16 = .ok (.getfield 50, 3) := by decide +kernel
theorem dX7_holding_19 : decode cX7_holding 19 = .ok (.aload_n 0, 1) := by decide +kernel
theorem dX7_holding_20 : decode cX7_holding 20 = .ok (.getfield 15, 3) := by decide +kernel
theorem dX7_holding_23 : decode cX7_holding 23 = .ok (.iload_n 2, 1) := by decide +kernel
theorem dX7_holding_24 : decode cX7_holding 24 = .ok (.iaload, 1) := by decide +kernel
theorem dX7_holding_25 : decode cX7_holding 25 = .ok (.aaload, 1) := by decide +kernel
theorem dX7_holding_26 : decode cX7_holding 26 = .ok (.aload_n 0, 1) := by decide +kernel
theorem dX7_holding_27 : decode cX7_holding 27 = .ok (.getfield 18, 3) := by decide +kernel
theorem dX7_holding_30 : decode cX7_holding 30 = .ok (.iload_n 2, 1) := by decide +kernel
theorem dX7_holding_31 : decode cX7_holding 31 = .ok (.iaload, 1) := by decide +kernel
theorem dX7_holding_32 : decode cX7_holding 32 = .ok (.invokevirtual 87, 3) := by decide +kernel
theorem dX7_holding_35 : decode cX7_holding 35 = .ok (.ifCond .eq 14, 3) := by decide +kernel
theorem dX7_holding_38 : decode cX7_holding 38 = .ok (.iload_n 1, 1) := by decide +kernel
theorem dX7_holding_39 : decode cX7_holding 39 = .ok (.iconst 1, 1) := by decide +kernel
theorem dX7_holding_40 : decode cX7_holding 40 = .ok (.aload_n 0, 1) := by decide +kernel
theorem dX7_holding_41 : decode cX7_holding 41 = .ok (.getfield 15, 3) := by decide +kernel
theorem dX7_holding_44 : decode cX7_holding 44 = .ok (.iload_n 2, 1) := by decide +kernel
theorem dX7_holding_45 : decode cX7_holding 45 = .ok (.iaload, 1) := by decide +kernel
theorem dX7_holding_46 : decode cX7_holding 46 = .ok (.ishl, 1) := by decide +kernel
theorem dX7_holding_47 : decode cX7_holding 47 = .ok (.ior, 1) := by decide +kernel
theorem dX7_holding_48 : decode cX7_holding 48 = .ok (.istore_n 1, 1) := by decide +kernel
theorem dX7_holding_49 : decode cX7_holding 49 = .ok (.iinc 2 1, 3) := by decide +kernel
theorem dX7_holding_52 : decode cX7_holding 52 = .ok (.goto (-48), 3) := by decide +kernel
theorem dX7_holding_55 : decode cX7_holding 55 = .ok (.iload_n 1, 1) := by decide +kernel
theorem dX7_holding_56 : decode cX7_holding 56 = .ok (.ireturn, 1) := by decide +kernel
theorem dX7_offByOne_0 : decode cX7_offByOne 0 = .ok (.iconst 0, 1) := by decide +kernel
theorem dX7_offByOne_1 : decode cX7_offByOne 1 = .ok (.istore_n 1, 1) := by decide +kernel
theorem dX7_offByOne_2 : decode cX7_offByOne 2 = .ok (.iconst 0, 1) := by decide +kernel
theorem dX7_offByOne_3 : decode cX7_offByOne 3 = .ok (.istore_n 2, 1) := by decide +kernel
theorem dX7_offByOne_4 : decode cX7_offByOne 4 = .ok (.iload_n 2, 1) := by decide +kernel
theorem dX7_offByOne_5 : decode cX7_offByOne 5 = .ok (.aload_n 0, 1) := by decide +kernel
theorem dX7_offByOne_6 : decode cX7_offByOne 6 = .ok (.getfield 47, 3) := by decide +kernel
theorem dX7_offByOne_9 : decode cX7_offByOne 9 = .ok (.if_icmp .ge 77, 3) := by decide +kernel
theorem dX7_offByOne_12 : decode cX7_offByOne 12 = .ok (.aload_n 0, 1) := by decide +kernel
theorem dX7_offByOne_13 : decode cX7_offByOne 13 = .ok (.getfield 21, 3) := by decide +kernel
theorem dX7_offByOne_16 : decode cX7_offByOne 16 = .ok (.getfield 50, 3) := by decide +kernel
theorem dX7_offByOne_19 : decode cX7_offByOne 19 = .ok (.aload_n 0, 1) := by decide +kernel
theorem dX7_offByOne_20 : decode cX7_offByOne 20 = .ok (.getfield 15, 3) := by decide +kernel
theorem dX7_offByOne_23 : decode cX7_offByOne 23 = .ok (.iload_n 2, 1) := by decide +kernel
theorem dX7_offByOne_24 : decode cX7_offByOne 24 = .ok (.iaload, 1) := by decide +kernel
theorem dX7_offByOne_25 : decode cX7_offByOne 25 = .ok (.aaload, 1) := by decide +kernel
theorem dX7_offByOne_26 : decode cX7_offByOne 26 = .ok (.astore_n 3, 1) := by decide +kernel
theorem dX7_offByOne_27 : decode cX7_offByOne 27 = .ok (.aload_n 3, 1) := by decide +kernel
theorem dX7_offByOne_28 : decode cX7_offByOne 28 = .ok (.aload_n 0, 1) := by decide +kernel
theorem dX7_offByOne_29 : decode cX7_offByOne 29 = .ok (.getfield 18, 3) := by decide +kernel
theorem dX7_offByOne_32 : decode cX7_offByOne 32 = .ok (.iload_n 2, 1) := by decide +kernel
theorem dX7_offByOne_33 : decode cX7_offByOne 33 = .ok (.iaload, 1) := by decide +kernel
theorem dX7_offByOne_34 : decode cX7_offByOne 34 = .ok (.invokevirtual 87, 3) := by decide +kernel
theorem dX7_offByOne_37 : decode cX7_offByOne 37 = .ok (.ifCond .ne 43, 3) := by decide +kernel
theorem dX7_offByOne_40 : decode cX7_offByOne 40 = .ok (.aload_n 3, 1) := by decide +kernel
theorem dX7_offByOne_41 : decode cX7_offByOne 41 = .ok (.getfield 90, 3) := by decide +kernel
theorem dX7_offByOne_44 : decode cX7_offByOne 44 = .ok (.ifCond .ne 23, 3) := by decide +kernel
theorem dX7_offByOne_47 : decode cX7_offByOne 47 = .ok (.aload_n 0, 1) := by decide +kernel
theorem dX7_offByOne_48 : decode cX7_offByOne 48 = .ok (.getfield 18, 3) := by decide +kernel
theorem dX7_offByOne_51 : decode cX7_offByOne 51 = .ok (.iload_n 2, 1) := by decide +kernel
theorem dX7_offByOne_52 : decode cX7_offByOne 52 = .ok (.iaload, 1) := by decide +kernel
theorem dX7_offByOne_53 : decode cX7_offByOne 53 = .ok (.iconst 1, 1) := by decide +kernel
theorem dX7_offByOne_54 : decode cX7_offByOne 54 = .ok (.if_icmp .eq 15, 3) := by decide +kernel
theorem dX7_offByOne_57 : decode cX7_offByOne 57 = .ok (.aload_n 0, 1) := by decide +kernel
theorem dX7_offByOne_58 : decode cX7_offByOne 58 = .ok (.getfield 18, 3) := by decide +kernel
theorem dX7_offByOne_61 : decode cX7_offByOne 61 = .ok (.iload_n 2, 1) := by decide +kernel
theorem dX7_offByOne_62 : decode cX7_offByOne 62 = .ok (.iaload, 1) := by decide +kernel
theorem dX7_offByOne_63 : decode cX7_offByOne 63 = .ok (.iconst (-1), 1) := by decide +kernel
theorem dX7_offByOne_64 : decode cX7_offByOne 64 = .ok (.if_icmp .eq 5, 3) := by decide +kernel
theorem dX7_offByOne_67 : decode cX7_offByOne 67 = .ok (.iconst (-1), 1) := by decide +kernel
theorem dX7_offByOne_68 : decode cX7_offByOne 68 = .ok (.ireturn, 1) := by decide +kernel
theorem dX7_offByOne_69 : decode cX7_offByOne 69 = .ok (.iload_n 1, 1) := by decide +kernel
theorem dX7_offByOne_70 : decode cX7_offByOne 70 = .ok (.iconst 1, 1) := by decide +kernel
theorem dX7_offByOne_71 : decode cX7_offByOne 71 = .ok (.aload_n 0, 1) := by decide +kernel
theorem dX7_offByOne_72 : decode cX7_offByOne 72 = .ok (.getfield 15, 3) := by decide +kernel
theorem dX7_offByOne_75 : decode cX7_offByOne 75 = .ok (.iload_n 2, 1) := by decide +kernel
theorem dX7_offByOne_76 : decode cX7_offByOne 76 = .ok (.iaload, 1) := by decide +kernel
theorem dX7_offByOne_77 : decode cX7_offByOne 77 = .ok (.ishl, 1) := by decide +kernel
theorem dX7_offByOne_78 : decode cX7_offByOne 78 = .ok (.ior, 1) := by decide +kernel
theorem dX7_offByOne_79 : decode cX7_offByOne 79 = .ok (.istore_n 1, 1) := by decide +kernel
theorem dX7_offByOne_80 : decode cX7_offByOne 80 = .ok (.iinc 2 1, 3) := by decide +kernel
theorem dX7_offByOne_83 : decode cX7_offByOne 83 = .ok (.goto (-79), 3) := by decide +kernel
theorem dX7_offByOne_86 : decode cX7_offByOne 86 = .ok (.iload_n 1, 1) := by decide +kernel
theorem dX7_offByOne_87 : decode cX7_offByOne 87 = .ok (.ireturn, 1) := by decide +kernel
theorem dX8_init_0 : decode cX8_init 0 = .ok (.aload_n 0, 1) := by decide +kernel
theorem dX8_init_1 : decode cX8_init 1 = .ok (.invokespecial 3, 3) := by decide +kernel
theorem dX8_init_4 : decode cX8_init 4 = .ok (.aload_n 0, 1) := by decide +kernel
theorem dX8_init_5 : decode cX8_init 5 = .ok (.bipush 6, 2) := by decide +kernel
theorem dX8_init_7 : decode cX8_init 7 = .ok (.newarray .int, 2) := by decide +kernel
theorem dX8_init_9 : decode cX8_init 9 = .ok (.putfield 9, 3) := by decide +kernel
theorem dX8_init_12 : decode cX8_init 12 = .ok (.return_, 1) := by decide +kernel
theorem dX8_find_0 : decode cX8_find 0 = .ok (.aload_n 0, 1) := by decide +kernel
theorem dX8_find_1 : decode cX8_find 1 = .ok (.bipush 61, 2) := by decide +kernel
theorem dX8_find_3 : decode cX8_find 3 = .ok (.putfield 15, 3) := by decide +kernel
theorem dX8_find_6 : decode cX8_find 6 = .ok (.iconst 0, 1) := by decide +kernel
theorem dX8_find_7 : decode cX8_find 7 = .ok (.istore_n 3, 1) := by decide +kernel
theorem dX8_find_8 : decode cX8_find 8 = .ok (.iload_n 3, 1) := by decide +kernel
theorem dX8_find_9 : decode cX8_find 9 = .ok (.bipush 6, 2) := by decide +kernel
theorem dX8_find_11 : decode cX8_find 11 = .ok (.if_icmp .ge 27, 3) := by decide +kernel
theorem dX8_find_14 : decode cX8_find 14 = .ok (.aload_n 0, 1) := by decide +kernel
theorem dX8_find_15 : decode cX8_find 15 = .ok (.getfield 9, 3) := by decide +kernel
theorem dX8_find_18 : decode cX8_find 18 = .ok (.iload_n 3, 1) := by decide +kernel
theorem dX8_find_19 : decode cX8_find 19 = .ok (.aload_n 1, 1) := by decide +kernel
theorem dX8_find_20 : decode cX8_find 20 = .ok (.iconst 0, 1) := by decide +kernel
theorem dX8_find_21 : decode cX8_find 21 = .ok (.iload_n 3, 1) := by decide +kernel
theorem dX8_find_22 : decode cX8_find 22 = .ok (.invokevirtual 19, 3) := by decide +kernel
theorem dX8_find_25 : decode cX8_find 25 = .ok (.aload_n 2, 1) := by decide +kernel
theorem dX8_find_26 : decode cX8_find 26 = .ok (.iload_n 3, 1) := by decide +kernel
theorem dX8_find_27 : decode cX8_find 27 = .ok (.invokevirtual 25, 3) := by decide +kernel
theorem dX8_find_30 : decode cX8_find 30 = .ok (.iadd, 1) := by decide +kernel
theorem dX8_find_31 : decode cX8_find 31 = .ok (.iastore, 1) := by decide +kernel
theorem dX8_find_32 : decode cX8_find 32 = .ok (.iinc 3 1, 3) := by decide +kernel
theorem dX8_find_35 : decode cX8_find 35 = .ok (.goto (-27), 3) := by decide +kernel
theorem dX8_find_38 : decode cX8_find 38 = .ok (.iconst 0, 1) := by decide +kernel
theorem dX8_find_39 : decode cX8_find 39 = .ok (.istore_n 3, 1) := by decide +kernel
theorem dX8_find_40 : decode cX8_find 40 = .ok (.iload_n 3, 1) := by decide +kernel
theorem dX8_find_41 : decode cX8_find 41 = .ok (.bipush 6, 2) := by decide +kernel
theorem dX8_find_43 : decode cX8_find 43 = .ok (.if_icmp .ge 32, 3) := by decide +kernel
theorem dX8_find_46 : decode cX8_find 46 = .ok (.aload_n 2, 1) := by decide +kernel
theorem dX8_find_47 : decode cX8_find 47 = .ok (.iload_n 3, 1) := by decide +kernel
theorem dX8_find_48 : decode cX8_find 48 = .ok (.invokevirtual 31, 3) := by decide +kernel
theorem dX8_find_51 : decode cX8_find 51 = .ok (.ifCond .eq 18, 3) := by decide +kernel
theorem dX8_find_54 : decode cX8_find 54 = .ok (.aload_n 0, 1) := by decide +kernel
theorem dX8_find_55 : decode cX8_find 55 = .ok (.aload_n 1, 1) := by decide +kernel
theorem dX8_find_56 : decode cX8_find 56 = .ok (.aload_n 2, 1) := by decide +kernel
theorem dX8_find_57 : decode cX8_find 57 = .ok (.iconst 0, 1) := by decide +kernel
theorem dX8_find_58 : decode cX8_find 58 = .ok (.iload_n 3, 1) := by decide +kernel
theorem dX8_find_59 : decode cX8_find 59 = .ok (.iload_n 3, 1) := by decide +kernel
theorem dX8_find_60 : decode cX8_find 60 = .ok (.aload_n 0, 1) := by decide +kernel
theorem dX8_find_61 : decode cX8_find 61 = .ok (.getfield 9, 3) := by decide +kernel
theorem dX8_find_64 : decode cX8_find 64 = .ok (.iload_n 3, 1) := by decide +kernel
theorem dX8_find_65 : decode cX8_find 65 = .ok (.iaload, 1) := by decide +kernel
theorem dX8_find_66 : decode cX8_find 66 = .ok (.invokevirtual 35, 3) := by decide +kernel
theorem dX8_find_69 : decode cX8_find 69 = .ok (.iinc 3 1, 3) := by decide +kernel
theorem dX8_find_72 : decode cX8_find 72 = .ok (.goto (-32), 3) := by decide +kernel
theorem dX8_find_75 : decode cX8_find 75 = .ok (.aload_n 0, 1) := by decide +kernel
theorem dX8_find_76 : decode cX8_find 76 = .ok (.aload_n 1, 1) := by decide +kernel
theorem dX8_find_77 : decode cX8_find 77 = .ok (.aload_n 2, 1) := by decide +kernel
theorem dX8_find_78 : decode cX8_find 78 = .ok (.iconst 1, 1) := by decide +kernel
theorem dX8_find_79 : decode cX8_find 79 = .ok (.invokevirtual 39, 3) := by decide +kernel
theorem dX8_find_82 : decode cX8_find 82 = .ok (.aload_n 0, 1) := by decide +kernel
theorem dX8_find_83 : decode cX8_find 83 = .ok (.aload_n 1, 1) := by decide +kernel
theorem dX8_find_84 : decode cX8_find 84 = .ok (.aload_n 2, 1) := by decide +kernel
theorem dX8_find_85 : decode cX8_find 85 = .ok (.iconst 2, 1) := by decide +kernel
theorem dX8_find_86 : decode cX8_find 86 = .ok (.invokevirtual 39, 3) := by decide +kernel
theorem dX8_find_89 : decode cX8_find 89 = .ok (.aload_n 0, 1) := by decide +kernel
theorem dX8_find_90 : decode cX8_find 90 = .ok (.getfield 15, 3) := by decide +kernel
theorem dX8_find_93 : decode cX8_find 93 = .ok (.bipush 60, 2) := by decide +kernel
theorem dX8_find_95 : decode cX8_find 95 = .ok (.if_icmp .gt 7, 3) := by decide +kernel
theorem dX8_find_98 : decode cX8_find 98 = .ok (.iconst 1, 1) := by decide +kernel
theorem dX8_find_99 : decode cX8_find 99 = .ok (.goto 4, 3) := by decide +kernel
theorem dX8_find_102 : decode cX8_find 102 = .ok (.iconst 0, 1) := by decide +kernel
theorem dX8_find_103 : decode cX8_find 103 = .ok (.ireturn, 1) := by decide +kernel
theorem dX8_offerPairs_0 : decode cX8_offerPairs 0 = .ok (.iconst 0, 1) := by decide +kernel
theorem dX8_offerPairs_1 : decode cX8_offerPairs 1 = .ok (.istore 4, 2) := by decide +kernel
theorem dX8_offerPairs_3 : decode cX8_offerPairs 3 = .ok (.iload 4, 2) := by decide +kernel
theorem dX8_offerPairs_5 : decode cX8_offerPairs 5 = .ok (.bipush 6, 2) := by decide +kernel
theorem dX8_offerPairs_7 : decode cX8_offerPairs 7 = .ok (.if_icmp .ge 88, 3) := by decide +kernel
theorem dX8_offerPairs_10 : decode cX8_offerPairs 10 = .ok (.iconst 0, 1) := by decide +kernel
theorem dX8_offerPairs_11 : decode cX8_offerPairs 11 = .ok (.istore 5, 2) := by decide +kernel
theorem dX8_offerPairs_13 : decode cX8_offerPairs 13 = .ok (.iload 5, 2) := by decide +kernel
theorem dX8_offerPairs_15 : decode cX8_offerPairs 15 = .ok (.bipush 6, 2) := by decide +kernel
theorem dX8_offerPairs_17 : decode cX8_offerPairs 17 = .ok (.if_icmp .ge 72, 3) := by decide +kernel
theorem dX8_offerPairs_20 : decode cX8_offerPairs 20 = .ok (.iload_n 3, 1) := by decide +kernel
theorem dX8_offerPairs_21 : decode cX8_offerPairs 21 = .ok (.aload_n 0, 1) := by decide +kernel
theorem dX8_offerPairs_22 : decode cX8_offerPairs 22 = .ok (.getfield 9, 3) := by decide +kernel
theorem dX8_offerPairs_25 : decode cX8_offerPairs 25 = .ok (.iload 4, 2) := by decide +kernel
theorem dX8_offerPairs_27 : decode cX8_offerPairs 27 = .ok (.iaload, 1) := by decide +kernel
theorem dX8_offerPairs_28 : decode cX8_offerPairs 28 = .ok (.aload_n 0, 1) := by decide +kernel
theorem dX8_offerPairs_29 : decode cX8_offerPairs 29 = .ok (.getfield 9, 3) := by decide +kernel
theorem dX8_offerPairs_32 : decode cX8_offerPairs 32 = .ok (.iload 5, 2) := by decide +kernel
theorem dX8_offerPairs_34 : decode cX8_offerPairs 34 = .ok (.iaload, 1) := by decide +kernel
theorem dX8_offerPairs_35 : decode cX8_offerPairs 35 = .ok (.invokestatic 43, 3) := by decide +kernel
theorem dX8_offerPairs_38 : decode cX8_offerPairs 38 = .ok (.istore 6, 2) := by decide +kernel
theorem dX8_offerPairs_40 : decode cX8_offerPairs 40 = .ok (.aload_n 2, 1) := by decide +kernel
theorem dX8_offerPairs_41 : decode cX8_offerPairs 41 = .ok (.iload 4, 2) := by decide +kernel
theorem dX8_offerPairs_43 : decode cX8_offerPairs 43 = .ok (.invokevirtual 31, 3) := by decide +kernel
theorem dX8_offerPairs_46 : decode cX8_offerPairs 46 = .ok (.ifCond .eq 37, 3) := by decide +kernel
theorem dX8_offerPairs_49 : decode cX8_offerPairs 49 = .ok (.aload_n 2, 1) := by decide +kernel
theorem dX8_offerPairs_50 : decode cX8_offerPairs 50 = .ok (.iload 5, 2) := by decide +kernel
theorem dX8_offerPairs_52 : decode cX8_offerPairs 52 = .ok (.invokevirtual 31, 3) := by decide +kernel
theorem dX8_offerPairs_55 : decode cX8_offerPairs 55 = .ok (.ifCond .eq 28, 3) := by decide +kernel
theorem dX8_offerPairs_58 : decode cX8_offerPairs 58 = .ok (.iload 4, 2) := by decide +kernel
theorem dX8_offerPairs_60 : decode cX8_offerPairs 60 = .ok (.iload 5, 2) := by decide +kernel
theorem dX8_offerPairs_62 : decode cX8_offerPairs 62 = .ok (.if_icmp .eq 21, 3) := by decide +kernel
theorem dX8_offerPairs_65 : decode cX8_offerPairs 65 = .ok (.iload 6, 2) := by decide +kernel
theorem dX8_offerPairs_67 : decode cX8_offerPairs 67 = .ok (.ifCond .le 16, 3) := by decide +kernel
theorem dX8_offerPairs_70 : decode cX8_offerPairs 70 = .ok (.aload_n 0, 1) := by decide +kernel
theorem dX8_offerPairs_71 : decode cX8_offerPairs 71 = .ok (.aload_n 1, 1) := by decide +kernel
theorem dX8_offerPairs_72 : decode cX8_offerPairs 72 = .ok (.aload_n 2, 1) := by decide +kernel
theorem dX8_offerPairs_73 : decode cX8_offerPairs 73 = .ok (.iload_n 3, 1) := by decide +kernel
theorem dX8_offerPairs_74 : decode cX8_offerPairs 74 = .ok (.iload 4, 2) := by decide +kernel
theorem dX8_offerPairs_76 : decode cX8_offerPairs 76 = .ok (.iload 5, 2) := by decide +kernel
theorem dX8_offerPairs_78 : decode cX8_offerPairs 78 = .ok (.iload 6, 2) := by decide +kernel
theorem dX8_offerPairs_80 : decode cX8_offerPairs 80 = .ok (.invokevirtual 35, 3) := by decide +kernel
theorem dX8_offerPairs_83 : decode cX8_offerPairs 83 = .ok (.iinc 5 1, 3) := by decide +kernel
theorem dX8_offerPairs_86 : decode cX8_offerPairs 86 = .ok (.goto (-73), 3) := by decide +kernel
theorem dX8_offerPairs_89 : decode cX8_offerPairs 89 = .ok (.iinc 4 1, 3) := by decide +kernel
theorem dX8_offerPairs_92 : decode cX8_offerPairs 92 = .ok (.goto (-89), 3) := by decide +kernel
theorem dX8_offerPairs_95 : decode cX8_offerPairs 95 = .ok (.return_, 1) := by decide +kernel
theorem dX8_numberBetween_0 : decode cX8_numberBetween 0 = .ok (.iload_n 0, 1) := by decide +kernel
theorem dX8_numberBetween_1 : decode cX8_numberBetween 1 = .ok (.iconst 1, 1) := by decide +kernel
theorem dX8_numberBetween_2 : decode cX8_numberBetween 2 = .ok (.if_icmp .ne 16, 3) := by decide +kernel
theorem dX8_numberBetween_5 : decode cX8_numberBetween 5 = .ok (.iload_n 1, 1) := by decide +kernel
theorem dX8_numberBetween_6 : decode cX8_numberBetween 6 = .ok (.iload_n 2, 1) := by decide +kernel
theorem dX8_numberBetween_7 : decode cX8_numberBetween 7 = .ok (.if_icmp .le 9, 3) := by decide +kernel
theorem dX8_numberBetween_10 : decode cX8_numberBetween 10 = .ok (.iload_n 1, 1) := by decide +kernel
theorem dX8_numberBetween_11 : decode cX8_numberBetween 11 = .ok (.iload_n 2, 1) := by decide +kernel
theorem dX8_numberBetween_12 : decode cX8_numberBetween 12 = .ok (.isub, 1) := by decide +kernel
theorem dX8_numberBetween_13 : decode cX8_numberBetween 13 = .ok (.goto 4, 3) := by decide +kernel
theorem dX8_numberBetween_16 : decode cX8_numberBetween 16 = .ok (.iconst (-1), 1) := by decide +kernel
theorem dX8_numberBetween_17 : decode cX8_numberBetween 17 = .ok (.ireturn, 1) := by decide +kernel
theorem dX8_numberBetween_18 : decode cX8_numberBetween 18 = .ok (.iload_n 2, 1) := by decide +kernel
theorem dX8_numberBetween_19 : decode cX8_numberBetween 19 = .ok (.ifCond .le 9, 3) := by decide +kernel
theorem dX8_numberBetween_22 : decode cX8_numberBetween 22 = .ok (.iload_n 1, 1) := by decide +kernel
theorem dX8_numberBetween_23 : decode cX8_numberBetween 23 = .ok (.iload_n 2, 1) := by decide +kernel
theorem dX8_numberBetween_24 : decode cX8_numberBetween 24 = .ok (.irem, 1) := by decide +kernel
theorem dX8_numberBetween_25 : decode cX8_numberBetween 25 = .ok (.ifCond .eq 5, 3) := by decide +kernel
theorem dX8_numberBetween_28 : decode cX8_numberBetween 28 = .ok (.iconst (-1), 1) := by decide +kernel
theorem dX8_numberBetween_29 : decode cX8_numberBetween 29 = .ok (.ireturn, 1) := by decide +kernel
theorem dX8_numberBetween_30 : decode cX8_numberBetween 30 = .ok (.iload_n 1, 1) := by decide +kernel
theorem dX8_numberBetween_31 : decode cX8_numberBetween 31 = .ok (.iload_n 2, 1) := by decide +kernel
theorem dX8_numberBetween_32 : decode cX8_numberBetween 32 = .ok (.idiv, 1) := by decide +kernel
theorem dX8_numberBetween_33 : decode cX8_numberBetween 33 = .ok (.istore_n 3, 1) := by decide +kernel
theorem dX8_numberBetween_34 : decode cX8_numberBetween 34 = .ok (.iload_n 3, 1) := by decide +kernel
theorem dX8_numberBetween_35 : decode cX8_numberBetween 35 = .ok (.iconst 2, 1) := by decide +kernel
theorem dX8_numberBetween_36 : decode cX8_numberBetween 36 = .ok (.if_icmp .lt 13, 3) := by decide +kernel
theorem dX8_numberBetween_39 : decode cX8_numberBetween 39 = .ok (.iload_n 3, 1) := by decide +kernel
theorem dX8_numberBetween_40 : decode cX8_numberBetween 40 = .ok (.bipush 99, 2) := by decide +kernel
theorem dX8_numberBetween_42 : decode cX8_numberBetween 42 = .ok (.if_icmp .gt 7, 3) := by decide +kernel
theorem dX8_numberBetween_45 : decode cX8_numberBetween 45 = .ok (.iload_n 3, 1) := by decide +kernel
theorem dX8_numberBetween_46 : decode cX8_numberBetween 46 = .ok (.goto 4, 3) := by decide +kernel
theorem dX8_numberBetween_49 : decode cX8_numberBetween 49 = .ok (.iconst (-1), 1) := by decide +kernel
theorem dX8_numberBetween_50 : decode cX8_numberBetween 50 = .ok (.ireturn, 1) := by decide +kernel
theorem dX8_offer_0 : decode cX8_offer 0 = .ok (.iload 6, 2) := by decide +kernel
theorem dX8_offer_2 : decode cX8_offer 2 = .ok (.bipush 99, 2) := by decide +kernel
theorem dX8_offer_4 : decode cX8_offer 4 = .ok (.if_icmp .le 7, 3) := by decide +kernel
theorem dX8_offer_7 : decode cX8_offer 7 = .ok (.iconst 3, 1) := by decide +kernel
theorem dX8_offer_8 : decode cX8_offer 8 = .ok (.goto 15, 3) := by decide +kernel
theorem dX8_offer_11 : decode cX8_offer 11 = .ok (.iload 6, 2) := by decide +kernel
theorem dX8_offer_13 : decode cX8_offer 13 = .ok (.bipush 9, 2) := by decide +kernel
theorem dX8_offer_15 : decode cX8_offer 15 = .ok (.if_icmp .le 7, 3) := by decide +kernel
theorem dX8_offer_18 : decode cX8_offer 18 = .ok (.iconst 2, 1) := by decide +kernel
theorem dX8_offer_19 : decode cX8_offer 19 = .ok (.goto 4, 3) := by decide +kernel
theorem dX8_offer_22 : decode cX8_offer 22 = .ok (.iconst 1, 1) := by decide +kernel
theorem dX8_offer_23 : decode cX8_offer 23 = .ok (.istore 7, 2) := by decide +kernel
theorem dX8_offer_25 : decode cX8_offer 25 = .ok (.iload 7, 2) := by decide +kernel
theorem dX8_offer_27 : decode cX8_offer 27 = .ok (.iload_n 3, 1) := by decide +kernel
theorem dX8_offer_28 : decode cX8_offer 28 = .ok (.ifCond .ne 7, 3) := by decide +kernel
theorem dX8_offer_31 : decode cX8_offer 31 = .ok (.iconst 2, 1) := by decide +kernel
theorem dX8_offer_32 : decode cX8_offer 32 = .ok (.goto 4, 3) := by decide +kernel
theorem dX8_offer_35 : decode cX8_offer 35 = .ok (.iconst 4, 1) := by decide +kernel
theorem dX8_offer_36 : decode cX8_offer 36 = .ok (.iadd, 1) := by decide +kernel
theorem dX8_offer_37 : decode cX8_offer 37 = .ok (.istore 8, 2) := by decide +kernel
theorem dX8_offer_39 : decode cX8_offer 39 = .ok (.iload 8, 2) := by decide +kernel
theorem dX8_offer_41 : decode cX8_offer 41 = .ok (.aload_n 0, 1) := by decide +kernel
theorem dX8_offer_42 : decode cX8_offer 42 = .ok (.getfield 15, 3) := by decide +kernel
theorem dX8_offer_45 : decode cX8_offer 45 = .ok (.if_icmp .ge 18, 3) := by decide +kernel
theorem dX8_offer_48 : decode cX8_offer 48 = .ok (.aload_n 1, 1) := by decide +kernel
theorem dX8_offer_49 : decode cX8_offer 49 = .ok (.aload_n 2, 1) := by decide +kernel
theorem dX8_offer_50 : decode cX8_offer 50 = .ok (.iload_n 3, 1) := by decide +kernel
theorem dX8_offer_51 : decode cX8_offer 51 = .ok (.iload 4, 2) := by decide +kernel
theorem dX8_offer_53 : decode cX8_offer 53 = .ok (.iload 5, 2) := by decide +kernel
theorem dX8_offer_55 : decode cX8_offer 55 = .ok (.iload 6, 2) := by decide +kernel
theorem dX8_offer_57 : decode cX8_offer 57 = .ok (.invokestatic 47, 3) := by decide +kernel
theorem dX8_offer_60 : decode cX8_offer 60 = .ok (.ifCond .ne 4, 3) := by decide +kernel
theorem dX8_offer_63 : decode cX8_offer 63 = .ok (.return_, 1) := by decide +kernel
theorem dX8_offer_64 : decode cX8_offer 64 = .ok (.aload_n 0, 1) := by decide +kernel
theorem dX8_offer_65 : decode cX8_offer 65 = .ok (.iload 8, 2) := by decide +kernel
theorem dX8_offer_67 : decode cX8_offer 67 = .ok (.putfield 15, 3) := by decide +kernel
theorem dX8_offer_70 : decode cX8_offer 70 = .ok (.aload_n 0, 1) := by decide +kernel
theorem dX8_offer_71 : decode cX8_offer 71 = .ok (.iload_n 3, 1) := by decide +kernel
theorem dX8_offer_72 : decode cX8_offer 72 = .ok (.putfield 51, 3) := by decide +kernel
theorem dX8_offer_75 : decode cX8_offer 75 = .ok (.aload_n 0, 1) := by decide +kernel
theorem dX8_offer_76 : decode cX8_offer 76 = .ok (.iload 4, 2) := by decide +kernel
theorem dX8_offer_78 : decode cX8_offer 78 = .ok (.putfield 54, 3) := by decide +kernel
theorem dX8_offer_81 : decode cX8_offer 81 = .ok (.aload_n 0, 1) := by decide +kernel
theorem dX8_offer_82 : decode cX8_offer 82 = .ok (.iload 5, 2) := by decide +kernel
theorem dX8_offer_84 : decode cX8_offer 84 = .ok (.putfield 57, 3) := by decide +kernel
theorem dX8_offer_87 : decode cX8_offer 87 = .ok (.aload_n 0, 1) := by decide +kernel
theorem dX8_offer_88 : decode cX8_offer 88 = .ok (.iload 6, 2) := by decide +kernel
theorem dX8_offer_90 : decode cX8_offer 90 = .ok (.putfield 60, 3) := by decide +kernel
theorem dX8_offer_93 : decode cX8_offer 93 = .ok (.return_, 1) := by decide +kernel
theorem dX8_leavesOne_0 : decode cX8_leavesOne 0 = .ok (.iconst 0, 1) := by decide +kernel
theorem dX8_leavesOne_1 : decode cX8_leavesOne 1 = .ok (.istore 6, 2) := by decide +kernel
theorem dX8_leavesOne_3 : decode cX8_leavesOne 3 = .ok (.iconst 0, 1) := by decide +kernel
theorem dX8_leavesOne_4 : decode cX8_leavesOne 4 = .ok (.istore 7, 2) := by decide +kernel
theorem dX8_leavesOne_6 : decode cX8_leavesOne 6 = .ok (.iload 7, 2) := by decide +kernel
theorem dX8_leavesOne_8 : decode cX8_leavesOne 8 = .ok (.aload_n 0, 1) := by decide +kernel
theorem dX8_leavesOne_9 : decode cX8_leavesOne 9 = .ok (.getfield 63, 3) := by decide +kernel
theorem dX8_leavesOne_12 : decode cX8_leavesOne 12 = .ok (.if_icmp .ge 93, 3) := by decide +kernel
theorem dX8_leavesOne_15 : decode cX8_leavesOne 15 = .ok (.iload 6, 2) := by decide +kernel
theorem dX8_leavesOne_17 : decode cX8_leavesOne 17 = .ok (.iconst 2, 1) := by decide +kernel
theorem dX8_leavesOne_18 : decode cX8_leavesOne 18 = .ok (.if_icmp .ge 87, 3) := by decide +kernel
theorem dX8_leavesOne_21 : decode cX8_leavesOne 21 = .ok (.aload_n 0, 1) := by decide +kernel
theorem dX8_leavesOne_22 : decode cX8_leavesOne 22 = .ok (.iload 7, 2) := by decide +kernel
theorem dX8_leavesOne_24 : decode cX8_leavesOne 24 = .ok (.iload_n 3, 1) := by decide +kernel
theorem dX8_leavesOne_25 : decode cX8_leavesOne 25 = .ok (.invokevirtual 19, 3) := by decide +kernel
theorem dX8_leavesOne_28 : decode cX8_leavesOne 28 = .ok (.aload_n 1, 1) := by decide +kernel
theorem dX8_leavesOne_29 : decode cX8_leavesOne 29 = .ok (.iload_n 3, 1) := by decide +kernel
theorem dX8_leavesOne_30 : decode cX8_leavesOne 30 = .ok (.invokevirtual 25, 3) := by decide +kernel
theorem dX8_leavesOne_33 : decode cX8_leavesOne 33 = .ok (.iadd, 1) := by decide +kernel
theorem dX8_leavesOne_34 : decode cX8_leavesOne 34 = .ok (.istore 8, 2) := by decide +kernel
theorem dX8_leavesOne_36 : decode cX8_leavesOne 36 = .ok (.aload_n 0, 1) := by decide +kernel
theorem dX8_leavesOne_37 : decode cX8_leavesOne 37 = .ok (.iload 7, 2) := by decide +kernel
theorem dX8_leavesOne_39 : decode cX8_leavesOne 39 = .ok (.iload 4, 2) := by decide +kernel
theorem dX8_leavesOne_41 : decode cX8_leavesOne 41 = .ok (.invokevirtual 19, 3) := by decide +kernel
theorem dX8_leavesOne_44 : decode cX8_leavesOne 44 = .ok (.aload_n 1, 1) := by decide +kernel
theorem dX8_leavesOne_45 : decode cX8_leavesOne 45 = .ok (.iload 4, 2) := by decide +kernel
theorem dX8_leavesOne_47 : decode cX8_leavesOne 47 = .ok (.invokevirtual 25, 3) := by decide +kernel
theorem dX8_leavesOne_50 : decode cX8_leavesOne 50 = .ok (.iadd, 1) := by decide +kernel
theorem dX8_leavesOne_51 : decode cX8_leavesOne 51 = .ok (.istore 9, 2) := by decide +kernel
theorem dX8_leavesOne_53 : decode cX8_leavesOne 53 = .ok (.iload_n 2, 1) := by decide +kernel
theorem dX8_leavesOne_54 : decode cX8_leavesOne 54 = .ok (.ifCond .ne 8, 3) := by decide +kernel
theorem dX8_leavesOne_57 : decode cX8_leavesOne 57 = .ok (.iload 5, 2) := by decide +kernel
theorem dX8_leavesOne_59 : decode cX8_leavesOne 59 = .ok (.goto 21, 3) := by decide +kernel
theorem dX8_leavesOne_62 : decode cX8_leavesOne 62 = .ok (.iload_n 2, 1) := by decide +kernel
theorem dX8_leavesOne_63 : decode cX8_leavesOne 63 = .ok (.iconst 1, 1) := by decide +kernel
theorem dX8_leavesOne_64 : decode cX8_leavesOne 64 = .ok (.if_icmp .ne 11, 3) := by decide +kernel
theorem dX8_leavesOne_67 : decode cX8_leavesOne 67 = .ok (.iload 9, 2) := by decide +kernel
theorem dX8_leavesOne_69 : decode cX8_leavesOne 69 = .ok (.iload 5, 2) := by decide +kernel
theorem dX8_leavesOne_71 : decode cX8_leavesOne 71 = .ok (.iadd, 1) := by decide +kernel
theorem dX8_leavesOne_72 : decode cX8_leavesOne 72 = .ok (.goto 8, 3) := by decide +kernel
theorem dX8_leavesOne_75 : decode cX8_leavesOne 75 = .ok (.iload 5, 2) := by decide +kernel
theorem dX8_leavesOne_77 : decode cX8_leavesOne 77 = .ok (.iload 9, 2) := by decide +kernel
theorem dX8_leavesOne_79 : decode cX8_leavesOne 79 = .ok (.imul, 1) := by decide +kernel
theorem dX8_leavesOne_80 : decode cX8_leavesOne 80 = .ok (.istore 10, 2) := by decide +kernel
theorem dX8_leavesOne_82 : decode cX8_leavesOne 82 = .ok (.iload 6, 2) := by decide +kernel
theorem dX8_leavesOne_84 : decode cX8_leavesOne 84 = .ok (.iload 8, 2) := by decide +kernel
theorem dX8_leavesOne_86 : decode cX8_leavesOne 86 = .ok (.iload 10, 2) := by decide +kernel
theorem dX8_leavesOne_88 : decode cX8_leavesOne 88 = .ok (.if_icmp .ne 7, 3) := by decide +kernel
theorem dX8_leavesOne_91 : decode cX8_leavesOne 91 = .ok (.iconst 1, 1) := by decide +kernel
theorem dX8_leavesOne_92 : decode cX8_leavesOne 92 = .ok (.goto 4, 3) := by decide +kernel
theorem dX8_leavesOne_95 : decode cX8_leavesOne 95 = .ok (.iconst 0, 1) := by decide +kernel
theorem dX8_leavesOne_96 : decode cX8_leavesOne 96 = .ok (.iadd, 1) := by decide +kernel
theorem dX8_leavesOne_97 : decode cX8_leavesOne 97 = .ok (.istore 6, 2) := by decide +kernel
theorem dX8_leavesOne_99 : decode cX8_leavesOne 99 = .ok (.iinc 7 1, 3) := by decide +kernel
theorem dX8_leavesOne_102 : decode cX8_leavesOne 102 = .ok (.goto (-96), 3) := by decide +kernel
theorem dX8_leavesOne_105 : decode cX8_leavesOne 105 = .ok (.iload 6, 2) := by decide +kernel
theorem dX8_leavesOne_107 : decode cX8_leavesOne 107 = .ok (.iconst 1, 1) := by decide +kernel
theorem dX8_leavesOne_108 : decode cX8_leavesOne 108 = .ok (.if_icmp .ne 7, 3) := by decide +kernel
theorem dX8_leavesOne_111 : decode cX8_leavesOne 111 = .ok (.iconst 1, 1) := by decide +kernel
theorem dX8_leavesOne_112 : decode cX8_leavesOne 112 = .ok (.goto 4, 3) := by decide +kernel
theorem dX8_leavesOne_115 : decode cX8_leavesOne 115 = .ok (.iconst 0, 1) := by decide +kernel
theorem dX8_leavesOne_116 : decode cX8_leavesOne 116 = .ok (.ireturn, 1) := by decide +kernel
theorem dX9_init_0 : decode cX9_init 0 = .ok (.aload_n 0, 1) := by decide +kernel
theorem dX9_init_1 : decode cX9_init 1 = .ok (.invokespecial 3, 3) := by decide +kernel
theorem dX9_init_4 : decode cX9_init 4 = .ok (.aload_n 0, 1) := by decide +kernel
theorem dX9_init_5 : decode cX9_init 5 = .ok (.bipush 6, 2) := by decide +kernel
theorem dX9_init_7 : decode cX9_init 7 = .ok (.newarray .int, 2) := by decide +kernel
theorem dX9_init_9 : decode cX9_init 9 = .ok (.putfield 9, 3) := by decide +kernel
theorem dX9_init_12 : decode cX9_init 12 = .ok (.aload_n 0, 1) := by decide +kernel
theorem dX9_init_13 : decode cX9_init 13 = .ok (.bipush 6, 2) := by decide +kernel
theorem dX9_init_15 : decode cX9_init 15 = .ok (.newarray .int, 2) := by decide +kernel
theorem dX9_init_17 : decode cX9_init 17 = .ok (.putfield 15, 3) := by decide +kernel
theorem dX9_init_20 : decode cX9_init 20 = .ok (.aload_n 0, 1) := by decide +kernel
theorem dX9_init_21 : decode cX9_init 21 = .ok (.bipush 6, 2) := by decide +kernel
theorem dX9_init_23 : decode cX9_init 23 = .ok (.newarray .int, 2) := by decide +kernel
theorem dX9_init_25 : decode cX9_init 25 = .ok (.putfield 18, 3) := by decide +kernel
theorem dX9_init_28 : decode cX9_init 28 = .ok (.aload_n 0, 1) := by decide +kernel
theorem dX9_init_29 : decode cX9_init 29 = .ok (.bipush 36, 2) := by decide +kernel
theorem dX9_init_31 : decode cX9_init 31 = .ok (.newarray .int, 2) := by decide +kernel
theorem dX9_init_33 : decode cX9_init 33 = .ok (.putfield 21, 3) := by decide +kernel
theorem dX9_init_36 : decode cX9_init 36 = .ok (.aload_n 0, 1) := by decide +kernel
theorem dX9_init_37 : decode cX9_init 37 = .ok (.bipush 16, 2) := by decide +kernel
theorem dX9_init_39 : decode cX9_init 39 = .ok (.anewarray 24, 3) := by decide +kernel
theorem dX9_init_42 : decode cX9_init 42 = .ok (.putfield 26, 3) := by decide +kernel
theorem dX9_init_45 : decode cX9_init 45 = .ok (.aload_n 0, 1) := by decide +kernel
theorem dX9_init_46 : decode cX9_init 46 = .ok (.getfield 21, 3) := by decide +kernel
theorem dX9_init_49 : decode cX9_init 49 = .ok (.iconst (-1), 1) := by decide +kernel
theorem dX9_init_50 : decode cX9_init 50 = .ok (.invokestatic 30, 3) := by decide +kernel
theorem dX9_init_53 : decode cX9_init 53 = .ok (.aload_n 0, 1) := by decide +kernel
theorem dX9_init_54 : decode cX9_init 54 = .ok (.getfield 18, 3) := by decide +kernel
theorem dX9_init_57 : decode cX9_init 57 = .ok (.bipush 100, 2) := by decide +kernel
theorem dX9_init_59 : decode cX9_init 59 = .ok (.invokestatic 30, 3) := by decide +kernel
theorem dX9_init_62 : decode cX9_init 62 = .ok (.iconst 0, 1) := by decide +kernel
theorem dX9_init_63 : decode cX9_init 63 = .ok (.istore_n 1, 1) := by decide +kernel
theorem dX9_init_64 : decode cX9_init 64 = .ok (.iload_n 1, 1) := by decide +kernel
theorem dX9_init_65 : decode cX9_init 65 = .ok (.bipush 16, 2) := by decide +kernel
theorem dX9_init_67 : decode cX9_init 67 = .ok (.if_icmp .ge 22, 3) := by decide +kernel
theorem dX9_init_70 : decode cX9_init 70 = .ok (.aload_n 0, 1) := by decide +kernel
theorem dX9_init_71 : decode cX9_init 71 = .ok (.getfield 26, 3) := by decide +kernel
theorem dX9_init_74 : decode cX9_init 74 = .ok (.iload_n 1, 1) := by decide +kernel
theorem dX9_init_75 : decode cX9_init 75 = .ok (.new 24, 3) := by decide +kernel
theorem dX9_init_78 : decode cX9_init 78 = .ok (.dup, 1) := by decide +kernel
theorem dX9_init_79 : decode cX9_init 79 = .ok (.invokespecial 36, 3) := by decide +kernel
theorem dX9_init_82 : decode cX9_init 82 = .ok (.aastore, 1) := by decide +kernel
theorem dX9_init_83 : decode cX9_init 83 = .ok (.iinc 1 1, 3) := by decide +kernel
theorem dX9_init_86 : decode cX9_init 86 = .ok (.goto (-22), 3) := by decide +kernel
theorem dX9_init_89 : decode cX9_init 89 = .ok (.return_, 1) := by decide +kernel
theorem dX9_become_0 : decode cX9_become 0 = .ok (.aload_n 1, 1) := by decide +kernel
theorem dX9_become_1 : decode cX9_become 1 = .ok (.getfield 9, 3) := by decide +kernel
theorem dX9_become_4 : decode cX9_become 4 = .ok (.iconst 0, 1) := by decide +kernel
theorem dX9_become_5 : decode cX9_become 5 = .ok (.aload_n 0, 1) := by decide +kernel
theorem dX9_become_6 : decode cX9_become 6 = .ok (.getfield 9, 3) := by decide +kernel
theorem dX9_become_9 : decode cX9_become 9 = .ok (.iconst 0, 1) := by decide +kernel
theorem dX9_become_10 : decode cX9_become 10 = .ok (.bipush 6, 2) := by decide +kernel
theorem dX9_become_12 : decode cX9_become 12 = .ok (.invokestatic 37, 3) := by decide +kernel
theorem dX9_become_15 : decode cX9_become 15 = .ok (.aload_n 1, 1) := by decide +kernel
theorem dX9_become_16 : decode cX9_become 16 = .ok (.getfield 15, 3) := by decide +kernel
theorem dX9_become_19 : decode cX9_become 19 = .ok (.iconst 0, 1) := by decide +kernel
theorem dX9_become_20 : decode cX9_become 20 = .ok (.aload_n 0, 1) := by decide +kernel
theorem dX9_become_21 : decode cX9_become 21 = .ok (.getfield 15, 3) := by decide +kernel
theorem dX9_become_24 : decode cX9_become 24 = .ok (.iconst 0, 1) := by decide +kernel
theorem dX9_become_25 : decode cX9_become 25 = .ok (.bipush 6, 2) := by decide +kernel
theorem dX9_become_27 : decode cX9_become 27 = .ok (.invokestatic 37, 3) := by decide +kernel
theorem dX9_become_30 : decode cX9_become 30 = .ok (.aload_n 1, 1) := by decide +kernel
theorem dX9_become_31 : decode cX9_become 31 = .ok (.getfield 18, 3) := by decide +kernel
theorem dX9_become_34 : decode cX9_become 34 = .ok (.iconst 0, 1) := by decide +kernel
theorem dX9_become_35 : decode cX9_become 35 = .ok (.aload_n 0, 1) := by decide +kernel
theorem dX9_become_36 : decode cX9_become 36 = .ok (.getfield 18, 3) := by decide +kernel
theorem dX9_become_39 : decode cX9_become 39 = .ok (.iconst 0, 1) := by decide +kernel
theorem dX9_become_40 : decode cX9_become 40 = .ok (.bipush 6, 2) := by decide +kernel
theorem dX9_become_42 : decode cX9_become 42 = .ok (.invokestatic 37, 3) := by decide +kernel
theorem dX9_become_45 : decode cX9_become 45 = .ok (.aload_n 1, 1) := by decide +kernel
theorem dX9_become_46 : decode cX9_become 46 = .ok (.getfield 21, 3) := by decide +kernel
theorem dX9_become_49 : decode cX9_become 49 = .ok (.iconst 0, 1) := by decide +kernel
theorem dX9_become_50 : decode cX9_become 50 = .ok (.aload_n 0, 1) := by decide +kernel
theorem dX9_become_51 : decode cX9_become 51 = .ok (.getfield 21, 3) := by decide +kernel
theorem dX9_become_54 : decode cX9_become 54 = .ok (.iconst 0, 1) := by decide +kernel
theorem dX9_become_55 : decode cX9_become 55 = .ok (.bipush 36, 2) := by decide +kernel
theorem dX9_become_57 : decode cX9_become 57 = .ok (.invokestatic 37, 3) := by decide +kernel
theorem dX9_become_60 : decode cX9_become 60 = .ok (.iconst 0, 1) := by decide +kernel
theorem dX9_become_61 : decode cX9_become 61 = .ok (.istore_n 2, 1) := by decide +kernel
theorem dX9_become_62 : decode cX9_become 62 = .ok (.iload_n 2, 1) := by decide +kernel
theorem dX9_become_63 : decode cX9_become 63 = .ok (.bipush 16, 2) := by decide +kernel
theorem dX9_become_65 : decode cX9_become 65 = .ok (.if_icmp .ge 24, 3) := by decide +kernel
theorem dX9_become_68 : decode cX9_become 68 = .ok (.aload_n 0, 1) := by decide +kernel
theorem dX9_become_69 : decode cX9_become 69 = .ok (.getfield 26, 3) := by decide +kernel
theorem dX9_become_72 : decode cX9_become 72 = .ok (.iload_n 2, 1) := by decide +kernel
theorem dX9_become_73 : decode cX9_become 73 = .ok (.aaload, 1) := by decide +kernel
theorem dX9_become_74 : decode cX9_become 74 = .ok (.aload_n 1, 1) := by decide +kernel
theorem dX9_become_75 : decode cX9_become 75 = .ok (.getfield 26, 3) := by decide +kernel
theorem dX9_become_78 : decode cX9_become 78 = .ok (.iload_n 2, 1) := by decide +kernel
theorem dX9_become_79 : decode cX9_become 79 = .ok (.aaload, 1) := by decide +kernel
theorem dX9_become_80 : decode cX9_become 80 = .ok (.invokevirtual 43, 3) := by decide +kernel
theorem dX9_become_83 : decode cX9_become 83 = .ok (.iinc 2 1, 3) := by decide +kernel
theorem dX9_become_86 : decode cX9_become 86 = .ok (.goto (-24), 3) := by decide +kernel
theorem dX9_become_89 : decode cX9_become 89 = .ok (.aload_n 0, 1) := by decide +kernel
theorem dX9_become_90 : decode cX9_become 90 = .ok (.aload_n 1, 1) := by decide +kernel
theorem dX9_become_91 : decode cX9_become 91 = .ok (.getfield 47, 3) := by decide +kernel
theorem dX9_become_94 : decode cX9_become 94 = .ok (.putfield 47, 3) := by decide +kernel
theorem dX9_become_97 : decode cX9_become 97 = .ok (.aload_n 0, 1) := by decide +kernel
theorem dX9_become_98 : decode cX9_become 98 = .ok (.aload_n 1, 1) := by decide +kernel
theorem dX9_become_99 : decode cX9_become 99 = .ok (.getfield 51, 3) := by decide +kernel
theorem dX9_become_102 : decode cX9_become 102 = .ok (.putfield 51, 3) := by decide +kernel
theorem dX9_become_105 : decode cX9_become 105 = .ok (.aload_n 0, 1) := by decide +kernel
theorem dX9_become_106 : decode cX9_become 106 = .ok (.aload_n 1, 1) := by decide +kernel
theorem dX9_become_107 : decode cX9_become 107 = .ok (.getfield 54, 3) := by decide +kernel
theorem dX9_become_110 : decode cX9_become 110 = .ok (.putfield 54, 3) := by decide +kernel
theorem dX9_become_113 : decode cX9_become 113 = .ok (.return_, 1) := by decide +kernel
theorem dX9_hasPerson_0 : decode cX9_hasPerson 0 = .ok (.iload_n 1, 1) := by decide +kernel
theorem dX9_hasPerson_1 : decode cX9_hasPerson 1 = .ok (.ifCond .lt 24, 3) := by decide +kernel
theorem dX9_hasPerson_4 : decode cX9_hasPerson 4 = .ok (.iload_n 1, 1) := by decide +kernel
theorem dX9_hasPerson_5 : decode cX9_hasPerson 5 = .ok (.bipush 6, 2) := by decide +kernel
theorem dX9_hasPerson_7 : decode cX9_hasPerson 7 = .ok (.if_icmp .ge 18, 3) := by decide +kernel
theorem dX9_hasPerson_10 : decode cX9_hasPerson 10 = .ok (.aload_n 0, 1) := by decide +kernel
theorem dX9_hasPerson_11 : decode cX9_hasPerson 11 = .ok (.getfield 47, 3) := by decide +kernel
theorem dX9_hasPerson_14 : decode cX9_hasPerson 14 = .ok (.iload_n 1, 1) := by decide +kernel
theorem dX9_hasPerson_15 : decode cX9_hasPerson 15 = .ok (.ishr, 1) := by decide +kernel
theorem dX9_hasPerson_16 : decode cX9_hasPerson 16 = .ok (.iconst 1, 1) := by decide +kernel
theorem dX9_hasPerson_17 : decode cX9_hasPerson 17 = .ok (.iand, 1) := by decide +kernel
theorem dX9_hasPerson_18 : decode cX9_hasPerson 18 = .ok (.ifCond .eq 7, 3) := by decide +kernel
theorem dX9_hasPerson_21 : decode cX9_hasPerson 21 = .ok (.iconst 1, 1) := by decide +kernel
theorem dX9_hasPerson_22 : decode cX9_hasPerson 22 = .ok (.goto 4, 3) := by decide +kernel
theorem dX9_hasPerson_25 : decode cX9_hasPerson 25 = .ok (.iconst 0, 1) := by decide +kernel
theorem dX9_hasPerson_26 : decode cX9_hasPerson 26 = .ok (.ireturn, 1) := by decide +kernel
theorem dX9_hasLine_0 : decode cX9_hasLine 0 = .ok (.iload_n 1, 1) := by decide +kernel
theorem dX9_hasLine_1 : decode cX9_hasLine 1 = .ok (.ifCond .lt 24, 3) := by decide +kernel
theorem dX9_hasLine_4 : decode cX9_hasLine 4 = .ok (.iload_n 1, 1) := by decide +kernel
theorem dX9_hasLine_5 : decode cX9_hasLine 5 = .ok (.bipush 16, 2) := by decide +kernel
theorem dX9_hasLine_7 : decode cX9_hasLine 7 = .ok (.if_icmp .ge 18, 3) := by decide +kernel
theorem dX9_hasLine_10 : decode cX9_hasLine 10 = .ok (.aload_n 0, 1) := by decide +kernel
theorem dX9_hasLine_11 : decode cX9_hasLine 11 = .ok (.getfield 51, 3) := by decide +kernel
theorem dX9_hasLine_14 : decode cX9_hasLine 14 = .ok (.iload_n 1, 1) := by decide +kernel
theorem dX9_hasLine_15 : decode cX9_hasLine 15 = .ok (.ishr, 1) := by decide +kernel
theorem dX9_hasLine_16 : decode cX9_hasLine 16 = .ok (.iconst 1, 1) := by decide +kernel
theorem dX9_hasLine_17 : decode cX9_hasLine 17 = .ok (.iand, 1) := by decide +kernel
theorem dX9_hasLine_18 : decode cX9_hasLine 18 = .ok (.ifCond .eq 7, 3) := by decide +kernel
theorem dX9_hasLine_21 : decode cX9_hasLine 21 = .ok (.iconst 1, 1) := by decide +kernel
theorem dX9_hasLine_22 : decode cX9_hasLine 22 = .ok (.goto 4, 3) := by decide +kernel
theorem dX9_hasLine_25 : decode cX9_hasLine 25 = .ok (.iconst 0, 1) := by decide +kernel
theorem dX9_hasLine_26 : decode cX9_hasLine 26 = .ok (.ireturn, 1) := by decide +kernel
theorem dX9_hasRemark_0 : decode cX9_hasRemark 0 = .ok (.iload_n 1, 1) := by decide +kernel
theorem dX9_hasRemark_1 : decode cX9_hasRemark 1 = .ok (.bipush 10, 2) := by decide +kernel
theorem dX9_hasRemark_3 : decode cX9_hasRemark 3 = .ok (.if_icmp .ge 15, 3) := by decide +kernel
theorem dX9_hasRemark_6 : decode cX9_hasRemark 6 = .ok (.aload_n 0, 1) := by decide +kernel
theorem dX9_hasRemark_7 : decode cX9_hasRemark 7 = .ok (.iload_n 1, 1) := by decide +kernel
theorem dX9_hasRemark_8 : decode cX9_hasRemark 8 = .ok (.invokevirtual 57, 3) := by decide +kernel
theorem dX9_hasRemark_11 : decode cX9_hasRemark 11 = .ok (.ifCond .eq 7, 3) := by decide +kernel
theorem dX9_hasRemark_14 : decode cX9_hasRemark 14 = .ok (.iconst 1, 1) := by decide +kernel
theorem dX9_hasRemark_15 : decode cX9_hasRemark 15 = .ok (.goto 4, 3) := by decide +kernel
theorem dX9_hasRemark_18 : decode cX9_hasRemark 18 = .ok (.iconst 0, 1) := by decide +kernel
theorem dX9_hasRemark_19 : decode cX9_hasRemark 19 = .ok (.ireturn, 1) := by decide +kernel
theorem dX9_hasForm_0 : decode cX9_hasForm 0 = .ok (.iload_n 1, 1) := by decide +kernel
theorem dX9_hasForm_1 : decode cX9_hasForm 1 = .ok (.ifCond .lt 24, 3) := by decide +kernel
theorem dX9_hasForm_4 : decode cX9_hasForm 4 = .ok (.iload_n 1, 1) := by decide +kernel
theorem dX9_hasForm_5 : decode cX9_hasForm 5 = .ok (.bipush 6, 2) := by decide +kernel
theorem dX9_hasForm_7 : decode cX9_hasForm 7 = .ok (.if_icmp .ge 18, 3) := by decide +kernel
theorem dX9_hasForm_10 : decode cX9_hasForm 10 = .ok (.aload_n 0, 1) := by decide +kernel
theorem dX9_hasForm_11 : decode cX9_hasForm 11 = .ok (.bipush 10, 2) := by decide +kernel
theorem dX9_hasForm_13 : decode cX9_hasForm 13 = .ok (.iload_n 1, 1) := by decide +kernel
theorem dX9_hasForm_14 : decode cX9_hasForm 14 = .ok (.iadd, 1) := by decide +kernel
theorem dX9_hasForm_15 : decode cX9_hasForm 15 = .ok (.invokevirtual 57, 3) := by decide +kernel
theorem dX9_hasForm_18 : decode cX9_hasForm 18 = .ok (.ifCond .eq 7, 3) := by decide +kernel
theorem dX9_hasForm_21 : decode cX9_hasForm 21 = .ok (.iconst 1, 1) := by decide +kernel
theorem dX9_hasForm_22 : decode cX9_hasForm 22 = .ok (.goto 4, 3) := by decide +kernel
theorem dX9_hasForm_25 : decode cX9_hasForm 25 = .ok (.iconst 0, 1) := by decide +kernel
theorem dX9_hasForm_26 : decode cX9_hasForm 26 = .ok (.ireturn, 1) := by decide +kernel
theorem dX9_remarksSaid_0 : decode cX9_remarksSaid 0 = .ok (.aload_n 0, 1) := by decide +kernel
theorem dX9_remarksSaid_1 : decode cX9_remarksSaid 1 = .ok (.getfield 51, 3) := by decide +kernel
theorem dX9_remarksSaid_4 : decode cX9_remarksSaid 4 = .ok (.sipush 1023, 3) := by decide +kernel
theorem dX9_remarksSaid_7 : decode cX9_remarksSaid 7 = .ok (.iand, 1) := by decide +kernel
theorem dX9_remarksSaid_8 : decode cX9_remarksSaid 8 = .ok (.ireturn, 1) := by decide +kernel
theorem dX9_lived_0 : decode cX9_lived 0 = .ok (.iload_n 1, 1) := by decide +kernel
theorem dX9_lived_1 : decode cX9_lived 1 = .ok (.ifCond .lt 25, 3) := by decide +kernel
theorem dX9_lived_4 : decode cX9_lived 4 = .ok (.iload_n 1, 1) := by decide +kernel
theorem dX9_lived_5 : decode cX9_lived 5 = .ok (.bipush 6, 2) := by decide +kernel
theorem dX9_lived_7 : decode cX9_lived 7 = .ok (.if_icmp .ge 19, 3) := by decide +kernel
theorem dX9_lived_10 : decode cX9_lived 10 = .ok (.aload_n 0, 1) := by decide +kernel
theorem dX9_lived_11 : decode cX9_lived 11 = .ok (.getfield 54, 3) := by decide +kernel
theorem dX9_lived_14 : decode cX9_lived 14 = .ok (.aload_n 0, 1) := by decide +kernel
theorem dX9_lived_15 : decode cX9_lived 15 = .ok (.getfield 18, 3) := by decide +kernel
theorem dX9_lived_18 : decode cX9_lived 18 = .ok (.iload_n 1, 1) := by decide +kernel
theorem dX9_lived_19 : decode cX9_lived 19 = .ok (.iaload, 1) := by decide +kernel
theorem dX9_lived_20 : decode cX9_lived 20 = .ok (.invokestatic 61, 3) := by decide +kernel
theorem dX9_lived_23 : decode cX9_lived 23 = .ok (.goto 7, 3) := by decide +kernel
theorem dX9_lived_26 : decode cX9_lived 26 = .ok (.aload_n 0, 1) := by decide +kernel
theorem dX9_lived_27 : decode cX9_lived 27 = .ok (.getfield 54, 3) := by decide +kernel
theorem dX9_lived_30 : decode cX9_lived 30 = .ok (.ireturn, 1) := by decide +kernel
theorem dX9_allRows_0 : decode cX9_allRows 0 = .ok (.lconst 1, 1) := by decide +kernel
theorem dX9_allRows_1 : decode cX9_allRows 1 = .ok (.lstore_n 1, 1) := by decide +kernel
theorem dX9_allRows_2 : decode cX9_allRows 2 = .ok (.iconst 0, 1) := by decide +kernel
theorem dX9_allRows_3 : decode cX9_allRows 3 = .ok (.istore_n 3, 1) := by decide +kernel
theorem dX9_allRows_4 : decode cX9_allRows 4 = .ok (.iload_n 3, 1) := by decide +kernel
theorem dX9_allRows_5 : decode cX9_allRows 5 = .ok (.bipush 6, 2) := by decide +kernel
theorem dX9_allRows_7 : decode cX9_allRows 7 = .ok (.if_icmp .ge 36, 3) := by decide +kernel
theorem dX9_allRows_10 : decode cX9_allRows 10 = .ok (.aload_n 0, 1) := by decide +kernel
theorem dX9_allRows_11 : decode cX9_allRows 11 = .ok (.iload_n 3, 1) := by decide +kernel
theorem dX9_allRows_12 : decode cX9_allRows 12 = .ok (.invokevirtual 67, 3) := by decide +kernel
theorem dX9_allRows_15 : decode cX9_allRows 15 = .ok (.ifCond .eq 22, 3) := by decide +kernel
theorem dX9_allRows_18 : decode cX9_allRows 18 = .ok (.lload_n 1, 1) := by decide +kernel
theorem dX9_allRows_19 : decode cX9_allRows 19 = .ok (.aload_n 0, 1) := by decide +kernel
theorem dX9_allRows_20 : decode cX9_allRows 20 = .ok (.getfield 15, 3) := by decide +kernel
theorem dX9_allRows_23 : decode cX9_allRows 23 = .ok (.iload_n 3, 1) := by decide +kernel
theorem dX9_allRows_24 : decode cX9_allRows 24 = .ok (.iaload, 1) := by decide +kernel
theorem dX9_allRows_25 : decode cX9_allRows 25 = .ok (.aload_n 0, 1) := by decide +kernel
theorem dX9_allRows_26 : decode cX9_allRows 26 = .ok (.getfield 9, 3) := by decide +kernel
theorem dX9_allRows_29 : decode cX9_allRows 29 = .ok (.iload_n 3, 1) := by decide +kernel
theorem dX9_allRows_30 : decode cX9_allRows 30 = .ok (.iaload, 1) := by decide +kernel
theorem dX9_allRows_31 : decode cX9_allRows 31 = .ok (.isub, 1) := by decide +kernel
theorem dX9_allRows_32 : decode cX9_allRows 32 = .ok (.iconst 1, 1) := by decide +kernel
theorem dX9_allRows_33 : decode cX9_allRows 33 = .ok (.iadd, 1) := by decide +kernel
theorem dX9_allRows_34 : decode cX9_allRows 34 = .ok (.i2l, 1) := by decide +kernel
theorem dX9_allRows_35 : decode cX9_allRows 35 = .ok (.lmul, 1) := by decide +kernel
theorem dX9_allRows_36 : decode cX9_allRows 36 = .ok (.lstore_n 1, 1) := by decide +kernel
theorem dX9_allRows_37 : decode cX9_allRows 37 = .ok (.iinc 3 1, 3) := by decide +kernel
theorem dX9_allRows_40 : decode cX9_allRows 40 = .ok (.goto (-36), 3) := by decide +kernel
theorem dX9_allRows_43 : decode cX9_allRows 43 = .ok (.lload_n 1, 1) := by decide +kernel
theorem dX9_allRows_44 : decode cX9_allRows 44 = .ok (.lreturn, 1) := by decide +kernel
theorem dX10_init_0 : decode cX10_init 0 = .ok (.aload_n 0, 1) := by decide +kernel
theorem dX10_init_1 : decode cX10_init 1 = .ok (.invokespecial 1, 3) := by decide +kernel
theorem dX10_init_4 : decode cX10_init 4 = .ok (.aload_n 0, 1) := by decide +kernel
theorem dX10_init_5 : decode cX10_init 5 = .ok (.new 7, 3) := by decide +kernel
theorem dX10_init_8 : decode cX10_init 8 = .ok (.dup, 1) := by decide +kernel
theorem dX10_init_9 : decode cX10_init 9 = .ok (.invokespecial 9, 3) := by decide +kernel
theorem dX10_init_12 : decode cX10_init 12 = .ok (.putfield 10, 3) := by decide +kernel
theorem dX10_init_15 : decode cX10_init 15 = .ok (.aload_n 0, 1) := by decide +kernel
theorem dX10_init_16 : decode cX10_init 16 = .ok (.new 7, 3) := by decide +kernel
theorem dX10_init_19 : decode cX10_init 19 = .ok (.dup, 1) := by decide +kernel
theorem dX10_init_20 : decode cX10_init 20 = .ok (.invokespecial 9, 3) := by decide +kernel
theorem dX10_init_23 : decode cX10_init 23 = .ok (.putfield 16, 3) := by decide +kernel
theorem dX10_init_26 : decode cX10_init 26 = .ok (.aload_n 0, 1) := by decide +kernel
theorem dX10_init_27 : decode cX10_init 27 = .ok (.sipush 260, 3) := by decide +kernel
theorem dX10_init_30 : decode cX10_init 30 = .ok (.newarray .int, 2) := by decide +kernel
theorem dX10_init_32 : decode cX10_init 32 = .ok (.putfield 19, 3) := by decide +kernel
theorem dX10_init_35 : decode cX10_init 35 = .ok (.aload_n 0, 1) := by decide +kernel
theorem dX10_init_36 : decode cX10_init 36 = .ok (.new 23, 3) := by decide +kernel
theorem dX10_init_39 : decode cX10_init 39 = .ok (.dup, 1) := by decide +kernel
theorem dX10_init_40 : decode cX10_init 40 = .ok (.aload_n 0, 1) := by decide +kernel
theorem dX10_init_41 : decode cX10_init 41 = .ok (.getfield 19, 3) := by decide +kernel
theorem dX10_init_44 : decode cX10_init 44 = .ok (.invokespecial 25, 3) := by decide +kernel
theorem dX10_init_47 : decode cX10_init 47 = .ok (.putfield 28, 3) := by decide +kernel
theorem dX10_init_50 : decode cX10_init 50 = .ok (.aload_n 0, 1) := by decide +kernel
theorem dX10_init_51 : decode cX10_init 51 = .ok (.new 32, 3) := by decide +kernel
theorem dX10_init_54 : decode cX10_init 54 = .ok (.dup, 1) := by decide +kernel
theorem dX10_init_55 : decode cX10_init 55 = .ok (.aload_n 0, 1) := by decide +kernel
theorem dX10_init_56 : decode cX10_init 56 = .ok (.getfield 10, 3) := by decide +kernel
theorem dX10_init_59 : decode cX10_init 59 = .ok (.invokespecial 34, 3) := by decide +kernel
theorem dX10_init_62 : decode cX10_init 62 = .ok (.putfield 37, 3) := by decide +kernel
theorem dX10_init_65 : decode cX10_init 65 = .ok (.aload_n 0, 1) := by decide +kernel
theorem dX10_init_66 : decode cX10_init 66 = .ok (.new 41, 3) := by decide +kernel
theorem dX10_init_69 : decode cX10_init 69 = .ok (.dup, 1) := by decide +kernel
theorem dX10_init_70 : decode cX10_init 70 = .ok (.invokespecial 43, 3) := by decide +kernel
theorem dX10_init_73 : decode cX10_init 73 = .ok (.putfield 44, 3) := by decide +kernel
theorem dX10_init_76 : decode cX10_init 76 = .ok (.aload_n 0, 1) := by decide +kernel
theorem dX10_init_77 : decode cX10_init 77 = .ok (.new 48, 3) := by decide +kernel
theorem dX10_init_80 : decode cX10_init 80 = .ok (.dup, 1) := by decide +kernel
theorem dX10_init_81 : decode cX10_init 81 = .ok (.invokespecial 50, 3) := by decide +kernel
theorem dX10_init_84 : decode cX10_init 84 = .ok (.putfield 51, 3) := by decide +kernel
theorem dX10_init_87 : decode cX10_init 87 = .ok (.aload_n 0, 1) := by decide +kernel
theorem dX10_init_88 : decode cX10_init 88 = .ok (.new 55, 3) := by decide +kernel
theorem dX10_init_91 : decode cX10_init 91 = .ok (.dup, 1) := by decide +kernel
theorem dX10_init_92 : decode cX10_init 92 = .ok (.invokespecial 57, 3) := by decide +kernel
theorem dX10_init_95 : decode cX10_init 95 = .ok (.putfield 58, 3) := by decide +kernel
theorem dX10_init_98 : decode cX10_init 98 = .ok (.aload_n 0, 1) := by decide +kernel
theorem dX10_init_99 : decode cX10_init 99 = .ok (.new 62, 3) := by decide +kernel
theorem dX10_init_102 : decode cX10_init 102 = .ok (.dup, 1) := by decide +kernel
theorem dX10_init_103 : decode cX10_init 103 = .ok (.invokespecial 64, 3) := by decide +kernel
theorem dX10_init_106 : decode cX10_init 106 = .ok (.putfield 65, 3) := by decide +kernel
theorem dX10_init_109 : decode cX10_init 109 = .ok (.aload_n 0, 1) := by decide +kernel
theorem dX10_init_110 : decode cX10_init 110 = .ok (.new 69, 3) := by decide +kernel
theorem dX10_init_113 : decode cX10_init 113 = .ok (.dup, 1) := by decide +kernel
theorem dX10_init_114 : decode cX10_init 114 = .ok (.invokespecial 71, 3) := by decide +kernel
theorem dX10_init_117 : decode cX10_init 117 = .ok (.putfield 72, 3) := by decide +kernel
theorem dX10_init_120 : decode cX10_init 120 = .ok (.aload_n 0, 1) := by decide +kernel
theorem dX10_init_121 : decode cX10_init 121 = .ok (.new 76, 3) := by decide +kernel
theorem dX10_init_124 : decode cX10_init 124 = .ok (.dup, 1) := by decide +kernel
theorem dX10_init_125 : decode cX10_init 125 = .ok (.invokespecial 78, 3) := by decide +kernel
theorem dX10_init_128 : decode cX10_init 128 = .ok (.putfield 79, 3) := by decide +kernel
theorem dX10_init_131 : decode cX10_init 131 = .ok (.aload_n 0, 1) := by decide +kernel
theorem dX10_init_132 : decode cX10_init 132 = .ok (.bipush 100, 2) := by decide +kernel
theorem dX10_init_134 : decode cX10_init 134 = .ok (.newarray .int, 2) := by decide +kernel
theorem dX10_init_136 : decode cX10_init 136 = .ok (.putfield 83, 3) := by decide +kernel
theorem dX10_init_139 : decode cX10_init 139 = .ok (.aload_n 0, 1) := by decide +kernel
theorem dX10_init_140 : decode cX10_init 140 = .ok (.sipush 2807, 3) := by decide +kernel
theorem dX10_init_143 : decode cX10_init 143 = .ok (.newarray .long, 2) := by decide +kernel
theorem dX10_init_145 : decode cX10_init 145 = .ok (.putfield 86, 3) := by decide +kernel
theorem dX10_init_148 : decode cX10_init 148 = .ok (.return_, 1) := by decide +kernel
theorem dX10_person_0 : decode cX10_person 0 = .ok (.iload_n 1, 1) := by decide +kernel
theorem dX10_person_1 : decode cX10_person 1 = .ok (.ifCond .lt 24, 3) := by decide +kernel
theorem dX10_person_4 : decode cX10_person 4 = .ok (.iload_n 1, 1) := by decide +kernel
theorem dX10_person_5 : decode cX10_person 5 = .ok (.bipush 6, 2) := by decide +kernel
theorem dX10_person_7 : decode cX10_person 7 = .ok (.if_icmp .ge 18, 3) := by decide +kernel
theorem dX10_person_10 : decode cX10_person 10 = .ok (.iload_n 2, 1) := by decide +kernel
theorem dX10_person_11 : decode cX10_person 11 = .ok (.ifCond .lt 14, 3) := by decide +kernel
theorem dX10_person_14 : decode cX10_person 14 = .ok (.iload_n 3, 1) := by decide +kernel
theorem dX10_person_15 : decode cX10_person 15 = .ok (.bipush 99, 2) := by decide +kernel
theorem dX10_person_17 : decode cX10_person 17 = .ok (.if_icmp .gt 8, 3) := by decide +kernel
theorem dX10_person_20 : decode cX10_person 20 = .ok (.iload_n 2, 1) := by decide +kernel
theorem dX10_person_21 : decode cX10_person 21 = .ok (.iload_n 3, 1) := by decide +kernel
theorem dX10_person_22 : decode cX10_person 22 = .ok (.if_icmp .le 5, 3) := by decide +kernel
theorem dX10_person_25 : decode cX10_person 25 = .ok (.iconst 0, 1) := by decide +kernel
theorem dX10_person_26 : decode cX10_person 26 = .ok (.ireturn, 1) := by decide +kernel
theorem dX10_person_27 : decode cX10_person 27 = .ok (.aload_n 0, 1) := by decide +kernel
theorem dX10_person_28 : decode cX10_person 28 = .ok (.getfield 10, 3) := by decide +kernel
theorem dX10_person_31 : decode cX10_person 31 = .ok (.getfield 90, 3) := by decide +kernel
theorem dX10_person_34 : decode cX10_person 34 = .ok (.iload_n 1, 1) := by decide +kernel
theorem dX10_person_35 : decode cX10_person 35 = .ok (.iload_n 2, 1) := by decide +kernel
theorem dX10_person_36 : decode cX10_person 36 = .ok (.iastore, 1) := by decide +kernel
theorem dX10_person_37 : decode cX10_person 37 = .ok (.aload_n 0, 1) := by decide +kernel
theorem dX10_person_38 : decode cX10_person 38 = .ok (.getfield 10, 3) := by decide +kernel
theorem dX10_person_41 : decode cX10_person 41 = .ok (.getfield 93, 3) := by decide +kernel
theorem dX10_person_44 : decode cX10_person 44 = .ok (.iload_n 1, 1) := by decide +kernel
theorem dX10_person_45 : decode cX10_person 45 = .ok (.iload_n 3, 1) := by decide +kernel
theorem dX10_person_46 : decode cX10_person 46 = .ok (.iastore, 1) := by decide +kernel
theorem dX10_person_47 : decode cX10_person 47 = .ok (.aload_n 0, 1) := by decide +kernel
theorem dX10_person_48 : decode cX10_person 48 = .ok (.getfield 10, 3) := by decide +kernel
theorem dX10_person_51 : decode cX10_person 51 = .ok (.getfield 96, 3) := by decide +kernel
theorem dX10_person_54 : decode cX10_person 54 = .ok (.iload_n 1, 1) := by decide +kernel
theorem dX10_person_55 : decode cX10_person 55 = .ok (.bipush 100, 2) := by decide +kernel
theorem dX10_person_57 : decode cX10_person 57 = .ok (.iastore, 1) := by decide +kernel
theorem dX10_person_58 : decode cX10_person 58 = .ok (.aload_n 0, 1) := by decide +kernel
theorem dX10_person_59 : decode cX10_person 59 = .ok (.getfield 10, 3) := by decide +kernel
theorem dX10_person_62 : decode cX10_person 62 = .ok (.dup, 1) := by decide +kernel
theorem dX10_person_63 : decode cX10_person 63 = .ok (.getfield 99, 3) := by decide +kernel
theorem dX10_person_66 : decode cX10_person 66 = .ok (.iconst 1, 1) := by decide +kernel
theorem dX10_person_67 : decode cX10_person 67 = .ok (.iload_n 1, 1) := by decide +kernel
theorem dX10_person_68 : decode cX10_person 68 = .ok (.ishl, 1) := by decide +kernel
theorem dX10_person_69 : decode cX10_person 69 = .ok (.ior, 1) := by decide +kernel
theorem dX10_person_70 : decode cX10_person 70 = .ok (.putfield 99, 3) := by decide +kernel
theorem dX10_person_73 : decode cX10_person 73 = .ok (.aload_n 0, 1) := by decide +kernel
theorem dX10_person_74 : decode cX10_person 74 = .ok (.getfield 44, 3) := by decide +kernel
theorem dX10_person_77 : decode cX10_person 77 = .ok (.invokevirtual 103, 3) := by decide +kernel
theorem dX10_person_80 : decode cX10_person 80 = .ok (.iconst 1, 1) := by decide +kernel
theorem dX10_person_81 : decode cX10_person 81 = .ok (.ireturn, 1) := by decide +kernel
theorem dX10_dies_0 : decode cX10_dies 0 = .ok (.aload_n 0, 1) := by decide +kernel
theorem dX10_dies_1 : decode cX10_dies 1 = .ok (.getfield 10, 3) := by decide +kernel
theorem dX10_dies_4 : decode cX10_dies 4 = .ok (.iload_n 1, 1) := by decide +kernel
theorem dX10_dies_5 : decode cX10_dies 5 = .ok (.invokevirtual 106, 3) := by decide +kernel
theorem dX10_dies_8 : decode cX10_dies 8 = .ok (.ifCond .eq 13, 3) := by decide +kernel
theorem dX10_dies_11 : decode cX10_dies 11 = .ok (.iload_n 2, 1) := by decide +kernel
theorem dX10_dies_12 : decode cX10_dies 12 = .ok (.ifCond .lt 9, 3) := by decide +kernel
theorem dX10_dies_15 : decode cX10_dies 15 = .ok (.iload_n 2, 1) := by decide +kernel
theorem dX10_dies_16 : decode cX10_dies 16 = .ok (.bipush 100, 2) := by decide +kernel
theorem dX10_dies_18 : decode cX10_dies 18 = .ok (.if_icmp .le 5, 3) := by decide +kernel
theorem dX10_dies_21 : decode cX10_dies 21 = .ok (.iconst 0, 1) := by decide +kernel
theorem dX10_dies_22 : decode cX10_dies 22 = .ok (.ireturn, 1) := by decide +kernel
theorem dX10_dies_23 : decode cX10_dies 23 = .ok (.aload_n 0, 1) := by decide +kernel
theorem dX10_dies_24 : decode cX10_dies 24 = .ok (.getfield 10, 3) := by decide +kernel
theorem dX10_dies_27 : decode cX10_dies 27 = .ok (.getfield 96, 3) := by decide +kernel
theorem dX10_dies_30 : decode cX10_dies 30 = .ok (.iload_n 1, 1) := by decide +kernel
theorem dX10_dies_31 : decode cX10_dies 31 = .ok (.iload_n 2, 1) := by decide +kernel
theorem dX10_dies_32 : decode cX10_dies 32 = .ok (.iastore, 1) := by decide +kernel
theorem dX10_dies_33 : decode cX10_dies 33 = .ok (.iconst 1, 1) := by decide +kernel
theorem dX10_dies_34 : decode cX10_dies 34 = .ok (.ireturn, 1) := by decide +kernel
theorem dX10_years_0 : decode cX10_years 0 = .ok (.iload_n 1, 1) := by decide +kernel
theorem dX10_years_1 : decode cX10_years 1 = .ok (.iconst 1, 1) := by decide +kernel
theorem dX10_years_2 : decode cX10_years 2 = .ok (.if_icmp .lt 23, 3) := by decide +kernel
theorem dX10_years_5 : decode cX10_years 5 = .ok (.iload_n 1, 1) := by decide +kernel
theorem dX10_years_6 : decode cX10_years 6 = .ok (.bipush 99, 2) := by decide +kernel
theorem dX10_years_8 : decode cX10_years 8 = .ok (.if_icmp .gt 17, 3) := by decide +kernel
theorem dX10_years_11 : decode cX10_years 11 = .ok (.aload_n 0, 1) := by decide +kernel
theorem dX10_years_12 : decode cX10_years 12 = .ok (.getfield 10, 3) := by decide +kernel
theorem dX10_years_15 : decode cX10_years 15 = .ok (.getfield 110, 3) := by decide +kernel
theorem dX10_years_18 : decode cX10_years 18 = .ok (.iload_n 1, 1) := by decide +kernel
theorem dX10_years_19 : decode cX10_years 19 = .ok (.iadd, 1) := by decide +kernel
theorem dX10_years_20 : decode cX10_years 20 = .ok (.bipush 99, 2) := by decide +kernel
theorem dX10_years_22 : decode cX10_years 22 = .ok (.if_icmp .le 5, 3) := by decide +kernel
theorem dX10_years_25 : decode cX10_years 25 = .ok (.iconst (-1), 1) := by decide +kernel
theorem dX10_years_26 : decode cX10_years 26 = .ok (.ireturn, 1) := by decide +kernel
theorem dX10_years_27 : decode cX10_years 27 = .ok (.aload_n 0, 1) := by decide +kernel
theorem dX10_years_28 : decode cX10_years 28 = .ok (.getfield 10, 3) := by decide +kernel
theorem dX10_years_31 : decode cX10_years 31 = .ok (.dup, 1) := by decide +kernel
theorem dX10_years_32 : decode cX10_years 32 = .ok (.getfield 110, 3) := by decide +kernel
theorem dX10_years_35 : decode cX10_years 35 = .ok (.iload_n 1, 1) := by decide +kernel
theorem dX10_years_36 : decode cX10_years 36 = .ok (.iadd, 1) := by decide +kernel
theorem dX10_years_37 : decode cX10_years 37 = .ok (.putfield 110, 3) := by decide +kernel
theorem dX10_years_40 : decode cX10_years 40 = .ok (.aload_n 0, 1) := by decide +kernel
theorem dX10_years_41 : decode cX10_years 41 = .ok (.getfield 10, 3) := by decide +kernel
theorem dX10_years_44 : decode cX10_years 44 = .ok (.getfield 110, 3) := by decide +kernel
theorem dX10_years_47 : decode cX10_years 47 = .ok (.ireturn, 1) := by decide +kernel
theorem dX10_feed_0 : decode cX10_feed 0 = .ok (.aload_n 0, 1) := by decide +kernel
theorem dX10_feed_1 : decode cX10_feed 1 = .ok (.getfield 113, 3) := by decide +kernel
theorem dX10_feed_4 : decode cX10_feed 4 = .ok (.sipush 240, 3) := by decide +kernel
theorem dX10_feed_7 : decode cX10_feed 7 = .ok (.if_icmp .le 5, 3) := by decide +kernel
theorem dX10_feed_10 : decode cX10_feed 10 = .ok (.iconst (-1), 1) := by decide +kernel
theorem dX10_feed_11 : decode cX10_feed 11 = .ok (.ireturn, 1) := by decide +kernel
theorem dX10_feed_12 : decode cX10_feed 12 = .ok (.aload_n 0, 1) := by decide +kernel
theorem dX10_feed_13 : decode cX10_feed 13 = .ok (.iload_n 1, 1) := by decide +kernel
theorem dX10_feed_14 : decode cX10_feed 14 = .ok (.invokevirtual 116, 3) := by decide +kernel
theorem dX10_feed_17 : decode cX10_feed 17 = .ok (.aload_n 0, 1) := by decide +kernel
theorem dX10_feed_18 : decode cX10_feed 18 = .ok (.iload_n 2, 1) := by decide +kernel
theorem dX10_feed_19 : decode cX10_feed 19 = .ok (.invokevirtual 116, 3) := by decide +kernel
theorem dX10_feed_22 : decode cX10_feed 22 = .ok (.aload_n 0, 1) := by decide +kernel
theorem dX10_feed_23 : decode cX10_feed 23 = .ok (.iload_n 3, 1) := by decide +kernel
theorem dX10_feed_24 : decode cX10_feed 24 = .ok (.invokevirtual 116, 3) := by decide +kernel
theorem dX10_feed_27 : decode cX10_feed 27 = .ok (.aload_n 0, 1) := by decide +kernel
theorem dX10_feed_28 : decode cX10_feed 28 = .ok (.iload 4, 2) := by decide +kernel
theorem dX10_feed_30 : decode cX10_feed 30 = .ok (.invokevirtual 116, 3) := by decide +kernel
theorem dX10_feed_33 : decode cX10_feed 33 = .ok (.aload_n 0, 1) := by decide +kernel
theorem dX10_feed_34 : decode cX10_feed 34 = .ok (.iload 5, 2) := by decide +kernel
theorem dX10_feed_36 : decode cX10_feed 36 = .ok (.invokevirtual 116, 3) := by decide +kernel
theorem dX10_feed_39 : decode cX10_feed 39 = .ok (.aload_n 0, 1) := by decide +kernel
theorem dX10_feed_40 : decode cX10_feed 40 = .ok (.getfield 113, 3) := by decide +kernel
theorem dX10_feed_43 : decode cX10_feed 43 = .ok (.ireturn, 1) := by decide +kernel
theorem dX10_putBytes_0 : decode cX10_putBytes 0 = .ok (.bipush 24, 2) := by decide +kernel
theorem dX10_putBytes_2 : decode cX10_putBytes 2 = .ok (.istore_n 2, 1) := by decide +kernel
theorem dX10_putBytes_3 : decode cX10_putBytes 3 = .ok (.iload_n 2, 1) := by decide +kernel
theorem dX10_putBytes_4 : decode cX10_putBytes 4 = .ok (.ifCond .lt 45, 3) := by decide +kernel
theorem dX10_putBytes_7 : decode cX10_putBytes 7 = .ok (.aload_n 0, 1) := by decide +kernel
theorem dX10_putBytes_8 : decode cX10_putBytes 8 = .ok (.getfield 113, 3) := by decide +kernel
theorem dX10_putBytes_11 : decode cX10_putBytes 11 = .ok (.sipush 260, 3) := by decide +kernel
theorem dX10_putBytes_14 : decode cX10_putBytes 14 = .ok (.if_icmp .ge 35, 3) := by decide +kernel
theorem dX10_putBytes_17 : decode cX10_putBytes 17 = .ok (.aload_n 0, 1) := by decide +kernel
theorem dX10_putBytes_18 : decode cX10_putBytes 18 = .ok (.getfield 19, 3) := by decide +kernel
theorem dX10_putBytes_21 : decode cX10_putBytes 21 = .ok (.aload_n 0, 1) := by decide +kernel
theorem dX10_putBytes_22 : decode cX10_putBytes 22 = .ok (.getfield 113, 3) := by decide +kernel
theorem dX10_putBytes_25 : decode cX10_putBytes 25 = .ok (.iload_n 1, 1) := by decide +kernel
theorem dX10_putBytes_26 : decode cX10_putBytes 26 = .ok (.iload_n 2, 1) := by decide +kernel
theorem dX10_putBytes_27 : decode cX10_putBytes 27 = .ok (.ishr, 1) := by decide +kernel
theorem dX10_putBytes_28 : decode cX10_putBytes 28 = .ok (.sipush 255, 3) := by decide +kernel
theorem dX10_putBytes_31 : decode cX10_putBytes 31 = .ok (.iand, 1) := by decide +kernel
theorem dX10_putBytes_32 : decode cX10_putBytes 32 = .ok (.iastore, 1) := by decide +kernel
theorem dX10_putBytes_33 : decode cX10_putBytes 33 = .ok (.aload_n 0, 1) := by decide +kernel
theorem dX10_putBytes_34 : decode cX10_putBytes 34 = .ok (.dup, 1) := by decide +kernel
theorem dX10_putBytes_35 : decode cX10_putBytes 35 = .ok (.getfield 113, 3) := by decide +kernel
theorem dX10_putBytes_38 : decode cX10_putBytes 38 = .ok (.iconst 1, 1) := by decide +kernel
theorem dX10_putBytes_39 : decode cX10_putBytes 39 = .ok (.iadd, 1) := by decide +kernel
theorem dX10_putBytes_40 : decode cX10_putBytes 40 = .ok (.putfield 113, 3) := by decide +kernel
theorem dX10_putBytes_43 : decode cX10_putBytes 43 = .ok (.iinc 2 (-8), 3) := by decide +kernel
theorem dX10_putBytes_46 : decode cX10_putBytes 46 = .ok (.goto (-43), 3) := by decide +kernel
theorem dX10_putBytes_49 : decode cX10_putBytes 49 = .ok (.return_, 1) := by decide +kernel
theorem dX10_remark_0 : decode cX10_remark 0 = .ok (.iload_n 1, 1) := by decide +kernel
theorem dX10_remark_1 : decode cX10_remark 1 = .ok (.ifCond .lt 19, 3) := by decide +kernel
theorem dX10_remark_4 : decode cX10_remark 4 = .ok (.iload_n 1, 1) := by decide +kernel
theorem dX10_remark_5 : decode cX10_remark 5 = .ok (.bipush 10, 2) := by decide +kernel
theorem dX10_remark_7 : decode cX10_remark 7 = .ok (.if_icmp .ge 13, 3) := by decide +kernel
theorem dX10_remark_10 : decode cX10_remark 10 = .ok (.aload_n 0, 1) := by decide +kernel
theorem dX10_remark_11 : decode cX10_remark 11 = .ok (.iload_n 2, 1) := by decide +kernel
theorem dX10_remark_12 : decode cX10_remark 12 = .ok (.bipush 60, 2) := by decide +kernel
theorem dX10_remark_14 : decode cX10_remark 14 = .ok (.invokevirtual 120, 3) := by decide +kernel
theorem dX10_remark_17 : decode cX10_remark 17 = .ok (.ifCond .ne 5, 3) := by decide +kernel
theorem dX10_remark_20 : decode cX10_remark 20 = .ok (.iconst (-1), 1) := by decide +kernel
theorem dX10_remark_21 : decode cX10_remark 21 = .ok (.ireturn, 1) := by decide +kernel
theorem dX10_remark_22 : decode cX10_remark 22 = .ok (.aload_n 0, 1) := by decide +kernel
theorem dX10_remark_23 : decode cX10_remark 23 = .ok (.iload_n 1, 1) := by decide +kernel
theorem dX10_remark_24 : decode cX10_remark 24 = .ok (.iload_n 2, 1) := by decide +kernel
theorem dX10_remark_25 : decode cX10_remark 25 = .ok (.invokevirtual 124, 3) := by decide +kernel
theorem dX10_remark_28 : decode cX10_remark 28 = .ok (.ireturn, 1) := by decide +kernel
theorem dX10_form_0 : decode cX10_form 0 = .ok (.iload_n 1, 1) := by decide +kernel
theorem dX10_form_1 : decode cX10_form 1 = .ok (.ifCond .lt 19, 3) := by decide +kernel
theorem dX10_form_4 : decode cX10_form 4 = .ok (.iload_n 1, 1) := by decide +kernel
theorem dX10_form_5 : decode cX10_form 5 = .ok (.bipush 6, 2) := by decide +kernel
theorem dX10_form_7 : decode cX10_form 7 = .ok (.if_icmp .ge 13, 3) := by decide +kernel
theorem dX10_form_10 : decode cX10_form 10 = .ok (.aload_n 0, 1) := by decide +kernel
theorem dX10_form_11 : decode cX10_form 11 = .ok (.iload_n 2, 1) := by decide +kernel
theorem dX10_form_12 : decode cX10_form 12 = .ok (.bipush 60, 2) := by decide +kernel
theorem dX10_form_14 : decode cX10_form 14 = .ok (.invokevirtual 120, 3) := by decide +kernel
theorem dX10_form_17 : decode cX10_form 17 = .ok (.ifCond .ne 5, 3) := by decide +kernel
theorem dX10_form_20 : decode cX10_form 20 = .ok (.iconst (-1), 1) := by decide +kernel
theorem dX10_form_21 : decode cX10_form 21 = .ok (.ireturn, 1) := by decide +kernel
theorem dX10_form_22 : decode cX10_form 22 = .ok (.aload_n 0, 1) := by decide +kernel
theorem dX10_form_23 : decode cX10_form 23 = .ok (.bipush 10, 2) := by decide +kernel
theorem dX10_form_25 : decode cX10_form 25 = .ok (.iload_n 1, 1) := by decide +kernel
theorem dX10_form_26 : decode cX10_form 26 = .ok (.iadd, 1) := by decide +kernel
theorem dX10_form_27 : decode cX10_form 27 = .ok (.iload_n 2, 1) := by decide +kernel
theorem dX10_form_28 : decode cX10_form 28 = .ok (.invokevirtual 124, 3) := by decide +kernel
theorem dX10_form_31 : decode cX10_form 31 = .ok (.ireturn, 1) := by decide +kernel
theorem dX10_isText_0 : decode cX10_isText 0 = .ok (.iload_n 1, 1) := by decide +kernel
theorem dX10_isText_1 : decode cX10_isText 1 = .ok (.iconst 1, 1) := by decide +kernel
theorem dX10_isText_2 : decode cX10_isText 2 = .ok (.if_icmp .lt 20, 3) := by decide +kernel
theorem dX10_isText_5 : decode cX10_isText 5 = .ok (.iload_n 1, 1) := by decide +kernel
theorem dX10_isText_6 : decode cX10_isText 6 = .ok (.iload_n 2, 1) := by decide +kernel
theorem dX10_isText_7 : decode cX10_isText 7 = .ok (.if_icmp .gt 15, 3) := by decide +kernel
theorem dX10_isText_10 : decode cX10_isText 10 = .ok (.iload_n 1, 1) := by decide +kernel
theorem dX10_isText_11 : decode cX10_isText 11 = .ok (.aload_n 0, 1) := by decide +kernel
theorem dX10_isText_12 : decode cX10_isText 12 = .ok (.getfield 113, 3) := by decide +kernel
theorem dX10_isText_15 : decode cX10_isText 15 = .ok (.if_icmp .gt 7, 3) := by decide +kernel
theorem dX10_isText_18 : decode cX10_isText 18 = .ok (.iconst 1, 1) := by decide +kernel
theorem dX10_isText_19 : decode cX10_isText 19 = .ok (.goto 4, 3) := by decide +kernel
theorem dX10_isText_22 : decode cX10_isText 22 = .ok (.iconst 0, 1) := by decide +kernel
theorem dX10_isText_23 : decode cX10_isText 23 = .ok (.ireturn, 1) := by decide +kernel
theorem dX10_tell_0 : decode cX10_tell 0 = .ok (.aload_n 0, 1) := by decide +kernel
theorem dX10_tell_1 : decode cX10_tell 1 = .ok (.iconst 0, 1) := by decide +kernel
theorem dX10_tell_2 : decode cX10_tell 2 = .ok (.putfield 113, 3) := by decide +kernel
theorem dX10_tell_5 : decode cX10_tell 5 = .ok (.iload_n 1, 1) := by decide +kernel
theorem dX10_tell_6 : decode cX10_tell 6 = .ok (.bipush 10, 2) := by decide +kernel
theorem dX10_tell_8 : decode cX10_tell 8 = .ok (.if_icmp .ge 7, 3) := by decide +kernel
theorem dX10_tell_11 : decode cX10_tell 11 = .ok (.iconst 1, 1) := by decide +kernel
theorem dX10_tell_12 : decode cX10_tell 12 = .ok (.goto 4, 3) := by decide +kernel
theorem dX10_tell_15 : decode cX10_tell 15 = .ok (.iconst 0, 1) := by decide +kernel
theorem dX10_tell_16 : decode cX10_tell 16 = .ok (.istore_n 3, 1) := by decide +kernel
theorem dX10_tell_17 : decode cX10_tell 17 = .ok (.aload_n 0, 1) := by decide +kernel
theorem dX10_tell_18 : decode cX10_tell 18 = .ok (.getfield 28, 3) := by decide +kernel
theorem dX10_tell_21 : decode cX10_tell 21 = .ok (.iload_n 2, 1) := by decide +kernel
theorem dX10_tell_22 : decode cX10_tell 22 = .ok (.aload_n 0, 1) := by decide +kernel
theorem dX10_tell_23 : decode cX10_tell 23 = .ok (.getfield 10, 3) := by decide +kernel
theorem dX10_tell_26 : decode cX10_tell 26 = .ok (.getfield 99, 3) := by decide +kernel
theorem dX10_tell_29 : decode cX10_tell 29 = .ok (.iload_n 3, 1) := by decide +kernel
theorem dX10_tell_30 : decode cX10_tell 30 = .ok (.invokevirtual 128, 3) := by decide +kernel
theorem dX10_tell_33 : decode cX10_tell 33 = .ok (.ifCond .ne 23, 3) := by decide +kernel
theorem dX10_tell_36 : decode cX10_tell 36 = .ok (.sipush (-1000), 3) := by decide +kernel
theorem dX10_tell_39 : decode cX10_tell 39 = .ok (.aload_n 0, 1) := by decide +kernel
theorem dX10_tell_40 : decode cX10_tell 40 = .ok (.getfield 28, 3) := by decide +kernel
theorem dX10_tell_43 : decode cX10_tell 43 = .ok (.getfield 132, 3) := by decide +kernel
theorem dX10_tell_46 : decode cX10_tell 46 = .ok (.imul, 1) := by decide +kernel
theorem dX10_tell_47 : decode cX10_tell 47 = .ok (.aload_n 0, 1) := by decide +kernel
theorem dX10_tell_48 : decode cX10_tell 48 = .ok (.getfield 28, 3) := by decide +kernel
theorem dX10_tell_51 : decode cX10_tell 51 = .ok (.getfield 135, 3) := by decide +kernel
theorem dX10_tell_54 : decode cX10_tell 54 = .ok (.isub, 1) := by decide +kernel
theorem dX10_tell_55 : decode cX10_tell 55 = .ok (.ireturn, 1) := by decide +kernel
theorem dX10_tell_56 : decode cX10_tell 56 = .ok (.aload_n 0, 1) := by decide +kernel
theorem dX10_tell_57 : decode cX10_tell 57 = .ok (.getfield 28, 3) := by decide +kernel
theorem dX10_tell_60 : decode cX10_tell 60 = .ok (.aload_n 0, 1) := by decide +kernel
theorem dX10_tell_61 : decode cX10_tell 61 = .ok (.getfield 10, 3) := by decide +kernel
theorem dX10_tell_64 : decode cX10_tell 64 = .ok (.getfield 138, 3) := by decide +kernel
theorem dX10_tell_67 : decode cX10_tell 67 = .ok (.iload_n 1, 1) := by decide +kernel
theorem dX10_tell_68 : decode cX10_tell 68 = .ok (.aaload, 1) := by decide +kernel
theorem dX10_tell_69 : decode cX10_tell 69 = .ok (.aload_n 0, 1) := by decide +kernel
theorem dX10_tell_70 : decode cX10_tell 70 = .ok (.getfield 10, 3) := by decide +kernel
theorem dX10_tell_73 : decode cX10_tell 73 = .ok (.invokevirtual 142, 3) := by decide +kernel
theorem dX10_tell_76 : decode cX10_tell 76 = .ok (.aload_n 0, 1) := by decide +kernel
theorem dX10_tell_77 : decode cX10_tell 77 = .ok (.getfield 10, 3) := by decide +kernel
theorem dX10_tell_80 : decode cX10_tell 80 = .ok (.dup, 1) := by decide +kernel
theorem dX10_tell_81 : decode cX10_tell 81 = .ok (.getfield 146, 3) := by decide +kernel
theorem dX10_tell_84 : decode cX10_tell 84 = .ok (.iconst 1, 1) := by decide +kernel
theorem dX10_tell_85 : decode cX10_tell 85 = .ok (.iload_n 1, 1) := by decide +kernel
theorem dX10_tell_86 : decode cX10_tell 86 = .ok (.ishl, 1) := by decide +kernel
theorem dX10_tell_87 : decode cX10_tell 87 = .ok (.ior, 1) := by decide +kernel

theorem dX10_check_40 : decode cX10_check 40 = .ok (.ifCond .ge 6, 3) := by decide +kernel
theorem dX10_check_46 : decode cX10_check 46 = .ok (.iconst 0, 1) := by decide +kernel
theorem dX10_check_47 : decode cX10_check 47 = .ok (.istore_n 2, 1) := by decide +kernel
theorem dX10_check_48 : decode cX10_check 48 = .ok (.iload_n 2, 1) := by decide +kernel
theorem dX10_check_49 : decode cX10_check 49 = .ok (.iload_n 1, 1) := by decide +kernel
theorem dX10_check_50 : decode cX10_check 50 = .ok (.if_icmp .ge 46, 3) := by decide +kernel
theorem dX10_check_96 : decode cX10_check 96 = .ok (.iconst (-1), 1) := by decide +kernel
theorem dX10_check_97 : decode cX10_check 97 = .ok (.ireturn, 1) := by decide +kernel
theorem dX10_shortest_0 : decode cX10_shortest 0 = .ok (.aload_n 0, 1) := by decide +kernel
theorem dX10_shortest_1 : decode cX10_shortest 1 = .ok (.iload_n 1, 1) := by decide +kernel
theorem dX10_shortest_2 : decode cX10_shortest 2 = .ok (.invokevirtual 182, 3) := by decide +kernel
theorem dX10_shortest_5 : decode cX10_shortest 5 = .ok (.ifCond .eq 12, 3) := by decide +kernel
theorem dX10_shortest_8 : decode cX10_shortest 8 = .ok (.iload_n 2, 1) := by decide +kernel
theorem dX10_shortest_9 : decode cX10_shortest 9 = .ok (.ifCond .lt 8, 3) := by decide +kernel
theorem dX10_shortest_12 : decode cX10_shortest 12 = .ok (.iload_n 2, 1) := by decide +kernel
theorem dX10_shortest_13 : decode cX10_shortest 13 = .ok (.iconst 4, 1) := by decide +kernel
theorem dX10_shortest_14 : decode cX10_shortest 14 = .ok (.if_icmp .le 5, 3) := by decide +kernel
theorem dX10_shortest_17 : decode cX10_shortest 17 = .ok (.iconst (-1), 1) := by decide +kernel
theorem dX10_shortest_18 : decode cX10_shortest 18 = .ok (.ireturn, 1) := by decide +kernel
theorem dX10_shortest_19 : decode cX10_shortest 19 = .ok (.aload_n 0, 1) := by decide +kernel
theorem dX10_shortest_20 : decode cX10_shortest 20 = .ok (.getfield 51, 3) := by decide +kernel
theorem dX10_shortest_23 : decode cX10_shortest 23 = .ok (.aload_n 0, 1) := by decide +kernel
theorem dX10_shortest_24 : decode cX10_shortest 24 = .ok (.getfield 37, 3) := by decide +kernel
theorem dX10_shortest_27 : decode cX10_shortest 27 = .ok (.iload_n 1, 1) := by decide +kernel
theorem dX10_shortest_28 : decode cX10_shortest 28 = .ok (.invokevirtual 254, 3) := by decide +kernel
theorem dX10_shortest_31 : decode cX10_shortest 31 = .ok (.ifCond .ne 6, 3) := by decide +kernel
theorem dX10_shortest_37 : decode cX10_shortest 37 = .ok (.aload_n 0, 1) := by decide +kernel
theorem dX10_shortest_38 : decode cX10_shortest 38 = .ok (.getfield 51, 3) := by decide +kernel
theorem dX10_shortest_41 : decode cX10_shortest 41 = .ok (.getfield 274, 3) := by decide +kernel
theorem dX10_shortest_44 : decode cX10_shortest 44 = .ok (.ifCond .eq 21, 3) := by decide +kernel
theorem dX10_shortest_47 : decode cX10_shortest 47 = .ok (.aload_n 0, 1) := by decide +kernel
theorem dX10_shortest_48 : decode cX10_shortest 48 = .ok (.getfield 58, 3) := by decide +kernel
theorem dX10_shortest_51 : decode cX10_shortest 51 = .ok (.aload_n 0, 1) := by decide +kernel
theorem dX10_shortest_52 : decode cX10_shortest 52 = .ok (.getfield 51, 3) := by decide +kernel
theorem dX10_shortest_55 : decode cX10_shortest 55 = .ok (.aload_n 0, 1) := by decide +kernel
theorem dX10_shortest_56 : decode cX10_shortest 56 = .ok (.getfield 10, 3) := by decide +kernel
theorem dX10_shortest_59 : decode cX10_shortest 59 = .ok (.invokevirtual 320, 3) := by decide +kernel
theorem dX10_shortest_62 : decode cX10_shortest 62 = .ok (.ifCond .ne 6, 3) := by decide +kernel
theorem dX10_shortest_65 : decode cX10_shortest 65 = .ok (.bipush (-2), 2) := by decide +kernel
theorem dX10_shortest_67 : decode cX10_shortest 67 = .ok (.ireturn, 1) := by decide +kernel
theorem dX10_whoIsWho_0 : decode cX10_whoIsWho 0 = .ok (.aload_n 0, 1) := by decide +kernel
theorem dX10_whoIsWho_1 : decode cX10_whoIsWho 1 = .ok (.iload_n 1, 1) := by decide +kernel
theorem dX10_whoIsWho_2 : decode cX10_whoIsWho 2 = .ok (.bipush 6, 2) := by decide +kernel
theorem dX10_whoIsWho_4 : decode cX10_whoIsWho 4 = .ok (.invokevirtual 120, 3) := by decide +kernel
theorem dX10_whoIsWho_7 : decode cX10_whoIsWho 7 = .ok (.ifCond .eq 57, 3) := by decide +kernel
theorem dX10_whoIsWho_64 : decode cX10_whoIsWho 64 = .ok (.iconst (-1), 1) := by decide +kernel
theorem dX10_whoIsWho_65 : decode cX10_whoIsWho 65 = .ok (.ireturn, 1) := by decide +kernel
theorem dX10_tree_0 : decode cX10_tree 0 = .ok (.aload_n 0, 1) := by decide +kernel
theorem dX10_tree_1 : decode cX10_tree 1 = .ok (.getfield 10, 3) := by decide +kernel
theorem dX10_tree_4 : decode cX10_tree 4 = .ok (.iload_n 1, 1) := by decide +kernel
theorem dX10_tree_5 : decode cX10_tree 5 = .ok (.invokevirtual 106, 3) := by decide +kernel
theorem dX10_tree_8 : decode cX10_tree 8 = .ok (.ifCond .eq 12, 3) := by decide +kernel
theorem dX10_tree_20 : decode cX10_tree 20 = .ok (.iconst (-1), 1) := by decide +kernel
theorem dX10_tree_21 : decode cX10_tree 21 = .ok (.ireturn, 1) := by decide +kernel
theorem dX10_tyres_0 : decode cX10_tyres 0 = .ok (.aload_n 0, 1) := by decide +kernel
theorem dX10_tyres_1 : decode cX10_tyres 1 = .ok (.iload_n 1, 1) := by decide +kernel
theorem dX10_tyres_2 : decode cX10_tyres 2 = .ok (.bipush 8, 2) := by decide +kernel
theorem dX10_tyres_4 : decode cX10_tyres 4 = .ok (.invokevirtual 120, 3) := by decide +kernel
theorem dX10_tyres_7 : decode cX10_tyres 7 = .ok (.ifCond .eq 14, 3) := by decide +kernel
theorem dX10_tyres_21 : decode cX10_tyres 21 = .ok (.iconst (-1), 1) := by decide +kernel
theorem dX10_tyres_22 : decode cX10_tyres 22 = .ok (.ireturn, 1) := by decide +kernel
theorem dX10_butts_0 : decode cX10_butts 0 = .ok (.iload_n 1, 1) := by decide +kernel
theorem dX10_butts_1 : decode cX10_butts 1 = .ok (.ifCond .lt 18, 3) := by decide +kernel
theorem dX10_butts_4 : decode cX10_butts 4 = .ok (.iload_n 1, 1) := by decide +kernel
theorem dX10_butts_5 : decode cX10_butts 5 = .ok (.bipush 20, 2) := by decide +kernel
theorem dX10_butts_7 : decode cX10_butts 7 = .ok (.if_icmp .gt 12, 3) := by decide +kernel
theorem dX10_butts_10 : decode cX10_butts 10 = .ok (.aload_n 0, 1) := by decide +kernel
theorem dX10_butts_11 : decode cX10_butts 11 = .ok (.getfield 113, 3) := by decide +kernel
theorem dX10_butts_14 : decode cX10_butts 14 = .ok (.bipush 6, 2) := by decide +kernel
theorem dX10_butts_16 : decode cX10_butts 16 = .ok (.if_icmp .ge 5, 3) := by decide +kernel
theorem dX10_butts_19 : decode cX10_butts 19 = .ok (.iconst (-1), 1) := by decide +kernel
theorem dX10_butts_20 : decode cX10_butts 20 = .ok (.ireturn, 1) := by decide +kernel
theorem dX10_howOld_0 : decode cX10_howOld 0 = .ok (.iload_n 1, 1) := by decide +kernel
theorem dX10_howOld_1 : decode cX10_howOld 1 = .ok (.iconst 1, 1) := by decide +kernel
theorem dX10_howOld_2 : decode cX10_howOld 2 = .ok (.if_icmp .lt 37, 3) := by decide +kernel
theorem dX10_howOld_5 : decode cX10_howOld 5 = .ok (.iload_n 1, 1) := by decide +kernel
theorem dX10_howOld_6 : decode cX10_howOld 6 = .ok (.bipush 6, 2) := by decide +kernel
theorem dX10_howOld_8 : decode cX10_howOld 8 = .ok (.if_icmp .gt 31, 3) := by decide +kernel
theorem dX10_howOld_11 : decode cX10_howOld 11 = .ok (.iload_n 2, 1) := by decide +kernel
theorem dX10_howOld_12 : decode cX10_howOld 12 = .ok (.ifCond .lt 27, 3) := by decide +kernel
theorem dX10_howOld_15 : decode cX10_howOld 15 = .ok (.iload_n 2, 1) := by decide +kernel
theorem dX10_howOld_16 : decode cX10_howOld 16 = .ok (.sipush 400, 3) := by decide +kernel
theorem dX10_howOld_19 : decode cX10_howOld 19 = .ok (.if_icmp .gt 20, 3) := by decide +kernel
theorem dX10_howOld_22 : decode cX10_howOld 22 = .ok (.iload_n 3, 1) := by decide +kernel
theorem dX10_howOld_23 : decode cX10_howOld 23 = .ok (.ifCond .lt 16, 3) := by decide +kernel
theorem dX10_howOld_26 : decode cX10_howOld 26 = .ok (.iload 4, 2) := by decide +kernel
theorem dX10_howOld_28 : decode cX10_howOld 28 = .ok (.bipush 99, 2) := by decide +kernel
theorem dX10_howOld_30 : decode cX10_howOld 30 = .ok (.if_icmp .gt 9, 3) := by decide +kernel
theorem dX10_howOld_33 : decode cX10_howOld 33 = .ok (.iload_n 3, 1) := by decide +kernel
theorem dX10_howOld_34 : decode cX10_howOld 34 = .ok (.iload 4, 2) := by decide +kernel
theorem dX10_howOld_36 : decode cX10_howOld 36 = .ok (.if_icmp .le 7, 3) := by decide +kernel
theorem dX10_howOld_39 : decode cX10_howOld 39 = .ok (.ldc2_w 368, 3) := by decide +kernel
theorem dX10_howOld_42 : decode cX10_howOld 42 = .ok (.lreturn, 1) := by decide +kernel
theorem dX10_howOld_43 : decode cX10_howOld 43 = .ok (.sipush 401, 3) := by decide +kernel
theorem dX10_howOld_46 : decode cX10_howOld 46 = .ok (.istore 5, 2) := by decide +kernel
theorem dX10_howOld_48 : decode cX10_howOld 48 = .ok (.aload_n 0, 1) := by decide +kernel
theorem dX10_howOld_49 : decode cX10_howOld 49 = .ok (.getfield 86, 3) := by decide +kernel
theorem dX10_howOld_52 : decode cX10_howOld 52 = .ok (.lconst 0, 1) := by decide +kernel
theorem dX10_howOld_53 : decode cX10_howOld 53 = .ok (.invokestatic 370, 3) := by decide +kernel
theorem dX10_howOld_56 : decode cX10_howOld 56 = .ok (.aload_n 0, 1) := by decide +kernel
theorem dX10_howOld_57 : decode cX10_howOld 57 = .ok (.getfield 86, 3) := by decide +kernel
theorem dX10_howOld_60 : decode cX10_howOld 60 = .ok (.iconst 0, 1) := by decide +kernel
theorem dX10_howOld_61 : decode cX10_howOld 61 = .ok (.lconst 1, 1) := by decide +kernel
theorem dX10_howOld_62 : decode cX10_howOld 62 = .ok (.lastore, 1) := by decide +kernel
theorem dX10_howOld_63 : decode cX10_howOld 63 = .ok (.iload_n 3, 1) := by decide +kernel
theorem dX10_howOld_64 : decode cX10_howOld 64 = .ok (.istore 6, 2) := by decide +kernel
theorem dX10_howOld_66 : decode cX10_howOld 66 = .ok (.iload 6, 2) := by decide +kernel
theorem dX10_howOld_68 : decode cX10_howOld 68 = .ok (.iload 4, 2) := by decide +kernel
theorem dX10_howOld_70 : decode cX10_howOld 70 = .ok (.if_icmp .gt 74, 3) := by decide +kernel
theorem dX10_howOld_73 : decode cX10_howOld 73 = .ok (.iconst 1, 1) := by decide +kernel
theorem dX10_howOld_74 : decode cX10_howOld 74 = .ok (.istore 7, 2) := by decide +kernel
theorem dX10_howOld_76 : decode cX10_howOld 76 = .ok (.iload 7, 2) := by decide +kernel
theorem dX10_howOld_78 : decode cX10_howOld 78 = .ok (.iload_n 1, 1) := by decide +kernel
theorem dX10_howOld_79 : decode cX10_howOld 79 = .ok (.if_icmp .gt 59, 3) := by decide +kernel
theorem dX10_howOld_82 : decode cX10_howOld 82 = .ok (.iload 6, 2) := by decide +kernel
theorem dX10_howOld_84 : decode cX10_howOld 84 = .ok (.istore 8, 2) := by decide +kernel
theorem dX10_howOld_86 : decode cX10_howOld 86 = .ok (.iload 8, 2) := by decide +kernel
theorem dX10_howOld_88 : decode cX10_howOld 88 = .ok (.iload_n 2, 1) := by decide +kernel
theorem dX10_howOld_89 : decode cX10_howOld 89 = .ok (.if_icmp .gt 43, 3) := by decide +kernel
theorem dX10_howOld_92 : decode cX10_howOld 92 = .ok (.aload_n 0, 1) := by decide +kernel
theorem dX10_howOld_93 : decode cX10_howOld 93 = .ok (.getfield 86, 3) := by decide +kernel
theorem dX10_howOld_96 : decode cX10_howOld 96 = .ok (.iload 7, 2) := by decide +kernel
theorem dX10_howOld_98 : decode cX10_howOld 98 = .ok (.iload 5, 2) := by decide +kernel
theorem dX10_howOld_100 : decode cX10_howOld 100 = .ok (.imul, 1) := by decide +kernel
theorem dX10_howOld_101 : decode cX10_howOld 101 = .ok (.iload 8, 2) := by decide +kernel
theorem dX10_howOld_103 : decode cX10_howOld 103 = .ok (.iadd, 1) := by decide +kernel
theorem dX10_howOld_104 : decode cX10_howOld 104 = .ok (.dup2, 1) := by decide +kernel
theorem dX10_howOld_105 : decode cX10_howOld 105 = .ok (.laload, 1) := by decide +kernel
theorem dX10_howOld_106 : decode cX10_howOld 106 = .ok (.aload_n 0, 1) := by decide +kernel
theorem dX10_howOld_107 : decode cX10_howOld 107 = .ok (.getfield 86, 3) := by decide +kernel
theorem dX10_howOld_110 : decode cX10_howOld 110 = .ok (.iload 7, 2) := by decide +kernel
theorem dX10_howOld_112 : decode cX10_howOld 112 = .ok (.iconst 1, 1) := by decide +kernel
theorem dX10_howOld_113 : decode cX10_howOld 113 = .ok (.isub, 1) := by decide +kernel
theorem dX10_howOld_114 : decode cX10_howOld 114 = .ok (.iload 5, 2) := by decide +kernel
theorem dX10_howOld_116 : decode cX10_howOld 116 = .ok (.imul, 1) := by decide +kernel
theorem dX10_howOld_117 : decode cX10_howOld 117 = .ok (.iload 8, 2) := by decide +kernel
theorem dX10_howOld_119 : decode cX10_howOld 119 = .ok (.iadd, 1) := by decide +kernel
theorem dX10_howOld_120 : decode cX10_howOld 120 = .ok (.iload 6, 2) := by decide +kernel
theorem dX10_howOld_122 : decode cX10_howOld 122 = .ok (.isub, 1) := by decide +kernel
theorem dX10_howOld_123 : decode cX10_howOld 123 = .ok (.laload, 1) := by decide +kernel
theorem dX10_howOld_124 : decode cX10_howOld 124 = .ok (.ladd, 1) := by decide +kernel
theorem dX10_howOld_125 : decode cX10_howOld 125 = .ok (.lastore, 1) := by decide +kernel
theorem dX10_howOld_126 : decode cX10_howOld 126 = .ok (.iinc 8 1, 3) := by decide +kernel
theorem dX10_howOld_129 : decode cX10_howOld 129 = .ok (.goto (-43), 3) := by decide +kernel
theorem dX10_howOld_132 : decode cX10_howOld 132 = .ok (.iinc 7 1, 3) := by decide +kernel
theorem dX10_howOld_135 : decode cX10_howOld 135 = .ok (.goto (-59), 3) := by decide +kernel
theorem dX10_howOld_138 : decode cX10_howOld 138 = .ok (.iinc 6 1, 3) := by decide +kernel
theorem dX10_howOld_141 : decode cX10_howOld 141 = .ok (.goto (-75), 3) := by decide +kernel
theorem dX10_howOld_144 : decode cX10_howOld 144 = .ok (.aload_n 0, 1) := by decide +kernel
theorem dX10_howOld_145 : decode cX10_howOld 145 = .ok (.getfield 86, 3) := by decide +kernel
theorem dX10_howOld_148 : decode cX10_howOld 148 = .ok (.iload_n 1, 1) := by decide +kernel
theorem dX10_howOld_149 : decode cX10_howOld 149 = .ok (.iload 5, 2) := by decide +kernel
theorem dX10_howOld_151 : decode cX10_howOld 151 = .ok (.imul, 1) := by decide +kernel
theorem dX10_howOld_152 : decode cX10_howOld 152 = .ok (.iload_n 2, 1) := by decide +kernel
theorem dX10_howOld_153 : decode cX10_howOld 153 = .ok (.iadd, 1) := by decide +kernel
theorem dX10_howOld_154 : decode cX10_howOld 154 = .ok (.laload, 1) := by decide +kernel
theorem dX10_howOld_155 : decode cX10_howOld 155 = .ok (.lreturn, 1) := by decide +kernel
theorem dX10_plain_0 : decode cX10_plain 0 = .ok (.aload_n 0, 1) := by decide +kernel
theorem dX10_plain_1 : decode cX10_plain 1 = .ok (.getfield 10, 3) := by decide +kernel
theorem dX10_plain_4 : decode cX10_plain 4 = .ok (.iload_n 1, 1) := by decide +kernel
theorem dX10_plain_5 : decode cX10_plain 5 = .ok (.invokevirtual 373, 3) := by decide +kernel
theorem dX10_plain_8 : decode cX10_plain 8 = .ok (.ifCond .eq 13, 3) := by decide +kernel
theorem dX10_plain_21 : decode cX10_plain 21 = .ok (.iconst 0, 1) := by decide +kernel
theorem dX10_plain_22 : decode cX10_plain 22 = .ok (.ireturn, 1) := by decide +kernel
theorem dX10_remarkIs_0 : decode cX10_remarkIs 0 = .ok (.aload_n 0, 1) := by decide +kernel
theorem dX10_remarkIs_1 : decode cX10_remarkIs 1 = .ok (.getfield 10, 3) := by decide +kernel
theorem dX10_remarkIs_4 : decode cX10_remarkIs 4 = .ok (.iload_n 1, 1) := by decide +kernel
theorem dX10_remarkIs_5 : decode cX10_remarkIs 5 = .ok (.invokevirtual 373, 3) := by decide +kernel
theorem dX10_remarkIs_8 : decode cX10_remarkIs 8 = .ok (.ifCond .ne 5, 3) := by decide +kernel
theorem dX10_remarkIs_11 : decode cX10_remarkIs 11 = .ok (.iconst (-1), 1) := by decide +kernel
theorem dX10_remarkIs_12 : decode cX10_remarkIs 12 = .ok (.ireturn, 1) := by decide +kernel
theorem dX11_init_0 : decode cX11_init 0 = .ok (.aload_n 0, 1) := by decide +kernel
theorem dX11_init_1 : decode cX11_init 1 = .ok (.invokespecial 1, 3) := by decide +kernel
theorem dX11_init_4 : decode cX11_init 4 = .ok (.aload_n 0, 1) := by decide +kernel
theorem dX11_init_5 : decode cX11_init 5 = .ok (.bipush 6, 2) := by decide +kernel
theorem dX11_init_7 : decode cX11_init 7 = .ok (.newarray .int, 2) := by decide +kernel
theorem dX11_init_9 : decode cX11_init 9 = .ok (.putfield 7, 3) := by decide +kernel
theorem dX11_init_12 : decode cX11_init 12 = .ok (.aload_n 0, 1) := by decide +kernel
theorem dX11_init_13 : decode cX11_init 13 = .ok (.bipush 6, 2) := by decide +kernel
theorem dX11_init_15 : decode cX11_init 15 = .ok (.newarray .int, 2) := by decide +kernel
theorem dX11_init_17 : decode cX11_init 17 = .ok (.putfield 13, 3) := by decide +kernel
theorem dX11_init_20 : decode cX11_init 20 = .ok (.aload_n 0, 1) := by decide +kernel
theorem dX11_init_21 : decode cX11_init 21 = .ok (.bipush 6, 2) := by decide +kernel
theorem dX11_init_23 : decode cX11_init 23 = .ok (.newarray .int, 2) := by decide +kernel
theorem dX11_init_25 : decode cX11_init 25 = .ok (.putfield 16, 3) := by decide +kernel
theorem dX11_init_28 : decode cX11_init 28 = .ok (.aload_n 0, 1) := by decide +kernel
theorem dX11_init_29 : decode cX11_init 29 = .ok (.bipush 36, 2) := by decide +kernel
theorem dX11_init_31 : decode cX11_init 31 = .ok (.newarray .int, 2) := by decide +kernel
theorem dX11_init_33 : decode cX11_init 33 = .ok (.putfield 19, 3) := by decide +kernel
theorem dX11_init_36 : decode cX11_init 36 = .ok (.aload_n 0, 1) := by decide +kernel
theorem dX11_init_37 : decode cX11_init 37 = .ok (.bipush 96, 2) := by decide +kernel
theorem dX11_init_39 : decode cX11_init 39 = .ok (.newarray .int, 2) := by decide +kernel
theorem dX11_init_41 : decode cX11_init 41 = .ok (.putfield 22, 3) := by decide +kernel
theorem dX11_init_44 : decode cX11_init 44 = .ok (.aload_n 0, 1) := by decide +kernel
theorem dX11_init_45 : decode cX11_init 45 = .ok (.bipush 16, 2) := by decide +kernel
theorem dX11_init_47 : decode cX11_init 47 = .ok (.newarray .int, 2) := by decide +kernel
theorem dX11_init_49 : decode cX11_init 49 = .ok (.putfield 25, 3) := by decide +kernel
theorem dX11_init_52 : decode cX11_init 52 = .ok (.aload_n 0, 1) := by decide +kernel
theorem dX11_init_53 : decode cX11_init 53 = .ok (.bipush 16, 2) := by decide +kernel
theorem dX11_init_55 : decode cX11_init 55 = .ok (.newarray .int, 2) := by decide +kernel
theorem dX11_init_57 : decode cX11_init 57 = .ok (.putfield 28, 3) := by decide +kernel
theorem dX11_init_60 : decode cX11_init 60 = .ok (.aload_n 0, 1) := by decide +kernel
theorem dX11_init_61 : decode cX11_init 61 = .ok (.bipush 16, 2) := by decide +kernel
theorem dX11_init_63 : decode cX11_init 63 = .ok (.newarray .int, 2) := by decide +kernel
theorem dX11_init_65 : decode cX11_init 65 = .ok (.putfield 31, 3) := by decide +kernel
theorem dX11_init_68 : decode cX11_init 68 = .ok (.aload_n 0, 1) := by decide +kernel
theorem dX11_init_69 : decode cX11_init 69 = .ok (.bipush 16, 2) := by decide +kernel
theorem dX11_init_71 : decode cX11_init 71 = .ok (.newarray .int, 2) := by decide +kernel
theorem dX11_init_73 : decode cX11_init 73 = .ok (.putfield 34, 3) := by decide +kernel
theorem dX11_init_76 : decode cX11_init 76 = .ok (.aload_n 0, 1) := by decide +kernel
theorem dX11_init_77 : decode cX11_init 77 = .ok (.bipush 16, 2) := by decide +kernel
theorem dX11_init_79 : decode cX11_init 79 = .ok (.newarray .int, 2) := by decide +kernel
theorem dX11_init_81 : decode cX11_init 81 = .ok (.putfield 37, 3) := by decide +kernel
theorem dX11_init_84 : decode cX11_init 84 = .ok (.aload_n 0, 1) := by decide +kernel
theorem dX11_init_85 : decode cX11_init 85 = .ok (.bipush 16, 2) := by decide +kernel
theorem dX11_init_87 : decode cX11_init 87 = .ok (.newarray .int, 2) := by decide +kernel
theorem dX11_init_89 : decode cX11_init 89 = .ok (.putfield 40, 3) := by decide +kernel
theorem dX11_init_92 : decode cX11_init 92 = .ok (.aload_n 0, 1) := by decide +kernel
theorem dX11_init_93 : decode cX11_init 93 = .ok (.sipush 260, 3) := by decide +kernel
theorem dX11_init_96 : decode cX11_init 96 = .ok (.newarray .byte, 2) := by decide +kernel
theorem dX11_init_98 : decode cX11_init 98 = .ok (.putfield 43, 3) := by decide +kernel
theorem dX11_init_101 : decode cX11_init 101 = .ok (.aload_n 0, 1) := by decide +kernel
theorem dX11_init_102 : decode cX11_init 102 = .ok (.bipush 49, 2) := by decide +kernel
theorem dX11_init_104 : decode cX11_init 104 = .ok (.newarray .int, 2) := by decide +kernel
theorem dX11_init_106 : decode cX11_init 106 = .ok (.putfield 47, 3) := by decide +kernel
theorem dX11_init_109 : decode cX11_init 109 = .ok (.aload_n 0, 1) := by decide +kernel
theorem dX11_init_110 : decode cX11_init 110 = .ok (.bipush 49, 2) := by decide +kernel
theorem dX11_init_112 : decode cX11_init 112 = .ok (.newarray .int, 2) := by decide +kernel
theorem dX11_init_114 : decode cX11_init 114 = .ok (.putfield 50, 3) := by decide +kernel
theorem dX11_init_117 : decode cX11_init 117 = .ok (.aload_n 0, 1) := by decide +kernel
theorem dX11_init_118 : decode cX11_init 118 = .ok (.bipush 7, 2) := by decide +kernel
theorem dX11_init_120 : decode cX11_init 120 = .ok (.newarray .int, 2) := by decide +kernel
theorem dX11_init_122 : decode cX11_init 122 = .ok (.putfield 53, 3) := by decide +kernel
theorem dX11_init_125 : decode cX11_init 125 = .ok (.aload_n 0, 1) := by decide +kernel
theorem dX11_init_126 : decode cX11_init 126 = .ok (.bipush 7, 2) := by decide +kernel
theorem dX11_init_128 : decode cX11_init 128 = .ok (.newarray .int, 2) := by decide +kernel
theorem dX11_init_130 : decode cX11_init 130 = .ok (.putfield 56, 3) := by decide +kernel
theorem dX11_init_133 : decode cX11_init 133 = .ok (.aload_n 0, 1) := by decide +kernel
theorem dX11_init_134 : decode cX11_init 134 = .ok (.bipush 7, 2) := by decide +kernel
theorem dX11_init_136 : decode cX11_init 136 = .ok (.newarray .int, 2) := by decide +kernel
theorem dX11_init_138 : decode cX11_init 138 = .ok (.putfield 59, 3) := by decide +kernel
theorem dX11_init_141 : decode cX11_init 141 = .ok (.aload_n 0, 1) := by decide +kernel
theorem dX11_init_142 : decode cX11_init 142 = .ok (.bipush 7, 2) := by decide +kernel
theorem dX11_init_144 : decode cX11_init 144 = .ok (.newarray .int, 2) := by decide +kernel
theorem dX11_init_146 : decode cX11_init 146 = .ok (.putfield 62, 3) := by decide +kernel
theorem dX11_init_149 : decode cX11_init 149 = .ok (.aload_n 0, 1) := by decide +kernel
theorem dX11_init_150 : decode cX11_init 150 = .ok (.bipush 7, 2) := by decide +kernel
theorem dX11_init_152 : decode cX11_init 152 = .ok (.newarray .int, 2) := by decide +kernel
theorem dX11_init_154 : decode cX11_init 154 = .ok (.putfield 65, 3) := by decide +kernel
theorem dX11_init_157 : decode cX11_init 157 = .ok (.aload_n 0, 1) := by decide +kernel
theorem dX11_init_158 : decode cX11_init 158 = .ok (.bipush 7, 2) := by decide +kernel
theorem dX11_init_160 : decode cX11_init 160 = .ok (.newarray .int, 2) := by decide +kernel
theorem dX11_init_162 : decode cX11_init 162 = .ok (.putfield 68, 3) := by decide +kernel
theorem dX11_init_165 : decode cX11_init 165 = .ok (.aload_n 0, 1) := by decide +kernel
theorem dX11_init_166 : decode cX11_init 166 = .ok (.bipush 7, 2) := by decide +kernel
theorem dX11_init_168 : decode cX11_init 168 = .ok (.newarray .int, 2) := by decide +kernel
theorem dX11_init_170 : decode cX11_init 170 = .ok (.putfield 71, 3) := by decide +kernel
theorem dX11_init_173 : decode cX11_init 173 = .ok (.aload_n 0, 1) := by decide +kernel
theorem dX11_init_174 : decode cX11_init 174 = .ok (.bipush 7, 2) := by decide +kernel
theorem dX11_init_176 : decode cX11_init 176 = .ok (.newarray .int, 2) := by decide +kernel
theorem dX11_init_178 : decode cX11_init 178 = .ok (.putfield 74, 3) := by decide +kernel
theorem dX11_init_181 : decode cX11_init 181 = .ok (.aload_n 0, 1) := by decide +kernel
theorem dX11_init_182 : decode cX11_init 182 = .ok (.bipush 6, 2) := by decide +kernel
theorem dX11_init_184 : decode cX11_init 184 = .ok (.newarray .int, 2) := by decide +kernel
theorem dX11_init_186 : decode cX11_init 186 = .ok (.putfield 77, 3) := by decide +kernel
theorem dX11_init_189 : decode cX11_init 189 = .ok (.aload_n 0, 1) := by decide +kernel
theorem dX11_init_190 : decode cX11_init 190 = .ok (.sipush 1024, 3) := by decide +kernel
theorem dX11_init_193 : decode cX11_init 193 = .ok (.newarray .int, 2) := by decide +kernel
theorem dX11_init_195 : decode cX11_init 195 = .ok (.putfield 80, 3) := by decide +kernel
theorem dX11_init_198 : decode cX11_init 198 = .ok (.aload_n 0, 1) := by decide +kernel
theorem dX11_init_199 : decode cX11_init 199 = .ok (.bipush 100, 2) := by decide +kernel
theorem dX11_init_201 : decode cX11_init 201 = .ok (.newarray .int, 2) := by decide +kernel
theorem dX11_init_203 : decode cX11_init 203 = .ok (.putfield 83, 3) := by decide +kernel
theorem dX11_init_206 : decode cX11_init 206 = .ok (.aload_n 0, 1) := by decide +kernel
theorem dX11_init_207 : decode cX11_init 207 = .ok (.sipush 12000, 3) := by decide +kernel
theorem dX11_init_210 : decode cX11_init 210 = .ok (.newarray .byte, 2) := by decide +kernel
theorem dX11_init_212 : decode cX11_init 212 = .ok (.putfield 86, 3) := by decide +kernel
theorem dX11_init_215 : decode cX11_init 215 = .ok (.aload_n 0, 1) := by decide +kernel
theorem dX11_init_216 : decode cX11_init 216 = .ok (.sipush 2000, 3) := by decide +kernel
theorem dX11_init_219 : decode cX11_init 219 = .ok (.newarray .int, 2) := by decide +kernel
theorem dX11_init_221 : decode cX11_init 221 = .ok (.putfield 89, 3) := by decide +kernel
theorem dX11_init_224 : decode cX11_init 224 = .ok (.aload_n 0, 1) := by decide +kernel
theorem dX11_init_225 : decode cX11_init 225 = .ok (.sipush 2000, 3) := by decide +kernel
theorem dX11_init_228 : decode cX11_init 228 = .ok (.newarray .boolean, 2) := by decide +kernel
theorem dX11_init_230 : decode cX11_init 230 = .ok (.putfield 92, 3) := by decide +kernel
theorem dX11_init_233 : decode cX11_init 233 = .ok (.aload_n 0, 1) := by decide +kernel
theorem dX11_init_234 : decode cX11_init 234 = .ok (.bipush 6, 2) := by decide +kernel
theorem dX11_init_236 : decode cX11_init 236 = .ok (.newarray .int, 2) := by decide +kernel
theorem dX11_init_238 : decode cX11_init 238 = .ok (.putfield 96, 3) := by decide +kernel
theorem dX11_init_241 : decode cX11_init 241 = .ok (.aload_n 0, 1) := by decide +kernel
theorem dX11_init_242 : decode cX11_init 242 = .ok (.bipush 6, 2) := by decide +kernel
theorem dX11_init_244 : decode cX11_init 244 = .ok (.newarray .int, 2) := by decide +kernel
theorem dX11_init_246 : decode cX11_init 246 = .ok (.putfield 99, 3) := by decide +kernel
theorem dX11_init_249 : decode cX11_init 249 = .ok (.aload_n 0, 1) := by decide +kernel
theorem dX11_init_250 : decode cX11_init 250 = .ok (.bipush 6, 2) := by decide +kernel
theorem dX11_init_252 : decode cX11_init 252 = .ok (.newarray .int, 2) := by decide +kernel
theorem dX11_init_254 : decode cX11_init 254 = .ok (.putfield 102, 3) := by decide +kernel
theorem dX11_init_257 : decode cX11_init 257 = .ok (.aload_n 0, 1) := by decide +kernel
theorem dX11_init_258 : decode cX11_init 258 = .ok (.bipush 6, 2) := by decide +kernel
theorem dX11_init_260 : decode cX11_init 260 = .ok (.newarray .int, 2) := by decide +kernel
theorem dX11_init_262 : decode cX11_init 262 = .ok (.putfield 105, 3) := by decide +kernel
theorem dX11_init_265 : decode cX11_init 265 = .ok (.aload_n 0, 1) := by decide +kernel
theorem dX11_init_266 : decode cX11_init 266 = .ok (.bipush 6, 2) := by decide +kernel
theorem dX11_init_268 : decode cX11_init 268 = .ok (.newarray .int, 2) := by decide +kernel
theorem dX11_init_270 : decode cX11_init 270 = .ok (.putfield 108, 3) := by decide +kernel
theorem dX11_init_273 : decode cX11_init 273 = .ok (.aload_n 0, 1) := by decide +kernel
theorem dX11_init_274 : decode cX11_init 274 = .ok (.bipush 6, 2) := by decide +kernel
theorem dX11_init_276 : decode cX11_init 276 = .ok (.newarray .int, 2) := by decide +kernel
theorem dX11_init_278 : decode cX11_init 278 = .ok (.putfield 111, 3) := by decide +kernel
theorem dX11_init_281 : decode cX11_init 281 = .ok (.aload_n 0, 1) := by decide +kernel
theorem dX11_init_282 : decode cX11_init 282 = .ok (.iconst 3, 1) := by decide +kernel
theorem dX11_init_283 : decode cX11_init 283 = .ok (.newarray .int, 2) := by decide +kernel
theorem dX11_init_285 : decode cX11_init 285 = .ok (.putfield 114, 3) := by decide +kernel
theorem dX11_init_288 : decode cX11_init 288 = .ok (.aload_n 0, 1) := by decide +kernel
theorem dX11_init_289 : decode cX11_init 289 = .ok (.iconst 3, 1) := by decide +kernel
theorem dX11_init_290 : decode cX11_init 290 = .ok (.newarray .int, 2) := by decide +kernel
theorem dX11_init_292 : decode cX11_init 292 = .ok (.putfield 117, 3) := by decide +kernel
theorem dX11_init_295 : decode cX11_init 295 = .ok (.aload_n 0, 1) := by decide +kernel
theorem dX11_init_296 : decode cX11_init 296 = .ok (.sipush 9261, 3) := by decide +kernel
theorem dX11_init_299 : decode cX11_init 299 = .ok (.newarray .int, 2) := by decide +kernel
theorem dX11_init_301 : decode cX11_init 301 = .ok (.putfield 120, 3) := by decide +kernel
theorem dX11_init_304 : decode cX11_init 304 = .ok (.aload_n 0, 1) := by decide +kernel
theorem dX11_init_305 : decode cX11_init 305 = .ok (.sipush 9261, 3) := by decide +kernel
theorem dX11_init_308 : decode cX11_init 308 = .ok (.newarray .int, 2) := by decide +kernel
theorem dX11_init_310 : decode cX11_init 310 = .ok (.putfield 123, 3) := by decide +kernel
theorem dX11_init_313 : decode cX11_init 313 = .ok (.aload_n 0, 1) := by decide +kernel
theorem dX11_init_314 : decode cX11_init 314 = .ok (.sipush 2807, 3) := by decide +kernel
theorem dX11_init_317 : decode cX11_init 317 = .ok (.newarray .long, 2) := by decide +kernel
theorem dX11_init_319 : decode cX11_init 319 = .ok (.putfield 126, 3) := by decide +kernel
theorem dX11_init_322 : decode cX11_init 322 = .ok (.aload_n 0, 1) := by decide +kernel
theorem dX11_init_323 : decode cX11_init 323 = .ok (.sipush 249, 3) := by decide +kernel
theorem dX11_init_326 : decode cX11_init 326 = .ok (.newarray .int, 2) := by decide +kernel
theorem dX11_init_328 : decode cX11_init 328 = .ok (.putfield 130, 3) := by decide +kernel
theorem dX11_init_331 : decode cX11_init 331 = .ok (.iconst 0, 1) := by decide +kernel
theorem dX11_init_332 : decode cX11_init 332 = .ok (.istore_n 1, 1) := by decide +kernel
theorem dX11_init_333 : decode cX11_init 333 = .ok (.iload_n 1, 1) := by decide +kernel
theorem dX11_init_334 : decode cX11_init 334 = .ok (.bipush 6, 2) := by decide +kernel
theorem dX11_init_336 : decode cX11_init 336 = .ok (.if_icmp .ge 43, 3) := by decide +kernel
theorem dX11_init_339 : decode cX11_init 339 = .ok (.aload_n 0, 1) := by decide +kernel
theorem dX11_init_340 : decode cX11_init 340 = .ok (.getfield 16, 3) := by decide +kernel
theorem dX11_init_343 : decode cX11_init 343 = .ok (.iload_n 1, 1) := by decide +kernel
theorem dX11_init_344 : decode cX11_init 344 = .ok (.bipush 100, 2) := by decide +kernel
theorem dX11_init_346 : decode cX11_init 346 = .ok (.iastore, 1) := by decide +kernel
theorem dX11_init_347 : decode cX11_init 347 = .ok (.iconst 0, 1) := by decide +kernel
theorem dX11_init_348 : decode cX11_init 348 = .ok (.istore_n 2, 1) := by decide +kernel
theorem dX11_init_349 : decode cX11_init 349 = .ok (.iload_n 2, 1) := by decide +kernel
theorem dX11_init_350 : decode cX11_init 350 = .ok (.bipush 6, 2) := by decide +kernel
theorem dX11_init_352 : decode cX11_init 352 = .ok (.if_icmp .ge 21, 3) := by decide +kernel
theorem dX11_init_355 : decode cX11_init 355 = .ok (.aload_n 0, 1) := by decide +kernel
theorem dX11_init_356 : decode cX11_init 356 = .ok (.getfield 19, 3) := by decide +kernel
theorem dX11_init_359 : decode cX11_init 359 = .ok (.bipush 6, 2) := by decide +kernel
theorem dX11_init_361 : decode cX11_init 361 = .ok (.iload_n 1, 1) := by decide +kernel
theorem dX11_init_362 : decode cX11_init 362 = .ok (.imul, 1) := by decide +kernel
theorem dX11_init_363 : decode cX11_init 363 = .ok (.iload_n 2, 1) := by decide +kernel
theorem dX11_init_364 : decode cX11_init 364 = .ok (.iadd, 1) := by decide +kernel
theorem dX11_init_365 : decode cX11_init 365 = .ok (.iconst (-1), 1) := by decide +kernel
theorem dX11_init_366 : decode cX11_init 366 = .ok (.iastore, 1) := by decide +kernel
theorem dX11_init_367 : decode cX11_init 367 = .ok (.iinc 2 1, 3) := by decide +kernel
theorem dX11_init_370 : decode cX11_init 370 = .ok (.goto (-21), 3) := by decide +kernel
theorem dX11_init_373 : decode cX11_init 373 = .ok (.iinc 1 1, 3) := by decide +kernel
theorem dX11_init_376 : decode cX11_init 376 = .ok (.goto (-43), 3) := by decide +kernel
theorem dX11_init_379 : decode cX11_init 379 = .ok (.return_, 1) := by decide +kernel
theorem dX11_in_0 : decode cX11_in 0 = .ok (.iload_n 0, 1) := by decide +kernel
theorem dX11_in_1 : decode cX11_in 1 = .ok (.iload_n 1, 1) := by decide +kernel
theorem dX11_in_2 : decode cX11_in 2 = .ok (.if_icmp .lt 12, 3) := by decide +kernel
theorem dX11_in_5 : decode cX11_in 5 = .ok (.iload_n 0, 1) := by decide +kernel
theorem dX11_in_6 : decode cX11_in 6 = .ok (.iload_n 2, 1) := by decide +kernel
theorem dX11_in_7 : decode cX11_in 7 = .ok (.if_icmp .gt 7, 3) := by decide +kernel
theorem dX11_in_10 : decode cX11_in 10 = .ok (.iconst 1, 1) := by decide +kernel
theorem dX11_in_11 : decode cX11_in 11 = .ok (.goto 4, 3) := by decide +kernel
theorem dX11_in_14 : decode cX11_in 14 = .ok (.iconst 0, 1) := by decide +kernel
theorem dX11_in_15 : decode cX11_in 15 = .ok (.ireturn, 1) := by decide +kernel
theorem dX11_has_0 : decode cX11_has 0 = .ok (.iload_n 0, 1) := by decide +kernel
theorem dX11_has_1 : decode cX11_has 1 = .ok (.iload_n 1, 1) := by decide +kernel
theorem dX11_has_2 : decode cX11_has 2 = .ok (.ishr, 1) := by decide +kernel
theorem dX11_has_3 : decode cX11_has 3 = .ok (.iconst 1, 1) := by decide +kernel
theorem dX11_has_4 : decode cX11_has 4 = .ok (.iand, 1) := by decide +kernel
theorem dX11_has_5 : decode cX11_has 5 = .ok (.iconst 1, 1) := by decide +kernel
theorem dX11_has_6 : decode cX11_has 6 = .ok (.if_icmp .ne 7, 3) := by decide +kernel
theorem dX11_has_13 : decode cX11_has 13 = .ok (.iconst 0, 1) := by decide +kernel
theorem dX11_has_14 : decode cX11_has 14 = .ok (.ireturn, 1) := by decide +kernel
theorem dX11_bits_0 : decode cX11_bits 0 = .ok (.iconst 0, 1) := by decide +kernel
theorem dX11_bits_1 : decode cX11_bits 1 = .ok (.istore_n 1, 1) := by decide +kernel
theorem dX11_bits_2 : decode cX11_bits 2 = .ok (.iconst 0, 1) := by decide +kernel
theorem dX11_bits_3 : decode cX11_bits 3 = .ok (.istore_n 2, 1) := by decide +kernel
theorem dX11_bits_4 : decode cX11_bits 4 = .ok (.iload_n 2, 1) := by decide +kernel
theorem dX11_bits_5 : decode cX11_bits 5 = .ok (.bipush 16, 2) := by decide +kernel
theorem dX11_bits_7 : decode cX11_bits 7 = .ok (.if_icmp .ge 17, 3) := by decide +kernel
theorem dX11_bits_10 : decode cX11_bits 10 = .ok (.iload_n 1, 1) := by decide +kernel
theorem dX11_bits_11 : decode cX11_bits 11 = .ok (.iload_n 0, 1) := by decide +kernel
theorem dX11_bits_12 : decode cX11_bits 12 = .ok (.iload_n 2, 1) := by decide +kernel
theorem dX11_bits_13 : decode cX11_bits 13 = .ok (.ishr, 1) := by decide +kernel
theorem dX11_bits_14 : decode cX11_bits 14 = .ok (.iconst 1, 1) := by decide +kernel
theorem dX11_bits_15 : decode cX11_bits 15 = .ok (.iand, 1) := by decide +kernel
theorem dX11_bits_16 : decode cX11_bits 16 = .ok (.iadd, 1) := by decide +kernel
theorem dX11_bits_17 : decode cX11_bits 17 = .ok (.istore_n 1, 1) := by decide +kernel
theorem dX11_bits_18 : decode cX11_bits 18 = .ok (.iinc 2 1, 3) := by decide +kernel
theorem dX11_bits_21 : decode cX11_bits 21 = .ok (.goto (-17), 3) := by decide +kernel
theorem dX11_bits_24 : decode cX11_bits 24 = .ok (.iload_n 1, 1) := by decide +kernel
theorem dX11_bits_25 : decode cX11_bits 25 = .ok (.ireturn, 1) := by decide +kernel
theorem dX11_isPerson_0 : decode cX11_isPerson 0 = .ok (.iload_n 1, 1) := by decide +kernel
theorem dX11_isPerson_1 : decode cX11_isPerson 1 = .ok (.iconst 0, 1) := by decide +kernel
theorem dX11_isPerson_2 : decode cX11_isPerson 2 = .ok (.iconst 5, 1) := by decide +kernel
theorem dX11_isPerson_3 : decode cX11_isPerson 3 = .ok (.invokestatic 137, 3) := by decide +kernel
theorem dX11_isPerson_6 : decode cX11_isPerson 6 = .ok (.ifCond .eq 18, 3) := by decide +kernel
theorem dX11_isPerson_9 : decode cX11_isPerson 9 = .ok (.aload_n 0, 1) := by decide +kernel
theorem dX11_isPerson_10 : decode cX11_isPerson 10 = .ok (.getfield 141, 3) := by decide +kernel
theorem dX11_isPerson_13 : decode cX11_isPerson 13 = .ok (.iload_n 1, 1) := by decide +kernel
theorem dX11_isPerson_14 : decode cX11_isPerson 14 = .ok (.invokestatic 133, 3) := by decide +kernel
theorem dX11_isPerson_17 : decode cX11_isPerson 17 = .ok (.ifCond .eq 7, 3) := by decide +kernel
theorem dX11_isPerson_24 : decode cX11_isPerson 24 = .ok (.iconst 0, 1) := by decide +kernel
theorem dX11_isPerson_25 : decode cX11_isPerson 25 = .ok (.ireturn, 1) := by decide +kernel
theorem dX11_areTwo_0 : decode cX11_areTwo 0 = .ok (.aload_n 0, 1) := by decide +kernel
theorem dX11_areTwo_1 : decode cX11_areTwo 1 = .ok (.iload_n 1, 1) := by decide +kernel
theorem dX11_areTwo_2 : decode cX11_areTwo 2 = .ok (.invokevirtual 145, 3) := by decide +kernel
theorem dX11_areTwo_5 : decode cX11_areTwo 5 = .ok (.ifCond .eq 20, 3) := by decide +kernel
theorem dX11_areTwo_25 : decode cX11_areTwo 25 = .ok (.iconst 0, 1) := by decide +kernel
theorem dX11_areTwo_26 : decode cX11_areTwo 26 = .ok (.ireturn, 1) := by decide +kernel
theorem dX11_isRemark_0 : decode cX11_isRemark 0 = .ok (.iload_n 1, 1) := by decide +kernel
theorem dX11_isRemark_1 : decode cX11_isRemark 1 = .ok (.iconst 0, 1) := by decide +kernel
theorem dX11_isRemark_2 : decode cX11_isRemark 2 = .ok (.bipush 9, 2) := by decide +kernel
theorem dX11_isRemark_4 : decode cX11_isRemark 4 = .ok (.invokestatic 137, 3) := by decide +kernel
theorem dX11_isRemark_7 : decode cX11_isRemark 7 = .ok (.ifCond .eq 18, 3) := by decide +kernel
theorem dX11_isRemark_10 : decode cX11_isRemark 10 = .ok (.aload_n 0, 1) := by decide +kernel
theorem dX11_isRemark_11 : decode cX11_isRemark 11 = .ok (.getfield 149, 3) := by decide +kernel
theorem dX11_isRemark_14 : decode cX11_isRemark 14 = .ok (.iload_n 1, 1) := by decide +kernel
theorem dX11_isRemark_15 : decode cX11_isRemark 15 = .ok (.invokestatic 133, 3) := by decide +kernel
theorem dX11_isRemark_18 : decode cX11_isRemark 18 = .ok (.ifCond .eq 7, 3) := by decide +kernel
theorem dX11_isRemark_25 : decode cX11_isRemark 25 = .ok (.iconst 0, 1) := by decide +kernel
theorem dX11_isRemark_26 : decode cX11_isRemark 26 = .ok (.ireturn, 1) := by decide +kernel
theorem dX11_isForm_0 : decode cX11_isForm 0 = .ok (.iload_n 1, 1) := by decide +kernel
theorem dX11_isForm_1 : decode cX11_isForm 1 = .ok (.iconst 0, 1) := by decide +kernel
theorem dX11_isForm_2 : decode cX11_isForm 2 = .ok (.iconst 5, 1) := by decide +kernel
theorem dX11_isForm_3 : decode cX11_isForm 3 = .ok (.invokestatic 137, 3) := by decide +kernel
theorem dX11_isForm_6 : decode cX11_isForm 6 = .ok (.ifCond .eq 21, 3) := by decide +kernel
theorem dX11_isForm_9 : decode cX11_isForm 9 = .ok (.aload_n 0, 1) := by decide +kernel
theorem dX11_isForm_10 : decode cX11_isForm 10 = .ok (.getfield 149, 3) := by decide +kernel
theorem dX11_isForm_13 : decode cX11_isForm 13 = .ok (.bipush 10, 2) := by decide +kernel
theorem dX11_isForm_15 : decode cX11_isForm 15 = .ok (.iload_n 1, 1) := by decide +kernel
theorem dX11_isForm_16 : decode cX11_isForm 16 = .ok (.iadd, 1) := by decide +kernel
theorem dX11_isForm_17 : decode cX11_isForm 17 = .ok (.invokestatic 133, 3) := by decide +kernel
theorem dX11_isForm_20 : decode cX11_isForm 20 = .ok (.ifCond .eq 7, 3) := by decide +kernel
theorem dX11_isForm_27 : decode cX11_isForm 27 = .ok (.iconst 0, 1) := by decide +kernel
theorem dX11_isForm_28 : decode cX11_isForm 28 = .ok (.ireturn, 1) := by decide +kernel
theorem dX11_toldRemarks_0 : decode cX11_toldRemarks 0 = .ok (.aload_n 0, 1) := by decide +kernel
theorem dX11_toldRemarks_1 : decode cX11_toldRemarks 1 = .ok (.getfield 149, 3) := by decide +kernel
theorem dX11_toldRemarks_4 : decode cX11_toldRemarks 4 = .ok (.sipush 1023, 3) := by decide +kernel
theorem dX11_toldRemarks_7 : decode cX11_toldRemarks 7 = .ok (.iand, 1) := by decide +kernel
theorem dX11_toldRemarks_8 : decode cX11_toldRemarks 8 = .ok (.ireturn, 1) := by decide +kernel
theorem dX11_areRemarks_0 : decode cX11_areRemarks 0 = .ok (.iload_n 1, 1) := by decide +kernel
theorem dX11_areRemarks_1 : decode cX11_areRemarks 1 = .ok (.ifCond .lt 18, 3) := by decide +kernel
theorem dX11_areRemarks_4 : decode cX11_areRemarks 4 = .ok (.iload_n 1, 1) := by decide +kernel
theorem dX11_areRemarks_5 : decode cX11_areRemarks 5 = .ok (.aload_n 0, 1) := by decide +kernel
theorem dX11_areRemarks_6 : decode cX11_areRemarks 6 = .ok (.invokevirtual 152, 3) := by decide +kernel
theorem dX11_areRemarks_9 : decode cX11_areRemarks 9 = .ok (.iconst (-1), 1) := by decide +kernel
theorem dX11_areRemarks_10 : decode cX11_areRemarks 10 = .ok (.ixor, 1) := by decide +kernel
theorem dX11_areRemarks_11 : decode cX11_areRemarks 11 = .ok (.iand, 1) := by decide +kernel
theorem dX11_areRemarks_12 : decode cX11_areRemarks 12 = .ok (.ifCond .ne 7, 3) := by decide +kernel
theorem dX11_areRemarks_15 : decode cX11_areRemarks 15 = .ok (.iconst 1, 1) := by decide +kernel
theorem dX11_areRemarks_16 : decode cX11_areRemarks 16 = .ok (.goto 4, 3) := by decide +kernel
theorem dX11_areRemarks_19 : decode cX11_areRemarks 19 = .ok (.iconst 0, 1) := by decide +kernel
theorem dX11_areRemarks_20 : decode cX11_areRemarks 20 = .ok (.ireturn, 1) := by decide +kernel
theorem dX11_person_0 : decode cX11_person 0 = .ok (.iload_n 1, 1) := by decide +kernel
theorem dX11_person_1 : decode cX11_person 1 = .ok (.iconst 0, 1) := by decide +kernel
theorem dX11_person_2 : decode cX11_person 2 = .ok (.iconst 5, 1) := by decide +kernel
theorem dX11_person_3 : decode cX11_person 3 = .ok (.invokestatic 137, 3) := by decide +kernel
theorem dX11_person_6 : decode cX11_person 6 = .ok (.ifCond .eq 23, 3) := by decide +kernel
theorem dX11_person_9 : decode cX11_person 9 = .ok (.iload_n 2, 1) := by decide +kernel
theorem dX11_person_10 : decode cX11_person 10 = .ok (.iconst 0, 1) := by decide +kernel
theorem dX11_person_11 : decode cX11_person 11 = .ok (.bipush 99, 2) := by decide +kernel
theorem dX11_person_13 : decode cX11_person 13 = .ok (.invokestatic 137, 3) := by decide +kernel
theorem dX11_person_16 : decode cX11_person 16 = .ok (.ifCond .eq 13, 3) := by decide +kernel
theorem dX11_person_19 : decode cX11_person 19 = .ok (.iload_n 3, 1) := by decide +kernel
theorem dX11_person_20 : decode cX11_person 20 = .ok (.iload_n 2, 1) := by decide +kernel
theorem dX11_person_21 : decode cX11_person 21 = .ok (.bipush 99, 2) := by decide +kernel
theorem dX11_person_23 : decode cX11_person 23 = .ok (.invokestatic 137, 3) := by decide +kernel
theorem dX11_person_26 : decode cX11_person 26 = .ok (.ifCond .ne 5, 3) := by decide +kernel
theorem dX11_person_29 : decode cX11_person 29 = .ok (.iconst 0, 1) := by decide +kernel
theorem dX11_person_30 : decode cX11_person 30 = .ok (.ireturn, 1) := by decide +kernel
theorem dX11_person_31 : decode cX11_person 31 = .ok (.aload_n 0, 1) := by decide +kernel
theorem dX11_person_32 : decode cX11_person 32 = .ok (.aload_n 0, 1) := by decide +kernel
theorem dX11_person_33 : decode cX11_person 33 = .ok (.getfield 141, 3) := by decide +kernel
theorem dX11_person_36 : decode cX11_person 36 = .ok (.iconst 1, 1) := by decide +kernel
theorem dX11_person_37 : decode cX11_person 37 = .ok (.iload_n 1, 1) := by decide +kernel
theorem dX11_person_38 : decode cX11_person 38 = .ok (.ishl, 1) := by decide +kernel
theorem dX11_person_39 : decode cX11_person 39 = .ok (.ior, 1) := by decide +kernel
theorem dX11_person_40 : decode cX11_person 40 = .ok (.putfield 141, 3) := by decide +kernel
theorem dX11_person_43 : decode cX11_person 43 = .ok (.aload_n 0, 1) := by decide +kernel
theorem dX11_person_44 : decode cX11_person 44 = .ok (.getfield 7, 3) := by decide +kernel
theorem dX11_person_47 : decode cX11_person 47 = .ok (.iload_n 1, 1) := by decide +kernel
theorem dX11_person_48 : decode cX11_person 48 = .ok (.iload_n 2, 1) := by decide +kernel
theorem dX11_person_49 : decode cX11_person 49 = .ok (.iastore, 1) := by decide +kernel
theorem dX11_person_50 : decode cX11_person 50 = .ok (.aload_n 0, 1) := by decide +kernel
theorem dX11_person_51 : decode cX11_person 51 = .ok (.getfield 13, 3) := by decide +kernel
theorem dX11_person_54 : decode cX11_person 54 = .ok (.iload_n 1, 1) := by decide +kernel
theorem dX11_person_55 : decode cX11_person 55 = .ok (.iload_n 3, 1) := by decide +kernel
theorem dX11_person_56 : decode cX11_person 56 = .ok (.iastore, 1) := by decide +kernel
theorem dX11_person_57 : decode cX11_person 57 = .ok (.aload_n 0, 1) := by decide +kernel
theorem dX11_person_58 : decode cX11_person 58 = .ok (.getfield 16, 3) := by decide +kernel
theorem dX11_person_61 : decode cX11_person 61 = .ok (.iload_n 1, 1) := by decide +kernel
theorem dX11_person_62 : decode cX11_person 62 = .ok (.bipush 100, 2) := by decide +kernel
theorem dX11_person_64 : decode cX11_person 64 = .ok (.iastore, 1) := by decide +kernel
theorem dX11_person_65 : decode cX11_person 65 = .ok (.iconst 1, 1) := by decide +kernel
theorem dX11_person_66 : decode cX11_person 66 = .ok (.ireturn, 1) := by decide +kernel
theorem dX11_dies_0 : decode cX11_dies 0 = .ok (.aload_n 0, 1) := by decide +kernel
theorem dX11_dies_1 : decode cX11_dies 1 = .ok (.iload_n 1, 1) := by decide +kernel
theorem dX11_dies_2 : decode cX11_dies 2 = .ok (.invokevirtual 145, 3) := by decide +kernel
theorem dX11_dies_5 : decode cX11_dies 5 = .ok (.ifCond .eq 13, 3) := by decide +kernel
theorem dX11_dies_18 : decode cX11_dies 18 = .ok (.iconst 0, 1) := by decide +kernel
theorem dX11_dies_19 : decode cX11_dies 19 = .ok (.ireturn, 1) := by decide +kernel
theorem dX11_years_0 : decode cX11_years 0 = .ok (.iload_n 1, 1) := by decide +kernel
theorem dX11_years_1 : decode cX11_years 1 = .ok (.iconst 1, 1) := by decide +kernel
theorem dX11_years_2 : decode cX11_years 2 = .ok (.bipush 99, 2) := by decide +kernel
theorem dX11_years_4 : decode cX11_years 4 = .ok (.invokestatic 137, 3) := by decide +kernel
theorem dX11_years_7 : decode cX11_years 7 = .ok (.ifCond .eq 14, 3) := by decide +kernel
theorem dX11_years_10 : decode cX11_years 10 = .ok (.aload_n 0, 1) := by decide +kernel
theorem dX11_years_11 : decode cX11_years 11 = .ok (.getfield 156, 3) := by decide +kernel
theorem dX11_years_14 : decode cX11_years 14 = .ok (.iload_n 1, 1) := by decide +kernel
theorem dX11_years_15 : decode cX11_years 15 = .ok (.iadd, 1) := by decide +kernel
theorem dX11_years_16 : decode cX11_years 16 = .ok (.bipush 99, 2) := by decide +kernel
theorem dX11_years_18 : decode cX11_years 18 = .ok (.if_icmp .le 5, 3) := by decide +kernel
theorem dX11_years_21 : decode cX11_years 21 = .ok (.iconst (-1), 1) := by decide +kernel
theorem dX11_years_22 : decode cX11_years 22 = .ok (.ireturn, 1) := by decide +kernel
theorem dX11_years_23 : decode cX11_years 23 = .ok (.aload_n 0, 1) := by decide +kernel
theorem dX11_years_24 : decode cX11_years 24 = .ok (.aload_n 0, 1) := by decide +kernel
theorem dX11_years_25 : decode cX11_years 25 = .ok (.getfield 156, 3) := by decide +kernel
theorem dX11_years_28 : decode cX11_years 28 = .ok (.iload_n 1, 1) := by decide +kernel
theorem dX11_years_29 : decode cX11_years 29 = .ok (.iadd, 1) := by decide +kernel
theorem dX11_years_30 : decode cX11_years 30 = .ok (.putfield 156, 3) := by decide +kernel
theorem dX11_years_33 : decode cX11_years 33 = .ok (.aload_n 0, 1) := by decide +kernel
theorem dX11_years_34 : decode cX11_years 34 = .ok (.getfield 156, 3) := by decide +kernel
theorem dX11_years_37 : decode cX11_years 37 = .ok (.ireturn, 1) := by decide +kernel
theorem dX11_types_0 : decode cX11_types 0 = .ok (.iconst 3, 1) := by decide +kernel
theorem dX11_types_1 : decode cX11_types 1 = .ok (.istore_n 2, 1) := by decide +kernel
theorem dX11_types_2 : decode cX11_types 2 = .ok (.iload_n 2, 1) := by decide +kernel
theorem dX11_types_3 : decode cX11_types 3 = .ok (.ifCond .lt 35, 3) := by decide +kernel
theorem dX11_types_6 : decode cX11_types 6 = .ok (.aload_n 0, 1) := by decide +kernel
theorem dX11_types_7 : decode cX11_types 7 = .ok (.getfield 43, 3) := by decide +kernel
theorem dX11_types_10 : decode cX11_types 10 = .ok (.aload_n 0, 1) := by decide +kernel
theorem dX11_types_11 : decode cX11_types 11 = .ok (.getfield 159, 3) := by decide +kernel
theorem dX11_types_14 : decode cX11_types 14 = .ok (.iload_n 1, 1) := by decide +kernel
theorem dX11_types_15 : decode cX11_types 15 = .ok (.bipush 8, 2) := by decide +kernel
theorem dX11_types_17 : decode cX11_types 17 = .ok (.iload_n 2, 1) := by decide +kernel
theorem dX11_types_18 : decode cX11_types 18 = .ok (.imul, 1) := by decide +kernel
theorem dX11_types_19 : decode cX11_types 19 = .ok (.ishr, 1) := by decide +kernel
theorem dX11_types_20 : decode cX11_types 20 = .ok (.i2b, 1) := by decide +kernel
theorem dX11_types_21 : decode cX11_types 21 = .ok (.bastore, 1) := by decide +kernel
theorem dX11_types_22 : decode cX11_types 22 = .ok (.aload_n 0, 1) := by decide +kernel
theorem dX11_types_23 : decode cX11_types 23 = .ok (.aload_n 0, 1) := by decide +kernel
theorem dX11_types_24 : decode cX11_types 24 = .ok (.getfield 159, 3) := by decide +kernel
theorem dX11_types_27 : decode cX11_types 27 = .ok (.iconst 1, 1) := by decide +kernel
theorem dX11_types_28 : decode cX11_types 28 = .ok (.iadd, 1) := by decide +kernel
theorem dX11_types_29 : decode cX11_types 29 = .ok (.putfield 159, 3) := by decide +kernel
theorem dX11_types_32 : decode cX11_types 32 = .ok (.iinc 2 (-1), 3) := by decide +kernel
theorem dX11_types_35 : decode cX11_types 35 = .ok (.goto (-33), 3) := by decide +kernel
theorem dX11_types_38 : decode cX11_types 38 = .ok (.return_, 1) := by decide +kernel
theorem dX11_feed_0 : decode cX11_feed 0 = .ok (.aload_n 0, 1) := by decide +kernel
theorem dX11_feed_1 : decode cX11_feed 1 = .ok (.getfield 159, 3) := by decide +kernel
theorem dX11_feed_4 : decode cX11_feed 4 = .ok (.bipush 20, 2) := by decide +kernel
theorem dX11_feed_6 : decode cX11_feed 6 = .ok (.iadd, 1) := by decide +kernel
theorem dX11_feed_7 : decode cX11_feed 7 = .ok (.sipush 260, 3) := by decide +kernel
theorem dX11_feed_10 : decode cX11_feed 10 = .ok (.if_icmp .le 5, 3) := by decide +kernel
theorem dX11_feed_15 : decode cX11_feed 15 = .ok (.aload_n 0, 1) := by decide +kernel
theorem dX11_feed_16 : decode cX11_feed 16 = .ok (.iload_n 1, 1) := by decide +kernel
theorem dX11_feed_17 : decode cX11_feed 17 = .ok (.invokevirtual 162, 3) := by decide +kernel
theorem dX11_feed_20 : decode cX11_feed 20 = .ok (.aload_n 0, 1) := by decide +kernel
theorem dX11_feed_21 : decode cX11_feed 21 = .ok (.iload_n 2, 1) := by decide +kernel
theorem dX11_feed_22 : decode cX11_feed 22 = .ok (.invokevirtual 162, 3) := by decide +kernel
theorem dX11_feed_25 : decode cX11_feed 25 = .ok (.aload_n 0, 1) := by decide +kernel
theorem dX11_feed_26 : decode cX11_feed 26 = .ok (.iload_n 3, 1) := by decide +kernel
theorem dX11_feed_27 : decode cX11_feed 27 = .ok (.invokevirtual 162, 3) := by decide +kernel
theorem dX11_feed_30 : decode cX11_feed 30 = .ok (.aload_n 0, 1) := by decide +kernel
theorem dX11_feed_31 : decode cX11_feed 31 = .ok (.iload 4, 2) := by decide +kernel
theorem dX11_feed_33 : decode cX11_feed 33 = .ok (.invokevirtual 162, 3) := by decide +kernel
theorem dX11_feed_36 : decode cX11_feed 36 = .ok (.aload_n 0, 1) := by decide +kernel
theorem dX11_feed_37 : decode cX11_feed 37 = .ok (.iload 5, 2) := by decide +kernel
theorem dX11_feed_39 : decode cX11_feed 39 = .ok (.invokevirtual 162, 3) := by decide +kernel
theorem dX11_feed_42 : decode cX11_feed 42 = .ok (.aload_n 0, 1) := by decide +kernel
theorem dX11_feed_43 : decode cX11_feed 43 = .ok (.getfield 159, 3) := by decide +kernel
theorem dX11_feed_46 : decode cX11_feed 46 = .ok (.ireturn, 1) := by decide +kernel
theorem dX11_textOf_0 : decode cX11_textOf 0 = .ok (.iload_n 2, 1) := by decide +kernel
theorem dX11_textOf_1 : decode cX11_textOf 1 = .ok (.iconst 1, 1) := by decide +kernel
theorem dX11_textOf_2 : decode cX11_textOf 2 = .ok (.bipush 60, 2) := by decide +kernel
theorem dX11_textOf_4 : decode cX11_textOf 4 = .ok (.invokestatic 137, 3) := by decide +kernel
theorem dX11_textOf_7 : decode cX11_textOf 7 = .ok (.ifCond .eq 11, 3) := by decide +kernel
theorem dX11_textOf_10 : decode cX11_textOf 10 = .ok (.iload_n 2, 1) := by decide +kernel
theorem dX11_textOf_11 : decode cX11_textOf 11 = .ok (.aload_n 0, 1) := by decide +kernel
theorem dX11_textOf_12 : decode cX11_textOf 12 = .ok (.getfield 159, 3) := by decide +kernel
theorem dX11_textOf_15 : decode cX11_textOf 15 = .ok (.if_icmp .le 5, 3) := by decide +kernel
theorem dX11_textOf_18 : decode cX11_textOf 18 = .ok (.iconst (-1), 1) := by decide +kernel
theorem dX11_textOf_19 : decode cX11_textOf 19 = .ok (.ireturn, 1) := by decide +kernel
theorem dX11_remark_0 : decode cX11_remark 0 = .ok (.iload_n 1, 1) := by decide +kernel
theorem dX11_remark_1 : decode cX11_remark 1 = .ok (.iconst 0, 1) := by decide +kernel
theorem dX11_remark_2 : decode cX11_remark 2 = .ok (.bipush 9, 2) := by decide +kernel
theorem dX11_remark_4 : decode cX11_remark 4 = .ok (.invokestatic 137, 3) := by decide +kernel
theorem dX11_remark_7 : decode cX11_remark 7 = .ok (.ifCond .eq 13, 3) := by decide +kernel
theorem dX11_remark_10 : decode cX11_remark 10 = .ok (.aload_n 0, 1) := by decide +kernel
theorem dX11_remark_11 : decode cX11_remark 11 = .ok (.iload_n 1, 1) := by decide +kernel
theorem dX11_remark_12 : decode cX11_remark 12 = .ok (.iload_n 2, 1) := by decide +kernel
theorem dX11_remark_13 : decode cX11_remark 13 = .ok (.iconst 1, 1) := by decide +kernel
theorem dX11_remark_14 : decode cX11_remark 14 = .ok (.invokevirtual 259, 3) := by decide +kernel
theorem dX11_remark_17 : decode cX11_remark 17 = .ok (.goto 4, 3) := by decide +kernel
theorem dX11_remark_20 : decode cX11_remark 20 = .ok (.iconst (-1), 1) := by decide +kernel
theorem dX11_remark_21 : decode cX11_remark 21 = .ok (.ireturn, 1) := by decide +kernel
theorem dX11_form_0 : decode cX11_form 0 = .ok (.iload_n 1, 1) := by decide +kernel
theorem dX11_form_1 : decode cX11_form 1 = .ok (.iconst 0, 1) := by decide +kernel
theorem dX11_form_2 : decode cX11_form 2 = .ok (.iconst 5, 1) := by decide +kernel
theorem dX11_form_3 : decode cX11_form 3 = .ok (.invokestatic 137, 3) := by decide +kernel
theorem dX11_form_6 : decode cX11_form 6 = .ok (.ifCond .eq 16, 3) := by decide +kernel
theorem dX11_form_9 : decode cX11_form 9 = .ok (.aload_n 0, 1) := by decide +kernel
theorem dX11_form_10 : decode cX11_form 10 = .ok (.bipush 10, 2) := by decide +kernel
theorem dX11_form_12 : decode cX11_form 12 = .ok (.iload_n 1, 1) := by decide +kernel
theorem dX11_form_13 : decode cX11_form 13 = .ok (.iadd, 1) := by decide +kernel
theorem dX11_form_14 : decode cX11_form 14 = .ok (.iload_n 2, 1) := by decide +kernel
theorem dX11_form_15 : decode cX11_form 15 = .ok (.iconst 0, 1) := by decide +kernel
theorem dX11_form_16 : decode cX11_form 16 = .ok (.invokevirtual 259, 3) := by decide +kernel
theorem dX11_form_19 : decode cX11_form 19 = .ok (.goto 4, 3) := by decide +kernel
theorem dX11_form_22 : decode cX11_form 22 = .ok (.iconst (-1), 1) := by decide +kernel
theorem dX11_form_23 : decode cX11_form 23 = .ok (.ireturn, 1) := by decide +kernel
theorem dX11_takeBack_0 : decode cX11_takeBack 0 = .ok (.aload_n 0, 1) := by decide +kernel
theorem dX11_takeBack_1 : decode cX11_takeBack 1 = .ok (.iload_n 1, 1) := by decide +kernel
theorem dX11_takeBack_2 : decode cX11_takeBack 2 = .ok (.invokevirtual 263, 3) := by decide +kernel
theorem dX11_takeBack_5 : decode cX11_takeBack 5 = .ok (.ifCond .ne 5, 3) := by decide +kernel
theorem dX11_takeBack_8 : decode cX11_takeBack 8 = .ok (.iconst 0, 1) := by decide +kernel
theorem dX11_takeBack_9 : decode cX11_takeBack 9 = .ok (.ireturn, 1) := by decide +kernel
theorem dX11_rowMany_0 : decode cX11_rowMany 0 = .ok (.iconst 1, 1) := by decide +kernel
theorem dX11_rowMany_1 : decode cX11_rowMany 1 = .ok (.istore_n 1, 1) := by decide +kernel
theorem dX11_rowMany_2 : decode cX11_rowMany 2 = .ok (.iconst 0, 1) := by decide +kernel
theorem dX11_rowMany_3 : decode cX11_rowMany 3 = .ok (.istore_n 2, 1) := by decide +kernel
theorem dX11_rowMany_4 : decode cX11_rowMany 4 = .ok (.iload_n 2, 1) := by decide +kernel
theorem dX11_rowMany_5 : decode cX11_rowMany 5 = .ok (.bipush 6, 2) := by decide +kernel
theorem dX11_rowMany_7 : decode cX11_rowMany 7 = .ok (.if_icmp .ge 42, 3) := by decide +kernel
theorem dX11_rowMany_10 : decode cX11_rowMany 10 = .ok (.aload_n 0, 1) := by decide +kernel
theorem dX11_rowMany_11 : decode cX11_rowMany 11 = .ok (.iload_n 2, 1) := by decide +kernel
theorem dX11_rowMany_12 : decode cX11_rowMany 12 = .ok (.invokevirtual 145, 3) := by decide +kernel
theorem dX11_rowMany_15 : decode cX11_rowMany 15 = .ok (.ifCond .eq 28, 3) := by decide +kernel
theorem dX11_rowMany_43 : decode cX11_rowMany 43 = .ok (.iinc 2 1, 3) := by decide +kernel
theorem dX11_rowMany_46 : decode cX11_rowMany 46 = .ok (.goto (-42), 3) := by decide +kernel
theorem dX11_rowMany_49 : decode cX11_rowMany 49 = .ok (.iload_n 1, 1) := by decide +kernel
theorem dX11_rowMany_50 : decode cX11_rowMany 50 = .ok (.ireturn, 1) := by decide +kernel
theorem dX11_rows_0 : decode cX11_rows 0 = .ok (.aload_n 0, 1) := by decide +kernel
theorem dX11_rows_1 : decode cX11_rows 1 = .ok (.invokevirtual 267, 3) := by decide +kernel
theorem dX11_rows_4 : decode cX11_rows 4 = .ok (.ldc_w 266, 3) := by decide +kernel
theorem dX11_rows_7 : decode cX11_rows 7 = .ok (.if_icmp .le 8, 3) := by decide +kernel
theorem dX11_rows_15 : decode cX11_rows 15 = .ok (.aload_n 0, 1) := by decide +kernel
theorem dX11_rows_16 : decode cX11_rows 16 = .ok (.invokevirtual 267, 3) := by decide +kernel
theorem dX11_rows_19 : decode cX11_rows 19 = .ok (.ireturn, 1) := by decide +kernel
theorem dX11_firstRow_0 : decode cX11_firstRow 0 = .ok (.iconst 0, 1) := by decide +kernel
theorem dX11_firstRow_1 : decode cX11_firstRow 1 = .ok (.istore_n 1, 1) := by decide +kernel
theorem dX11_firstRow_2 : decode cX11_firstRow 2 = .ok (.iload_n 1, 1) := by decide +kernel
theorem dX11_firstRow_3 : decode cX11_firstRow 3 = .ok (.bipush 6, 2) := by decide +kernel
theorem dX11_firstRow_5 : decode cX11_firstRow 5 = .ok (.if_icmp .ge 21, 3) := by decide +kernel
theorem dX11_firstRow_8 : decode cX11_firstRow 8 = .ok (.aload_n 0, 1) := by decide +kernel
theorem dX11_firstRow_9 : decode cX11_firstRow 9 = .ok (.getfield 77, 3) := by decide +kernel
theorem dX11_firstRow_12 : decode cX11_firstRow 12 = .ok (.iload_n 1, 1) := by decide +kernel
theorem dX11_firstRow_13 : decode cX11_firstRow 13 = .ok (.aload_n 0, 1) := by decide +kernel
theorem dX11_firstRow_14 : decode cX11_firstRow 14 = .ok (.getfield 7, 3) := by decide +kernel
theorem dX11_firstRow_17 : decode cX11_firstRow 17 = .ok (.iload_n 1, 1) := by decide +kernel
theorem dX11_firstRow_18 : decode cX11_firstRow 18 = .ok (.iaload, 1) := by decide +kernel
theorem dX11_firstRow_19 : decode cX11_firstRow 19 = .ok (.iastore, 1) := by decide +kernel
theorem dX11_firstRow_20 : decode cX11_firstRow 20 = .ok (.iinc 1 1, 3) := by decide +kernel
theorem dX11_firstRow_23 : decode cX11_firstRow 23 = .ok (.goto (-21), 3) := by decide +kernel
theorem dX11_firstRow_26 : decode cX11_firstRow 26 = .ok (.return_, 1) := by decide +kernel
theorem dX11_nextRow_0 : decode cX11_nextRow 0 = .ok (.iconst 5, 1) := by decide +kernel
theorem dX11_nextRow_1 : decode cX11_nextRow 1 = .ok (.istore_n 1, 1) := by decide +kernel
theorem dX11_nextRow_2 : decode cX11_nextRow 2 = .ok (.iload_n 1, 1) := by decide +kernel
theorem dX11_nextRow_3 : decode cX11_nextRow 3 = .ok (.ifCond .lt 63, 3) := by decide +kernel
theorem dX11_nextRow_6 : decode cX11_nextRow 6 = .ok (.aload_n 0, 1) := by decide +kernel
theorem dX11_nextRow_7 : decode cX11_nextRow 7 = .ok (.iload_n 1, 1) := by decide +kernel
theorem dX11_nextRow_8 : decode cX11_nextRow 8 = .ok (.invokevirtual 145, 3) := by decide +kernel
theorem dX11_nextRow_11 : decode cX11_nextRow 11 = .ok (.ifCond .ne 6, 3) := by decide +kernel
theorem dX11_nextRow_14 : decode cX11_nextRow 14 = .ok (.goto 46, 3) := by decide +kernel
theorem dX11_nextRow_60 : decode cX11_nextRow 60 = .ok (.iinc 1 (-1), 3) := by decide +kernel
theorem dX11_nextRow_63 : decode cX11_nextRow 63 = .ok (.goto (-61), 3) := by decide +kernel
theorem dX11_nextRow_66 : decode cX11_nextRow 66 = .ok (.iconst 0, 1) := by decide +kernel
theorem dX11_nextRow_67 : decode cX11_nextRow 67 = .ok (.ireturn, 1) := by decide +kernel
theorem dX11_fitsAll_0 : decode cX11_fitsAll 0 = .ok (.iconst 0, 1) := by decide +kernel
theorem dX11_fitsAll_1 : decode cX11_fitsAll 1 = .ok (.istore_n 2, 1) := by decide +kernel
theorem dX11_fitsAll_2 : decode cX11_fitsAll 2 = .ok (.iload_n 2, 1) := by decide +kernel
theorem dX11_fitsAll_3 : decode cX11_fitsAll 3 = .ok (.bipush 10, 2) := by decide +kernel
theorem dX11_fitsAll_5 : decode cX11_fitsAll 5 = .ok (.if_icmp .ge 32, 3) := by decide +kernel
theorem dX11_fitsAll_8 : decode cX11_fitsAll 8 = .ok (.iload_n 1, 1) := by decide +kernel
theorem dX11_fitsAll_9 : decode cX11_fitsAll 9 = .ok (.iload_n 2, 1) := by decide +kernel
theorem dX11_fitsAll_10 : decode cX11_fitsAll 10 = .ok (.invokestatic 133, 3) := by decide +kernel
theorem dX11_fitsAll_13 : decode cX11_fitsAll 13 = .ok (.ifCond .eq 18, 3) := by decide +kernel
theorem dX11_fitsAll_31 : decode cX11_fitsAll 31 = .ok (.iinc 2 1, 3) := by decide +kernel
theorem dX11_fitsAll_34 : decode cX11_fitsAll 34 = .ok (.goto (-32), 3) := by decide +kernel
theorem dX11_fitsAll_37 : decode cX11_fitsAll 37 = .ok (.iconst 1, 1) := by decide +kernel
theorem dX11_fitsAll_38 : decode cX11_fitsAll 38 = .ok (.ireturn, 1) := by decide +kernel
theorem dX11_counts_0 : decode cX11_counts 0 = .ok (.iconst 0, 1) := by decide +kernel
theorem dX11_counts_1 : decode cX11_counts 1 = .ok (.istore_n 1, 1) := by decide +kernel
theorem dX11_counts_2 : decode cX11_counts 2 = .ok (.iload_n 1, 1) := by decide +kernel
theorem dX11_counts_3 : decode cX11_counts 3 = .ok (.sipush 1024, 3) := by decide +kernel
theorem dX11_counts_6 : decode cX11_counts 6 = .ok (.if_icmp .ge 16, 3) := by decide +kernel
theorem dX11_counts_9 : decode cX11_counts 9 = .ok (.aload_n 0, 1) := by decide +kernel
theorem dX11_counts_10 : decode cX11_counts 10 = .ok (.getfield 80, 3) := by decide +kernel
theorem dX11_counts_13 : decode cX11_counts 13 = .ok (.iload_n 1, 1) := by decide +kernel
theorem dX11_counts_14 : decode cX11_counts 14 = .ok (.iconst 0, 1) := by decide +kernel
theorem dX11_counts_15 : decode cX11_counts 15 = .ok (.iastore, 1) := by decide +kernel
theorem dX11_counts_16 : decode cX11_counts 16 = .ok (.iinc 1 1, 3) := by decide +kernel
theorem dX11_counts_19 : decode cX11_counts 19 = .ok (.goto (-17), 3) := by decide +kernel
theorem dX11_counts_22 : decode cX11_counts 22 = .ok (.aload_n 0, 1) := by decide +kernel
theorem dX11_counts_23 : decode cX11_counts 23 = .ok (.invokevirtual 276, 3) := by decide +kernel
theorem dX11_counts_26 : decode cX11_counts 26 = .ok (.iconst 1, 1) := by decide +kernel
theorem dX11_counts_27 : decode cX11_counts 27 = .ok (.istore_n 1, 1) := by decide +kernel
theorem dX11_counts_28 : decode cX11_counts 28 = .ok (.iload_n 1, 1) := by decide +kernel
theorem dX11_counts_29 : decode cX11_counts 29 = .ok (.ifCond .eq 68, 3) := by decide +kernel
theorem dX11_counts_32 : decode cX11_counts 32 = .ok (.iconst 0, 1) := by decide +kernel
theorem dX11_counts_33 : decode cX11_counts 33 = .ok (.istore_n 2, 1) := by decide +kernel
theorem dX11_counts_34 : decode cX11_counts 34 = .ok (.iconst 0, 1) := by decide +kernel
theorem dX11_counts_35 : decode cX11_counts 35 = .ok (.istore_n 3, 1) := by decide +kernel
theorem dX11_counts_36 : decode cX11_counts 36 = .ok (.iload_n 3, 1) := by decide +kernel
theorem dX11_counts_37 : decode cX11_counts 37 = .ok (.bipush 10, 2) := by decide +kernel
theorem dX11_counts_39 : decode cX11_counts 39 = .ok (.if_icmp .ge 36, 3) := by decide +kernel
theorem dX11_counts_42 : decode cX11_counts 42 = .ok (.aload_n 0, 1) := by decide +kernel
theorem dX11_counts_43 : decode cX11_counts 43 = .ok (.iload_n 3, 1) := by decide +kernel
theorem dX11_counts_44 : decode cX11_counts 44 = .ok (.invokevirtual 263, 3) := by decide +kernel
theorem dX11_counts_47 : decode cX11_counts 47 = .ok (.ifCond .eq 22, 3) := by decide +kernel
theorem dX11_counts_69 : decode cX11_counts 69 = .ok (.iinc 3 1, 3) := by decide +kernel
theorem dX11_counts_72 : decode cX11_counts 72 = .ok (.goto (-36), 3) := by decide +kernel
theorem dX11_counts_75 : decode cX11_counts 75 = .ok (.aload_n 0, 1) := by decide +kernel
theorem dX11_counts_76 : decode cX11_counts 76 = .ok (.getfield 80, 3) := by decide +kernel
theorem dX11_counts_79 : decode cX11_counts 79 = .ok (.iload_n 2, 1) := by decide +kernel
theorem dX11_counts_80 : decode cX11_counts 80 = .ok (.aload_n 0, 1) := by decide +kernel
theorem dX11_counts_81 : decode cX11_counts 81 = .ok (.getfield 80, 3) := by decide +kernel
theorem dX11_counts_84 : decode cX11_counts 84 = .ok (.iload_n 2, 1) := by decide +kernel
theorem dX11_counts_85 : decode cX11_counts 85 = .ok (.iaload, 1) := by decide +kernel
theorem dX11_counts_86 : decode cX11_counts 86 = .ok (.iconst 1, 1) := by decide +kernel
theorem dX11_counts_87 : decode cX11_counts 87 = .ok (.iadd, 1) := by decide +kernel
theorem dX11_counts_88 : decode cX11_counts 88 = .ok (.iastore, 1) := by decide +kernel
theorem dX11_counts_89 : decode cX11_counts 89 = .ok (.aload_n 0, 1) := by decide +kernel
theorem dX11_counts_90 : decode cX11_counts 90 = .ok (.invokevirtual 279, 3) := by decide +kernel
theorem dX11_counts_93 : decode cX11_counts 93 = .ok (.istore_n 1, 1) := by decide +kernel
theorem dX11_counts_94 : decode cX11_counts 94 = .ok (.goto (-66), 3) := by decide +kernel
theorem dX11_counts_97 : decode cX11_counts 97 = .ok (.return_, 1) := by decide +kernel
theorem dX11_fitting_0 : decode cX11_fitting 0 = .ok (.iconst 0, 1) := by decide +kernel
theorem dX11_fitting_1 : decode cX11_fitting 1 = .ok (.istore_n 2, 1) := by decide +kernel
theorem dX11_fitting_2 : decode cX11_fitting 2 = .ok (.iconst 0, 1) := by decide +kernel
theorem dX11_fitting_3 : decode cX11_fitting 3 = .ok (.istore_n 3, 1) := by decide +kernel
theorem dX11_fitting_4 : decode cX11_fitting 4 = .ok (.iload_n 3, 1) := by decide +kernel
theorem dX11_fitting_5 : decode cX11_fitting 5 = .ok (.sipush 1024, 3) := by decide +kernel
theorem dX11_fitting_8 : decode cX11_fitting 8 = .ok (.if_icmp .ge 26, 3) := by decide +kernel
theorem dX11_fitting_11 : decode cX11_fitting 11 = .ok (.iload_n 1, 1) := by decide +kernel
theorem dX11_fitting_12 : decode cX11_fitting 12 = .ok (.iload_n 3, 1) := by decide +kernel
theorem dX11_fitting_13 : decode cX11_fitting 13 = .ok (.iconst (-1), 1) := by decide +kernel
theorem dX11_fitting_14 : decode cX11_fitting 14 = .ok (.ixor, 1) := by decide +kernel
theorem dX11_fitting_15 : decode cX11_fitting 15 = .ok (.iand, 1) := by decide +kernel
theorem dX11_fitting_16 : decode cX11_fitting 16 = .ok (.ifCond .ne 12, 3) := by decide +kernel
theorem dX11_fitting_19 : decode cX11_fitting 19 = .ok (.iload_n 2, 1) := by decide +kernel
theorem dX11_fitting_20 : decode cX11_fitting 20 = .ok (.aload_n 0, 1) := by decide +kernel
theorem dX11_fitting_21 : decode cX11_fitting 21 = .ok (.getfield 80, 3) := by decide +kernel
theorem dX11_fitting_24 : decode cX11_fitting 24 = .ok (.iload_n 3, 1) := by decide +kernel
theorem dX11_fitting_25 : decode cX11_fitting 25 = .ok (.iaload, 1) := by decide +kernel
theorem dX11_fitting_26 : decode cX11_fitting 26 = .ok (.iadd, 1) := by decide +kernel
theorem dX11_fitting_27 : decode cX11_fitting 27 = .ok (.istore_n 2, 1) := by decide +kernel
theorem dX11_fitting_28 : decode cX11_fitting 28 = .ok (.iinc 3 1, 3) := by decide +kernel
theorem dX11_fitting_31 : decode cX11_fitting 31 = .ok (.goto (-27), 3) := by decide +kernel
theorem dX11_fitting_34 : decode cX11_fitting 34 = .ok (.iload_n 2, 1) := by decide +kernel
theorem dX11_fitting_35 : decode cX11_fitting 35 = .ok (.ireturn, 1) := by decide +kernel
theorem dX11_findsRow_0 : decode cX11_findsRow 0 = .ok (.aload_n 0, 1) := by decide +kernel
theorem dX11_findsRow_1 : decode cX11_findsRow 1 = .ok (.invokevirtual 276, 3) := by decide +kernel
theorem dX11_findsRow_4 : decode cX11_findsRow 4 = .ok (.iconst 1, 1) := by decide +kernel
theorem dX11_findsRow_5 : decode cX11_findsRow 5 = .ok (.istore_n 2, 1) := by decide +kernel
theorem dX11_findsRow_6 : decode cX11_findsRow 6 = .ok (.iload_n 2, 1) := by decide +kernel
theorem dX11_findsRow_7 : decode cX11_findsRow 7 = .ok (.ifCond .eq 21, 3) := by decide +kernel
theorem dX11_findsRow_10 : decode cX11_findsRow 10 = .ok (.aload_n 0, 1) := by decide +kernel
theorem dX11_findsRow_11 : decode cX11_findsRow 11 = .ok (.iload_n 1, 1) := by decide +kernel
theorem dX11_findsRow_12 : decode cX11_findsRow 12 = .ok (.invokevirtual 282, 3) := by decide +kernel
theorem dX11_findsRow_15 : decode cX11_findsRow 15 = .ok (.ifCond .eq 5, 3) := by decide +kernel
theorem dX11_findsRow_18 : decode cX11_findsRow 18 = .ok (.iconst 1, 1) := by decide +kernel
theorem dX11_findsRow_19 : decode cX11_findsRow 19 = .ok (.ireturn, 1) := by decide +kernel
theorem dX11_fit_0 : decode cX11_fit 0 = .ok (.aload_n 0, 1) := by decide +kernel
theorem dX11_fit_1 : decode cX11_fit 1 = .ok (.iload_n 1, 1) := by decide +kernel
theorem dX11_fit_2 : decode cX11_fit 2 = .ok (.invokevirtual 285, 3) := by decide +kernel
theorem dX11_fit_5 : decode cX11_fit 5 = .ok (.ifCond .eq 23, 3) := by decide +kernel
theorem dX11_fit_8 : decode cX11_fit 8 = .ok (.iload_n 2, 1) := by decide +kernel
theorem dX11_fit_9 : decode cX11_fit 9 = .ok (.bipush 100, 2) := by decide +kernel
theorem dX11_fit_11 : decode cX11_fit 11 = .ok (.if_icmp .eq 19, 3) := by decide +kernel
theorem dX11_fit_14 : decode cX11_fit 14 = .ok (.iload_n 2, 1) := by decide +kernel
theorem dX11_fit_15 : decode cX11_fit 15 = .ok (.bipush 101, 2) := by decide +kernel
theorem dX11_fit_17 : decode cX11_fit 17 = .ok (.if_icmp .eq 13, 3) := by decide +kernel
theorem dX11_fit_20 : decode cX11_fit 20 = .ok (.aload_n 0, 1) := by decide +kernel
theorem dX11_fit_21 : decode cX11_fit 21 = .ok (.iload_n 2, 1) := by decide +kernel
theorem dX11_fit_22 : decode cX11_fit 22 = .ok (.invokevirtual 145, 3) := by decide +kernel
theorem dX11_fit_25 : decode cX11_fit 25 = .ok (.ifCond .ne 5, 3) := by decide +kernel
theorem dX11_fit_28 : decode cX11_fit 28 = .ok (.iconst (-1), 1) := by decide +kernel
theorem dX11_fit_29 : decode cX11_fit 29 = .ok (.ireturn, 1) := by decide +kernel
theorem dX11_fit_30 : decode cX11_fit 30 = .ok (.aload_n 0, 1) := by decide +kernel
theorem dX11_fit_31 : decode cX11_fit 31 = .ok (.invokevirtual 267, 3) := by decide +kernel
theorem dX11_fit_34 : decode cX11_fit 34 = .ok (.ldc_w 266, 3) := by decide +kernel
theorem dX11_fit_37 : decode cX11_fit 37 = .ok (.if_icmp .le 6, 3) := by decide +kernel
theorem dX11_fit_43 : decode cX11_fit 43 = .ok (.iload_n 2, 1) := by decide +kernel
theorem dX11_fit_44 : decode cX11_fit 44 = .ok (.bipush 100, 2) := by decide +kernel
theorem dX11_fit_46 : decode cX11_fit 46 = .ok (.if_icmp .ge 23, 3) := by decide +kernel
theorem dX11_fit_69 : decode cX11_fit 69 = .ok (.aload_n 0, 1) := by decide +kernel
theorem dX11_fit_70 : decode cX11_fit 70 = .ok (.invokevirtual 291, 3) := by decide +kernel
theorem dX11_fit_73 : decode cX11_fit 73 = .ok (.iload_n 2, 1) := by decide +kernel
theorem dX11_fit_74 : decode cX11_fit 74 = .ok (.bipush 100, 2) := by decide +kernel
theorem dX11_fit_76 : decode cX11_fit 76 = .ok (.if_icmp .ne 9, 3) := by decide +kernel
theorem dX11_fit_79 : decode cX11_fit 79 = .ok (.aload_n 0, 1) := by decide +kernel
theorem dX11_fit_80 : decode cX11_fit 80 = .ok (.iload_n 1, 1) := by decide +kernel
theorem dX11_fit_81 : decode cX11_fit 81 = .ok (.invokevirtual 294, 3) := by decide +kernel
theorem dX11_fit_84 : decode cX11_fit 84 = .ok (.ireturn, 1) := by decide +kernel
theorem dX11_fit_85 : decode cX11_fit 85 = .ok (.iconst 0, 1) := by decide +kernel
theorem dX11_fit_86 : decode cX11_fit 86 = .ok (.istore_n 3, 1) := by decide +kernel
theorem dX11_fit_87 : decode cX11_fit 87 = .ok (.iconst 0, 1) := by decide +kernel
theorem dX11_fit_88 : decode cX11_fit 88 = .ok (.istore 4, 2) := by decide +kernel
theorem dX11_fit_90 : decode cX11_fit 90 = .ok (.iload 4, 2) := by decide +kernel
theorem dX11_fit_92 : decode cX11_fit 92 = .ok (.sipush 1024, 3) := by decide +kernel
theorem dX11_fit_95 : decode cX11_fit 95 = .ok (.if_icmp .ge 32, 3) := by decide +kernel
theorem dX11_fit_98 : decode cX11_fit 98 = .ok (.iload_n 1, 1) := by decide +kernel
theorem dX11_fit_99 : decode cX11_fit 99 = .ok (.iload 4, 2) := by decide +kernel
theorem dX11_fit_101 : decode cX11_fit 101 = .ok (.iconst (-1), 1) := by decide +kernel
theorem dX11_fit_102 : decode cX11_fit 102 = .ok (.ixor, 1) := by decide +kernel
theorem dX11_fit_103 : decode cX11_fit 103 = .ok (.iand, 1) := by decide +kernel
theorem dX11_fit_104 : decode cX11_fit 104 = .ok (.invokestatic 256, 3) := by decide +kernel
theorem dX11_fit_107 : decode cX11_fit 107 = .ok (.iconst 1, 1) := by decide +kernel
theorem dX11_fit_108 : decode cX11_fit 108 = .ok (.if_icmp .gt 13, 3) := by decide +kernel
theorem dX11_fit_111 : decode cX11_fit 111 = .ok (.iload_n 3, 1) := by decide +kernel
theorem dX11_fit_112 : decode cX11_fit 112 = .ok (.aload_n 0, 1) := by decide +kernel
theorem dX11_fit_113 : decode cX11_fit 113 = .ok (.getfield 80, 3) := by decide +kernel
theorem dX11_fit_116 : decode cX11_fit 116 = .ok (.iload 4, 2) := by decide +kernel
theorem dX11_fit_118 : decode cX11_fit 118 = .ok (.iaload, 1) := by decide +kernel
theorem dX11_fit_119 : decode cX11_fit 119 = .ok (.iadd, 1) := by decide +kernel
theorem dX11_fit_120 : decode cX11_fit 120 = .ok (.istore_n 3, 1) := by decide +kernel
theorem dX11_fit_121 : decode cX11_fit 121 = .ok (.iinc 4 1, 3) := by decide +kernel
theorem dX11_fit_124 : decode cX11_fit 124 = .ok (.goto (-34), 3) := by decide +kernel
theorem dX11_fit_127 : decode cX11_fit 127 = .ok (.iload_n 3, 1) := by decide +kernel
theorem dX11_fit_128 : decode cX11_fit 128 = .ok (.ireturn, 1) := by decide +kernel
theorem dX11_ageIs_0 : decode cX11_ageIs 0 = .ok (.aload_n 0, 1) := by decide +kernel
theorem dX11_ageIs_1 : decode cX11_ageIs 1 = .ok (.iload_n 1, 1) := by decide +kernel
theorem dX11_ageIs_2 : decode cX11_ageIs 2 = .ok (.invokevirtual 285, 3) := by decide +kernel
theorem dX11_ageIs_5 : decode cX11_ageIs 5 = .ok (.ifCond .eq 20, 3) := by decide +kernel
theorem dX11_ageIs_8 : decode cX11_ageIs 8 = .ok (.aload_n 0, 1) := by decide +kernel
theorem dX11_ageIs_9 : decode cX11_ageIs 9 = .ok (.iload_n 2, 1) := by decide +kernel
theorem dX11_ageIs_10 : decode cX11_ageIs 10 = .ok (.invokevirtual 145, 3) := by decide +kernel
theorem dX11_ageIs_13 : decode cX11_ageIs 13 = .ok (.ifCond .eq 12, 3) := by decide +kernel
theorem dX11_ageIs_25 : decode cX11_ageIs 25 = .ok (.iconst (-1), 1) := by decide +kernel
theorem dX11_ageIs_26 : decode cX11_ageIs 26 = .ok (.ireturn, 1) := by decide +kernel
theorem dX11_aged_0 : decode cX11_aged 0 = .ok (.aload_n 0, 1) := by decide +kernel
theorem dX11_aged_1 : decode cX11_aged 1 = .ok (.iload_n 1, 1) := by decide +kernel
theorem dX11_aged_2 : decode cX11_aged 2 = .ok (.invokevirtual 285, 3) := by decide +kernel
theorem dX11_aged_5 : decode cX11_aged 5 = .ok (.ifCond .eq 21, 3) := by decide +kernel
theorem dX11_aged_8 : decode cX11_aged 8 = .ok (.aload_n 0, 1) := by decide +kernel
theorem dX11_aged_9 : decode cX11_aged 9 = .ok (.iload_n 2, 1) := by decide +kernel
theorem dX11_aged_10 : decode cX11_aged 10 = .ok (.invokevirtual 145, 3) := by decide +kernel
theorem dX11_aged_13 : decode cX11_aged 13 = .ok (.ifCond .eq 13, 3) := by decide +kernel
theorem dX11_aged_26 : decode cX11_aged 26 = .ok (.iconst (-1), 1) := by decide +kernel
theorem dX11_aged_27 : decode cX11_aged 27 = .ok (.ireturn, 1) := by decide +kernel
theorem dX11_middle_0 : decode cX11_middle 0 = .ok (.aload_n 0, 1) := by decide +kernel
theorem dX11_middle_1 : decode cX11_middle 1 = .ok (.iload_n 1, 1) := by decide +kernel
theorem dX11_middle_2 : decode cX11_middle 2 = .ok (.invokevirtual 285, 3) := by decide +kernel
theorem dX11_middle_5 : decode cX11_middle 5 = .ok (.ifCond .eq 11, 3) := by decide +kernel
theorem dX11_middle_8 : decode cX11_middle 8 = .ok (.aload_n 0, 1) := by decide +kernel
theorem dX11_middle_9 : decode cX11_middle 9 = .ok (.iload_n 2, 1) := by decide +kernel
theorem dX11_middle_10 : decode cX11_middle 10 = .ok (.invokevirtual 145, 3) := by decide +kernel
theorem dX11_middle_13 : decode cX11_middle 13 = .ok (.ifCond .ne 5, 3) := by decide +kernel
theorem dX11_middle_16 : decode cX11_middle 16 = .ok (.iconst (-1), 1) := by decide +kernel
theorem dX11_middle_17 : decode cX11_middle 17 = .ok (.ireturn, 1) := by decide +kernel
theorem dX11_apart_0 : decode cX11_apart 0 = .ok (.aload_n 0, 1) := by decide +kernel
theorem dX11_apart_1 : decode cX11_apart 1 = .ok (.iload_n 1, 1) := by decide +kernel
theorem dX11_apart_2 : decode cX11_apart 2 = .ok (.invokevirtual 285, 3) := by decide +kernel
theorem dX11_apart_5 : decode cX11_apart 5 = .ok (.ifCond .eq 22, 3) := by decide +kernel
theorem dX11_apart_8 : decode cX11_apart 8 = .ok (.aload_n 0, 1) := by decide +kernel
theorem dX11_apart_9 : decode cX11_apart 9 = .ok (.iload_n 2, 1) := by decide +kernel
theorem dX11_apart_10 : decode cX11_apart 10 = .ok (.iload_n 3, 1) := by decide +kernel
theorem dX11_apart_11 : decode cX11_apart 11 = .ok (.invokevirtual 300, 3) := by decide +kernel
theorem dX11_apart_14 : decode cX11_apart 14 = .ok (.ifCond .eq 13, 3) := by decide +kernel
theorem dX11_apart_27 : decode cX11_apart 27 = .ok (.sipush (-400), 3) := by decide +kernel
theorem dX11_apart_30 : decode cX11_apart 30 = .ok (.ireturn, 1) := by decide +kernel
theorem dX11_follows_0 : decode cX11_follows 0 = .ok (.aload_n 0, 1) := by decide +kernel
theorem dX11_follows_1 : decode cX11_follows 1 = .ok (.iload_n 1, 1) := by decide +kernel
theorem dX11_follows_2 : decode cX11_follows 2 = .ok (.invokevirtual 285, 3) := by decide +kernel
theorem dX11_follows_5 : decode cX11_follows 5 = .ok (.ifCond .eq 12, 3) := by decide +kernel
theorem dX11_follows_8 : decode cX11_follows 8 = .ok (.iload_n 2, 1) := by decide +kernel
theorem dX11_follows_9 : decode cX11_follows 9 = .ok (.iconst 0, 1) := by decide +kernel
theorem dX11_follows_10 : decode cX11_follows 10 = .ok (.iconst 1, 1) := by decide +kernel
theorem dX11_follows_11 : decode cX11_follows 11 = .ok (.invokestatic 137, 3) := by decide +kernel
theorem dX11_follows_14 : decode cX11_follows 14 = .ok (.ifCond .ne 5, 3) := by decide +kernel
theorem dX11_follows_17 : decode cX11_follows 17 = .ok (.iconst (-1), 1) := by decide +kernel
theorem dX11_follows_18 : decode cX11_follows 18 = .ok (.ireturn, 1) := by decide +kernel
theorem dX11_follows_19 : decode cX11_follows 19 = .ok (.aload_n 0, 1) := by decide +kernel
theorem dX11_follows_20 : decode cX11_follows 20 = .ok (.invokevirtual 267, 3) := by decide +kernel
theorem dX11_follows_23 : decode cX11_follows 23 = .ok (.ldc_w 266, 3) := by decide +kernel
theorem dX11_follows_26 : decode cX11_follows 26 = .ok (.if_icmp .le 6, 3) := by decide +kernel
theorem dX11_follows_32 : decode cX11_follows 32 = .ok (.aload_n 0, 1) := by decide +kernel
theorem dX11_follows_33 : decode cX11_follows 33 = .ok (.invokevirtual 291, 3) := by decide +kernel
theorem dX11_follows_36 : decode cX11_follows 36 = .ok (.aload_n 0, 1) := by decide +kernel
theorem dX11_follows_37 : decode cX11_follows 37 = .ok (.iload_n 1, 1) := by decide +kernel
theorem dX11_follows_38 : decode cX11_follows 38 = .ok (.invokevirtual 294, 3) := by decide +kernel
theorem dX11_follows_41 : decode cX11_follows 41 = .ok (.istore_n 3, 1) := by decide +kernel
theorem dX11_follows_42 : decode cX11_follows 42 = .ok (.iconst 0, 1) := by decide +kernel
theorem dX11_follows_43 : decode cX11_follows 43 = .ok (.istore 4, 2) := by decide +kernel
theorem dX11_follows_45 : decode cX11_follows 45 = .ok (.iconst 0, 1) := by decide +kernel
theorem dX11_follows_46 : decode cX11_follows 46 = .ok (.istore 5, 2) := by decide +kernel
theorem dX11_follows_48 : decode cX11_follows 48 = .ok (.iload 5, 2) := by decide +kernel
theorem dX11_follows_50 : decode cX11_follows 50 = .ok (.bipush 10, 2) := by decide +kernel
theorem dX11_follows_52 : decode cX11_follows 52 = .ok (.if_icmp .ge 56, 3) := by decide +kernel
theorem dX11_follows_55 : decode cX11_follows 55 = .ok (.aload_n 0, 1) := by decide +kernel
theorem dX11_follows_56 : decode cX11_follows 56 = .ok (.iload 5, 2) := by decide +kernel
theorem dX11_follows_58 : decode cX11_follows 58 = .ok (.invokevirtual 263, 3) := by decide +kernel
theorem dX11_follows_61 : decode cX11_follows 61 = .ok (.ifCond .ne 6, 3) := by decide +kernel
theorem dX11_follows_64 : decode cX11_follows 64 = .ok (.goto 38, 3) := by decide +kernel
theorem dX11_follows_102 : decode cX11_follows 102 = .ok (.iinc 5 1, 3) := by decide +kernel
theorem dX11_follows_105 : decode cX11_follows 105 = .ok (.goto (-57), 3) := by decide +kernel
theorem dX11_follows_108 : decode cX11_follows 108 = .ok (.iload 4, 2) := by decide +kernel
theorem dX11_follows_110 : decode cX11_follows 110 = .ok (.ireturn, 1) := by decide +kernel
theorem dX11_clash_0 : decode cX11_clash 0 = .ok (.aload_n 0, 1) := by decide +kernel
theorem dX11_clash_1 : decode cX11_clash 1 = .ok (.iload_n 1, 1) := by decide +kernel
theorem dX11_clash_2 : decode cX11_clash 2 = .ok (.invokevirtual 285, 3) := by decide +kernel
theorem dX11_clash_5 : decode cX11_clash 5 = .ok (.ifCond .eq 12, 3) := by decide +kernel
theorem dX11_clash_8 : decode cX11_clash 8 = .ok (.iload_n 2, 1) := by decide +kernel
theorem dX11_clash_9 : decode cX11_clash 9 = .ok (.iconst 0, 1) := by decide +kernel
theorem dX11_clash_10 : decode cX11_clash 10 = .ok (.iconst 1, 1) := by decide +kernel
theorem dX11_clash_11 : decode cX11_clash 11 = .ok (.invokestatic 137, 3) := by decide +kernel
theorem dX11_clash_14 : decode cX11_clash 14 = .ok (.ifCond .ne 5, 3) := by decide +kernel
theorem dX11_clash_17 : decode cX11_clash 17 = .ok (.iconst (-1), 1) := by decide +kernel
theorem dX11_clash_18 : decode cX11_clash 18 = .ok (.ireturn, 1) := by decide +kernel
theorem dX11_clash_19 : decode cX11_clash 19 = .ok (.aload_n 0, 1) := by decide +kernel
theorem dX11_clash_20 : decode cX11_clash 20 = .ok (.invokevirtual 267, 3) := by decide +kernel
theorem dX11_clash_23 : decode cX11_clash 23 = .ok (.ldc_w 266, 3) := by decide +kernel
theorem dX11_clash_26 : decode cX11_clash 26 = .ok (.if_icmp .le 6, 3) := by decide +kernel
theorem dX11_clash_32 : decode cX11_clash 32 = .ok (.aload_n 0, 1) := by decide +kernel
theorem dX11_clash_33 : decode cX11_clash 33 = .ok (.invokevirtual 291, 3) := by decide +kernel
theorem dX11_clash_36 : decode cX11_clash 36 = .ok (.bipush (-2), 2) := by decide +kernel
theorem dX11_clash_38 : decode cX11_clash 38 = .ok (.istore_n 3, 1) := by decide +kernel
theorem dX11_clash_39 : decode cX11_clash 39 = .ok (.iconst 0, 1) := by decide +kernel
theorem dX11_clash_40 : decode cX11_clash 40 = .ok (.istore 4, 2) := by decide +kernel
theorem dX11_clash_42 : decode cX11_clash 42 = .ok (.iload 4, 2) := by decide +kernel
theorem dX11_clash_44 : decode cX11_clash 44 = .ok (.sipush 1024, 3) := by decide +kernel
theorem dX11_clash_47 : decode cX11_clash 47 = .ok (.if_icmp .ge 51, 3) := by decide +kernel
theorem dX11_clash_50 : decode cX11_clash 50 = .ok (.iload 4, 2) := by decide +kernel
theorem dX11_clash_52 : decode cX11_clash 52 = .ok (.iload_n 1, 1) := by decide +kernel
theorem dX11_clash_53 : decode cX11_clash 53 = .ok (.iconst (-1), 1) := by decide +kernel
theorem dX11_clash_54 : decode cX11_clash 54 = .ok (.ixor, 1) := by decide +kernel
theorem dX11_clash_55 : decode cX11_clash 55 = .ok (.iand, 1) := by decide +kernel
theorem dX11_clash_56 : decode cX11_clash 56 = .ok (.ifCond .ne 36, 3) := by decide +kernel
theorem dX11_clash_59 : decode cX11_clash 59 = .ok (.iload_n 3, 1) := by decide +kernel
theorem dX11_clash_60 : decode cX11_clash 60 = .ok (.bipush (-2), 2) := by decide +kernel
theorem dX11_clash_62 : decode cX11_clash 62 = .ok (.if_icmp .eq 18, 3) := by decide +kernel
theorem dX11_clash_80 : decode cX11_clash 80 = .ok (.aload_n 0, 1) := by decide +kernel
theorem dX11_clash_81 : decode cX11_clash 81 = .ok (.iload 4, 2) := by decide +kernel
theorem dX11_clash_83 : decode cX11_clash 83 = .ok (.invokevirtual 294, 3) := by decide +kernel
theorem dX11_clash_86 : decode cX11_clash 86 = .ok (.ifCond .ne 6, 3) := by decide +kernel
theorem dX11_clash_92 : decode cX11_clash 92 = .ok (.iinc 4 1, 3) := by decide +kernel
theorem dX11_clash_95 : decode cX11_clash 95 = .ok (.goto (-53), 3) := by decide +kernel
theorem dX11_clash_98 : decode cX11_clash 98 = .ok (.iload_n 2, 1) := by decide +kernel
theorem dX11_clash_99 : decode cX11_clash 99 = .ok (.iconst 1, 1) := by decide +kernel
theorem dX11_clash_100 : decode cX11_clash 100 = .ok (.if_icmp .eq 9, 3) := by decide +kernel
theorem dX11_clash_103 : decode cX11_clash 103 = .ok (.iload_n 3, 1) := by decide +kernel
theorem dX11_clash_104 : decode cX11_clash 104 = .ok (.bipush (-2), 2) := by decide +kernel
theorem dX11_clash_106 : decode cX11_clash 106 = .ok (.if_icmp .ne 7, 3) := by decide +kernel
theorem dX11_clash_109 : decode cX11_clash 109 = .ok (.iload_n 3, 1) := by decide +kernel
theorem dX11_clash_110 : decode cX11_clash 110 = .ok (.goto 7, 3) := by decide +kernel
theorem dX11_clash_117 : decode cX11_clash 117 = .ok (.ireturn, 1) := by decide +kernel
theorem dX11_needless_0 : decode cX11_needless 0 = .ok (.aload_n 0, 1) := by decide +kernel
theorem dX11_needless_1 : decode cX11_needless 1 = .ok (.iload_n 1, 1) := by decide +kernel
theorem dX11_needless_2 : decode cX11_needless 2 = .ok (.invokevirtual 285, 3) := by decide +kernel
theorem dX11_needless_5 : decode cX11_needless 5 = .ok (.ifCond .ne 5, 3) := by decide +kernel
theorem dX11_needless_8 : decode cX11_needless 8 = .ok (.iconst (-1), 1) := by decide +kernel
theorem dX11_needless_9 : decode cX11_needless 9 = .ok (.ireturn, 1) := by decide +kernel
theorem dX11_needless_10 : decode cX11_needless 10 = .ok (.aload_n 0, 1) := by decide +kernel
theorem dX11_needless_11 : decode cX11_needless 11 = .ok (.invokevirtual 267, 3) := by decide +kernel
theorem dX11_needless_14 : decode cX11_needless 14 = .ok (.ldc_w 266, 3) := by decide +kernel
theorem dX11_needless_17 : decode cX11_needless 17 = .ok (.if_icmp .le 6, 3) := by decide +kernel
theorem dX11_needless_23 : decode cX11_needless 23 = .ok (.aload_n 0, 1) := by decide +kernel
theorem dX11_needless_24 : decode cX11_needless 24 = .ok (.invokevirtual 291, 3) := by decide +kernel
theorem dX11_needless_27 : decode cX11_needless 27 = .ok (.aload_n 0, 1) := by decide +kernel
theorem dX11_needless_28 : decode cX11_needless 28 = .ok (.iload_n 1, 1) := by decide +kernel
theorem dX11_needless_29 : decode cX11_needless 29 = .ok (.invokevirtual 294, 3) := by decide +kernel
theorem dX11_needless_32 : decode cX11_needless 32 = .ok (.istore_n 2, 1) := by decide +kernel
theorem dX11_needless_33 : decode cX11_needless 33 = .ok (.iconst 0, 1) := by decide +kernel
theorem dX11_needless_34 : decode cX11_needless 34 = .ok (.istore_n 3, 1) := by decide +kernel
theorem dX11_needless_35 : decode cX11_needless 35 = .ok (.iconst 0, 1) := by decide +kernel
theorem dX11_needless_36 : decode cX11_needless 36 = .ok (.istore 4, 2) := by decide +kernel
theorem dX11_needless_38 : decode cX11_needless 38 = .ok (.iload 4, 2) := by decide +kernel
theorem dX11_needless_40 : decode cX11_needless 40 = .ok (.bipush 10, 2) := by decide +kernel
theorem dX11_needless_42 : decode cX11_needless 42 = .ok (.if_icmp .ge 41, 3) := by decide +kernel
theorem dX11_needless_45 : decode cX11_needless 45 = .ok (.iload_n 1, 1) := by decide +kernel
theorem dX11_needless_46 : decode cX11_needless 46 = .ok (.iload 4, 2) := by decide +kernel
theorem dX11_needless_48 : decode cX11_needless 48 = .ok (.invokestatic 133, 3) := by decide +kernel
theorem dX11_needless_51 : decode cX11_needless 51 = .ok (.ifCond .eq 26, 3) := by decide +kernel
theorem dX11_needless_77 : decode cX11_needless 77 = .ok (.iinc 4 1, 3) := by decide +kernel
theorem dX11_needless_80 : decode cX11_needless 80 = .ok (.goto (-42), 3) := by decide +kernel
theorem dX11_needless_83 : decode cX11_needless 83 = .ok (.iload_n 3, 1) := by decide +kernel
theorem dX11_needless_84 : decode cX11_needless 84 = .ok (.ireturn, 1) := by decide +kernel
theorem dX11_settles_0 : decode cX11_settles 0 = .ok (.aload_n 0, 1) := by decide +kernel
theorem dX11_settles_1 : decode cX11_settles 1 = .ok (.iload_n 1, 1) := by decide +kernel
theorem dX11_settles_2 : decode cX11_settles 2 = .ok (.invokevirtual 285, 3) := by decide +kernel
theorem dX11_settles_5 : decode cX11_settles 5 = .ok (.ifCond .ne 5, 3) := by decide +kernel
theorem dX11_settles_8 : decode cX11_settles 8 = .ok (.iconst (-1), 1) := by decide +kernel
theorem dX11_settles_9 : decode cX11_settles 9 = .ok (.ireturn, 1) := by decide +kernel
theorem dX11_settles_10 : decode cX11_settles 10 = .ok (.aload_n 0, 1) := by decide +kernel
theorem dX11_settles_11 : decode cX11_settles 11 = .ok (.invokevirtual 267, 3) := by decide +kernel
theorem dX11_settles_14 : decode cX11_settles 14 = .ok (.ldc_w 266, 3) := by decide +kernel
theorem dX11_settles_17 : decode cX11_settles 17 = .ok (.if_icmp .le 6, 3) := by decide +kernel
theorem dX11_settles_23 : decode cX11_settles 23 = .ok (.aload_n 0, 1) := by decide +kernel
theorem dX11_settles_24 : decode cX11_settles 24 = .ok (.invokevirtual 291, 3) := by decide +kernel
theorem dX11_settles_27 : decode cX11_settles 27 = .ok (.iconst 0, 1) := by decide +kernel
theorem dX11_settles_28 : decode cX11_settles 28 = .ok (.istore_n 2, 1) := by decide +kernel
theorem dX11_settles_29 : decode cX11_settles 29 = .ok (.iload_n 2, 1) := by decide +kernel
theorem dX11_settles_30 : decode cX11_settles 30 = .ok (.bipush 10, 2) := by decide +kernel
theorem dX11_settles_32 : decode cX11_settles 32 = .ok (.if_icmp .ge 40, 3) := by decide +kernel
theorem dX11_settles_35 : decode cX11_settles 35 = .ok (.aload_n 0, 1) := by decide +kernel
theorem dX11_settles_36 : decode cX11_settles 36 = .ok (.iload_n 2, 1) := by decide +kernel
theorem dX11_settles_37 : decode cX11_settles 37 = .ok (.invokevirtual 263, 3) := by decide +kernel
theorem dX11_settles_40 : decode cX11_settles 40 = .ok (.ifCond .eq 26, 3) := by decide +kernel
theorem dX11_settles_66 : decode cX11_settles 66 = .ok (.iinc 2 1, 3) := by decide +kernel
theorem dX11_settles_69 : decode cX11_settles 69 = .ok (.goto (-40), 3) := by decide +kernel
theorem dX11_settles_72 : decode cX11_settles 72 = .ok (.bipush (-2), 2) := by decide +kernel
theorem dX11_settles_74 : decode cX11_settles 74 = .ok (.ireturn, 1) := by decide +kernel
theorem dX11_fewest_0 : decode cX11_fewest 0 = .ok (.aload_n 0, 1) := by decide +kernel
theorem dX11_fewest_1 : decode cX11_fewest 1 = .ok (.iload_n 1, 1) := by decide +kernel
theorem dX11_fewest_2 : decode cX11_fewest 2 = .ok (.invokevirtual 285, 3) := by decide +kernel
theorem dX11_fewest_5 : decode cX11_fewest 5 = .ok (.ifCond .eq 12, 3) := by decide +kernel
theorem dX11_fewest_8 : decode cX11_fewest 8 = .ok (.iload_n 2, 1) := by decide +kernel
theorem dX11_fewest_9 : decode cX11_fewest 9 = .ok (.iconst 0, 1) := by decide +kernel
theorem dX11_fewest_10 : decode cX11_fewest 10 = .ok (.iconst 1, 1) := by decide +kernel
theorem dX11_fewest_11 : decode cX11_fewest 11 = .ok (.invokestatic 137, 3) := by decide +kernel
theorem dX11_fewest_14 : decode cX11_fewest 14 = .ok (.ifCond .ne 5, 3) := by decide +kernel
theorem dX11_fewest_17 : decode cX11_fewest 17 = .ok (.iconst (-1), 1) := by decide +kernel
theorem dX11_fewest_18 : decode cX11_fewest 18 = .ok (.ireturn, 1) := by decide +kernel
theorem dX11_fewest_19 : decode cX11_fewest 19 = .ok (.aload_n 0, 1) := by decide +kernel
theorem dX11_fewest_20 : decode cX11_fewest 20 = .ok (.invokevirtual 267, 3) := by decide +kernel
theorem dX11_fewest_23 : decode cX11_fewest 23 = .ok (.ldc_w 266, 3) := by decide +kernel
theorem dX11_fewest_26 : decode cX11_fewest 26 = .ok (.if_icmp .le 6, 3) := by decide +kernel
theorem dX11_fewest_32 : decode cX11_fewest 32 = .ok (.aload_n 0, 1) := by decide +kernel
theorem dX11_fewest_33 : decode cX11_fewest 33 = .ok (.invokevirtual 291, 3) := by decide +kernel
theorem dX11_fewest_36 : decode cX11_fewest 36 = .ok (.aload_n 0, 1) := by decide +kernel
theorem dX11_fewest_37 : decode cX11_fewest 37 = .ok (.invokevirtual 152, 3) := by decide +kernel
theorem dX11_fewest_40 : decode cX11_fewest 40 = .ok (.iload_n 1, 1) := by decide +kernel
theorem dX11_fewest_41 : decode cX11_fewest 41 = .ok (.iconst (-1), 1) := by decide +kernel
theorem dX11_fewest_42 : decode cX11_fewest 42 = .ok (.ixor, 1) := by decide +kernel
theorem dX11_fewest_43 : decode cX11_fewest 43 = .ok (.iand, 1) := by decide +kernel
theorem dX11_fewest_44 : decode cX11_fewest 44 = .ok (.istore_n 3, 1) := by decide +kernel
theorem dX11_fewest_45 : decode cX11_fewest 45 = .ok (.bipush (-2), 2) := by decide +kernel
theorem dX11_fewest_47 : decode cX11_fewest 47 = .ok (.istore 4, 2) := by decide +kernel
theorem dX11_fewest_49 : decode cX11_fewest 49 = .ok (.iconst 0, 1) := by decide +kernel
theorem dX11_fewest_50 : decode cX11_fewest 50 = .ok (.istore 5, 2) := by decide +kernel
theorem dX11_fewest_52 : decode cX11_fewest 52 = .ok (.iload 5, 2) := by decide +kernel
theorem dX11_fewest_54 : decode cX11_fewest 54 = .ok (.sipush 1024, 3) := by decide +kernel
theorem dX11_fewest_57 : decode cX11_fewest 57 = .ok (.if_icmp .ge 66, 3) := by decide +kernel
theorem dX11_fewest_60 : decode cX11_fewest 60 = .ok (.iload 5, 2) := by decide +kernel
theorem dX11_fewest_62 : decode cX11_fewest 62 = .ok (.iload_n 3, 1) := by decide +kernel
theorem dX11_fewest_63 : decode cX11_fewest 63 = .ok (.iconst (-1), 1) := by decide +kernel
theorem dX11_fewest_64 : decode cX11_fewest 64 = .ok (.ixor, 1) := by decide +kernel
theorem dX11_fewest_65 : decode cX11_fewest 65 = .ok (.iand, 1) := by decide +kernel
theorem dX11_fewest_66 : decode cX11_fewest 66 = .ok (.ifCond .ne 51, 3) := by decide +kernel
theorem dX11_fewest_69 : decode cX11_fewest 69 = .ok (.iload 5, 2) := by decide +kernel
theorem dX11_fewest_71 : decode cX11_fewest 71 = .ok (.invokestatic 256, 3) := by decide +kernel
theorem dX11_fewest_74 : decode cX11_fewest 74 = .ok (.iconst 3, 1) := by decide +kernel
theorem dX11_fewest_75 : decode cX11_fewest 75 = .ok (.if_icmp .gt 42, 3) := by decide +kernel
theorem dX11_fewest_78 : decode cX11_fewest 78 = .ok (.iload 4, 2) := by decide +kernel
theorem dX11_fewest_80 : decode cX11_fewest 80 = .ok (.bipush (-2), 2) := by decide +kernel
theorem dX11_fewest_82 : decode cX11_fewest 82 = .ok (.if_icmp .eq 19, 3) := by decide +kernel
theorem dX11_fewest_101 : decode cX11_fewest 101 = .ok (.aload_n 0, 1) := by decide +kernel
theorem dX11_fewest_102 : decode cX11_fewest 102 = .ok (.iload_n 1, 1) := by decide +kernel
theorem dX11_fewest_103 : decode cX11_fewest 103 = .ok (.iload 5, 2) := by decide +kernel
theorem dX11_fewest_105 : decode cX11_fewest 105 = .ok (.ior, 1) := by decide +kernel
theorem dX11_fewest_106 : decode cX11_fewest 106 = .ok (.invokevirtual 294, 3) := by decide +kernel
theorem dX11_fewest_109 : decode cX11_fewest 109 = .ok (.iconst 1, 1) := by decide +kernel
theorem dX11_fewest_110 : decode cX11_fewest 110 = .ok (.if_icmp .ne 7, 3) := by decide +kernel
theorem dX11_fewest_113 : decode cX11_fewest 113 = .ok (.iload 5, 2) := by decide +kernel
theorem dX11_fewest_115 : decode cX11_fewest 115 = .ok (.istore 4, 2) := by decide +kernel
theorem dX11_fewest_117 : decode cX11_fewest 117 = .ok (.iinc 5 1, 3) := by decide +kernel
theorem dX11_fewest_120 : decode cX11_fewest 120 = .ok (.goto (-68), 3) := by decide +kernel
theorem dX11_fewest_123 : decode cX11_fewest 123 = .ok (.iload_n 2, 1) := by decide +kernel
theorem dX11_fewest_124 : decode cX11_fewest 124 = .ok (.iconst 1, 1) := by decide +kernel
theorem dX11_fewest_125 : decode cX11_fewest 125 = .ok (.if_icmp .eq 10, 3) := by decide +kernel
theorem dX11_fewest_128 : decode cX11_fewest 128 = .ok (.iload 4, 2) := by decide +kernel
theorem dX11_fewest_130 : decode cX11_fewest 130 = .ok (.bipush (-2), 2) := by decide +kernel
theorem dX11_fewest_132 : decode cX11_fewest 132 = .ok (.if_icmp .ne 8, 3) := by decide +kernel
theorem dX11_fewest_135 : decode cX11_fewest 135 = .ok (.iload 4, 2) := by decide +kernel
theorem dX11_fewest_137 : decode cX11_fewest 137 = .ok (.goto 8, 3) := by decide +kernel
theorem dX11_fewest_140 : decode cX11_fewest 140 = .ok (.iload 4, 2) := by decide +kernel
theorem dX11_fewest_142 : decode cX11_fewest 142 = .ok (.invokestatic 256, 3) := by decide +kernel
theorem dX11_fewest_145 : decode cX11_fewest 145 = .ok (.ireturn, 1) := by decide +kernel
theorem dX11_offIn_0 : decode cX11_offIn 0 = .ok (.iconst 0, 1) := by decide +kernel
theorem dX11_offIn_1 : decode cX11_offIn 1 = .ok (.istore_n 2, 1) := by decide +kernel
theorem dX11_offIn_2 : decode cX11_offIn 2 = .ok (.iconst 0, 1) := by decide +kernel
theorem dX11_offIn_3 : decode cX11_offIn 3 = .ok (.istore_n 3, 1) := by decide +kernel
theorem dX11_offIn_4 : decode cX11_offIn 4 = .ok (.iload_n 3, 1) := by decide +kernel
theorem dX11_offIn_5 : decode cX11_offIn 5 = .ok (.bipush 10, 2) := by decide +kernel
theorem dX11_offIn_7 : decode cX11_offIn 7 = .ok (.if_icmp .ge 69, 3) := by decide +kernel
theorem dX11_offIn_10 : decode cX11_offIn 10 = .ok (.iload_n 1, 1) := by decide +kernel
theorem dX11_offIn_11 : decode cX11_offIn 11 = .ok (.iload_n 3, 1) := by decide +kernel
theorem dX11_offIn_12 : decode cX11_offIn 12 = .ok (.invokestatic 133, 3) := by decide +kernel
theorem dX11_offIn_15 : decode cX11_offIn 15 = .ok (.ifCond .ne 6, 3) := by decide +kernel
theorem dX11_offIn_18 : decode cX11_offIn 18 = .ok (.goto 52, 3) := by decide +kernel
theorem dX11_offIn_70 : decode cX11_offIn 70 = .ok (.iinc 3 1, 3) := by decide +kernel
theorem dX11_offIn_73 : decode cX11_offIn 73 = .ok (.goto (-69), 3) := by decide +kernel
theorem dX11_offIn_76 : decode cX11_offIn 76 = .ok (.iload_n 2, 1) := by decide +kernel
theorem dX11_offIn_77 : decode cX11_offIn 77 = .ok (.ireturn, 1) := by decide +kernel
theorem dX11_offByAYear_0 : decode cX11_offByAYear 0 = .ok (.aload_n 0, 1) := by decide +kernel
theorem dX11_offByAYear_1 : decode cX11_offByAYear 1 = .ok (.iload_n 1, 1) := by decide +kernel
theorem dX11_offByAYear_2 : decode cX11_offByAYear 2 = .ok (.invokevirtual 285, 3) := by decide +kernel
theorem dX11_offByAYear_5 : decode cX11_offByAYear 5 = .ok (.ifCond .eq 12, 3) := by decide +kernel
theorem dX11_offByAYear_8 : decode cX11_offByAYear 8 = .ok (.iload_n 2, 1) := by decide +kernel
theorem dX11_offByAYear_9 : decode cX11_offByAYear 9 = .ok (.iconst 0, 1) := by decide +kernel
theorem dX11_offByAYear_10 : decode cX11_offByAYear 10 = .ok (.iconst 1, 1) := by decide +kernel
theorem dX11_offByAYear_11 : decode cX11_offByAYear 11 = .ok (.invokestatic 137, 3) := by decide +kernel
theorem dX11_offByAYear_14 : decode cX11_offByAYear 14 = .ok (.ifCond .ne 5, 3) := by decide +kernel
theorem dX11_offByAYear_17 : decode cX11_offByAYear 17 = .ok (.iconst (-1), 1) := by decide +kernel
theorem dX11_offByAYear_18 : decode cX11_offByAYear 18 = .ok (.ireturn, 1) := by decide +kernel
theorem dX11_offByAYear_19 : decode cX11_offByAYear 19 = .ok (.aload_n 0, 1) := by decide +kernel
theorem dX11_offByAYear_20 : decode cX11_offByAYear 20 = .ok (.invokevirtual 267, 3) := by decide +kernel
theorem dX11_offByAYear_23 : decode cX11_offByAYear 23 = .ok (.ldc_w 266, 3) := by decide +kernel
theorem dX11_offByAYear_26 : decode cX11_offByAYear 26 = .ok (.if_icmp .le 6, 3) := by decide +kernel
theorem dX11_offByAYear_32 : decode cX11_offByAYear 32 = .ok (.bipush (-2), 2) := by decide +kernel
theorem dX11_offByAYear_34 : decode cX11_offByAYear 34 = .ok (.istore_n 3, 1) := by decide +kernel
theorem dX11_offByAYear_35 : decode cX11_offByAYear 35 = .ok (.aload_n 0, 1) := by decide +kernel
theorem dX11_offByAYear_36 : decode cX11_offByAYear 36 = .ok (.invokevirtual 276, 3) := by decide +kernel
theorem dX11_offByAYear_39 : decode cX11_offByAYear 39 = .ok (.iconst 1, 1) := by decide +kernel
theorem dX11_offByAYear_40 : decode cX11_offByAYear 40 = .ok (.istore 4, 2) := by decide +kernel
theorem dX11_offByAYear_42 : decode cX11_offByAYear 42 = .ok (.iload 4, 2) := by decide +kernel
theorem dX11_offByAYear_44 : decode cX11_offByAYear 44 = .ok (.ifCond .eq 76, 3) := by decide +kernel
theorem dX11_offByAYear_47 : decode cX11_offByAYear 47 = .ok (.aload_n 0, 1) := by decide +kernel
theorem dX11_offByAYear_48 : decode cX11_offByAYear 48 = .ok (.iload_n 1, 1) := by decide +kernel
theorem dX11_offByAYear_49 : decode cX11_offByAYear 49 = .ok (.invokevirtual 308, 3) := by decide +kernel
theorem dX11_offByAYear_52 : decode cX11_offByAYear 52 = .ok (.istore 5, 2) := by decide +kernel
theorem dX11_offByAYear_54 : decode cX11_offByAYear 54 = .ok (.iload 5, 2) := by decide +kernel
theorem dX11_offByAYear_56 : decode cX11_offByAYear 56 = .ok (.iconst (-1), 1) := by decide +kernel
theorem dX11_offByAYear_57 : decode cX11_offByAYear 57 = .ok (.if_icmp .eq 43, 3) := by decide +kernel
theorem dX11_offByAYear_60 : decode cX11_offByAYear 60 = .ok (.iload_n 3, 1) := by decide +kernel
theorem dX11_offByAYear_61 : decode cX11_offByAYear 61 = .ok (.bipush (-2), 2) := by decide +kernel
theorem dX11_offByAYear_63 : decode cX11_offByAYear 63 = .ok (.if_icmp .eq 33, 3) := by decide +kernel
theorem dX11_offByAYear_96 : decode cX11_offByAYear 96 = .ok (.iconst 1, 1) := by decide +kernel
theorem dX11_offByAYear_97 : decode cX11_offByAYear 97 = .ok (.goto 4, 3) := by decide +kernel
theorem dX11_offByAYear_101 : decode cX11_offByAYear 101 = .ok (.istore 6, 2) := by decide +kernel
theorem dX11_offByAYear_103 : decode cX11_offByAYear 103 = .ok (.iload 6, 2) := by decide +kernel
theorem dX11_offByAYear_105 : decode cX11_offByAYear 105 = .ok (.ifCond .eq 6, 3) := by decide +kernel
theorem dX11_offByAYear_108 : decode cX11_offByAYear 108 = .ok (.iload 5, 2) := by decide +kernel
theorem dX11_offByAYear_110 : decode cX11_offByAYear 110 = .ok (.istore_n 3, 1) := by decide +kernel
theorem dX11_offByAYear_111 : decode cX11_offByAYear 111 = .ok (.aload_n 0, 1) := by decide +kernel
theorem dX11_offByAYear_112 : decode cX11_offByAYear 112 = .ok (.invokevirtual 279, 3) := by decide +kernel
theorem dX11_offByAYear_115 : decode cX11_offByAYear 115 = .ok (.istore 4, 2) := by decide +kernel
theorem dX11_offByAYear_117 : decode cX11_offByAYear 117 = .ok (.goto (-75), 3) := by decide +kernel
theorem dX11_offByAYear_120 : decode cX11_offByAYear 120 = .ok (.iload_n 2, 1) := by decide +kernel
theorem dX11_offByAYear_121 : decode cX11_offByAYear 121 = .ok (.iconst 1, 1) := by decide +kernel
theorem dX11_offByAYear_122 : decode cX11_offByAYear 122 = .ok (.if_icmp .eq 9, 3) := by decide +kernel
theorem dX11_offByAYear_125 : decode cX11_offByAYear 125 = .ok (.iload_n 3, 1) := by decide +kernel
theorem dX11_offByAYear_126 : decode cX11_offByAYear 126 = .ok (.bipush (-2), 2) := by decide +kernel
theorem dX11_offByAYear_128 : decode cX11_offByAYear 128 = .ok (.if_icmp .ne 7, 3) := by decide +kernel
theorem dX11_offByAYear_131 : decode cX11_offByAYear 131 = .ok (.iload_n 3, 1) := by decide +kernel
theorem dX11_offByAYear_132 : decode cX11_offByAYear 132 = .ok (.goto 7, 3) := by decide +kernel
theorem dX11_offByAYear_135 : decode cX11_offByAYear 135 = .ok (.iload_n 3, 1) := by decide +kernel
theorem dX11_offByAYear_136 : decode cX11_offByAYear 136 = .ok (.invokestatic 256, 3) := by decide +kernel
theorem dX11_offByAYear_139 : decode cX11_offByAYear 139 = .ok (.ireturn, 1) := by decide +kernel
theorem dX11_asks_0 : decode cX11_asks 0 = .ok (.aload_n 0, 1) := by decide +kernel
theorem dX11_asks_1 : decode cX11_asks 1 = .ok (.iload_n 1, 1) := by decide +kernel
theorem dX11_asks_2 : decode cX11_asks 2 = .ok (.invokevirtual 285, 3) := by decide +kernel
theorem dX11_asks_5 : decode cX11_asks 5 = .ok (.ifCond .eq 12, 3) := by decide +kernel
theorem dX11_asks_8 : decode cX11_asks 8 = .ok (.iload_n 2, 1) := by decide +kernel
theorem dX11_asks_9 : decode cX11_asks 9 = .ok (.iconst 0, 1) := by decide +kernel
theorem dX11_asks_10 : decode cX11_asks 10 = .ok (.iconst 2, 1) := by decide +kernel
theorem dX11_asks_11 : decode cX11_asks 11 = .ok (.invokestatic 137, 3) := by decide +kernel
theorem dX11_asks_14 : decode cX11_asks 14 = .ok (.ifCond .ne 5, 3) := by decide +kernel
theorem dX11_asks_17 : decode cX11_asks 17 = .ok (.iconst (-1), 1) := by decide +kernel
theorem dX11_asks_18 : decode cX11_asks 18 = .ok (.ireturn, 1) := by decide +kernel
theorem dX11_asks_19 : decode cX11_asks 19 = .ok (.aload_n 0, 1) := by decide +kernel
theorem dX11_asks_20 : decode cX11_asks 20 = .ok (.invokevirtual 267, 3) := by decide +kernel
theorem dX11_asks_23 : decode cX11_asks 23 = .ok (.ldc_w 266, 3) := by decide +kernel
theorem dX11_asks_26 : decode cX11_asks 26 = .ok (.if_icmp .le 6, 3) := by decide +kernel
theorem dX11_asks_32 : decode cX11_asks 32 = .ok (.aload_n 0, 1) := by decide +kernel
theorem dX11_asks_33 : decode cX11_asks 33 = .ok (.invokevirtual 291, 3) := by decide +kernel
theorem dX11_asks_36 : decode cX11_asks 36 = .ok (.aload_n 0, 1) := by decide +kernel
theorem dX11_asks_37 : decode cX11_asks 37 = .ok (.iload_n 1, 1) := by decide +kernel
theorem dX11_asks_38 : decode cX11_asks 38 = .ok (.invokevirtual 294, 3) := by decide +kernel
theorem dX11_asks_41 : decode cX11_asks 41 = .ok (.istore_n 3, 1) := by decide +kernel
theorem dX11_asks_42 : decode cX11_asks 42 = .ok (.bipush (-2), 2) := by decide +kernel
theorem dX11_asks_44 : decode cX11_asks 44 = .ok (.istore 4, 2) := by decide +kernel
theorem dX11_asks_46 : decode cX11_asks 46 = .ok (.ldc_w 303, 3) := by decide +kernel
theorem dX11_asks_49 : decode cX11_asks 49 = .ok (.istore 5, 2) := by decide +kernel
theorem dX11_asks_51 : decode cX11_asks 51 = .ok (.iconst 0, 1) := by decide +kernel
theorem dX11_asks_52 : decode cX11_asks 52 = .ok (.istore 6, 2) := by decide +kernel
theorem dX11_asks_54 : decode cX11_asks 54 = .ok (.iload 6, 2) := by decide +kernel
theorem dX11_asks_56 : decode cX11_asks 56 = .ok (.bipush 10, 2) := by decide +kernel
theorem dX11_asks_58 : decode cX11_asks 58 = .ok (.if_icmp .ge 114, 3) := by decide +kernel
theorem dX11_asks_61 : decode cX11_asks 61 = .ok (.iload_n 3, 1) := by decide +kernel
theorem dX11_asks_62 : decode cX11_asks 62 = .ok (.ifCond .le 110, 3) := by decide +kernel
theorem dX11_asks_65 : decode cX11_asks 65 = .ok (.aload_n 0, 1) := by decide +kernel
theorem dX11_asks_66 : decode cX11_asks 66 = .ok (.iload 6, 2) := by decide +kernel
theorem dX11_asks_68 : decode cX11_asks 68 = .ok (.invokevirtual 263, 3) := by decide +kernel
theorem dX11_asks_71 : decode cX11_asks 71 = .ok (.ifCond .eq 95, 3) := by decide +kernel
theorem dX11_asks_166 : decode cX11_asks 166 = .ok (.iinc 6 1, 3) := by decide +kernel
theorem dX11_asks_169 : decode cX11_asks 169 = .ok (.goto (-115), 3) := by decide +kernel
theorem dX11_asks_172 : decode cX11_asks 172 = .ok (.iload 4, 2) := by decide +kernel
theorem dX11_asks_174 : decode cX11_asks 174 = .ok (.ireturn, 1) := by decide +kernel
theorem dX11_unlike_0 : decode cX11_unlike 0 = .ok (.aload_n 0, 1) := by decide +kernel
theorem dX11_unlike_1 : decode cX11_unlike 1 = .ok (.iload_n 1, 1) := by decide +kernel
theorem dX11_unlike_2 : decode cX11_unlike 2 = .ok (.invokevirtual 285, 3) := by decide +kernel
theorem dX11_unlike_5 : decode cX11_unlike 5 = .ok (.ifCond .eq 11, 3) := by decide +kernel
theorem dX11_unlike_8 : decode cX11_unlike 8 = .ok (.aload_n 0, 1) := by decide +kernel
theorem dX11_unlike_9 : decode cX11_unlike 9 = .ok (.iload_n 2, 1) := by decide +kernel
theorem dX11_unlike_10 : decode cX11_unlike 10 = .ok (.invokevirtual 285, 3) := by decide +kernel
theorem dX11_unlike_13 : decode cX11_unlike 13 = .ok (.ifCond .ne 5, 3) := by decide +kernel
theorem dX11_unlike_16 : decode cX11_unlike 16 = .ok (.iconst (-1), 1) := by decide +kernel
theorem dX11_unlike_17 : decode cX11_unlike 17 = .ok (.ireturn, 1) := by decide +kernel
theorem dX11_unlike_18 : decode cX11_unlike 18 = .ok (.aload_n 0, 1) := by decide +kernel
theorem dX11_unlike_19 : decode cX11_unlike 19 = .ok (.invokevirtual 267, 3) := by decide +kernel
theorem dX11_unlike_22 : decode cX11_unlike 22 = .ok (.ldc_w 266, 3) := by decide +kernel
theorem dX11_unlike_25 : decode cX11_unlike 25 = .ok (.if_icmp .le 6, 3) := by decide +kernel
theorem dX11_unlike_31 : decode cX11_unlike 31 = .ok (.aload_n 0, 1) := by decide +kernel
theorem dX11_unlike_32 : decode cX11_unlike 32 = .ok (.invokevirtual 291, 3) := by decide +kernel
theorem dX11_unlike_35 : decode cX11_unlike 35 = .ok (.aload_n 0, 1) := by decide +kernel
theorem dX11_unlike_36 : decode cX11_unlike 36 = .ok (.iload_n 1, 1) := by decide +kernel
theorem dX11_unlike_37 : decode cX11_unlike 37 = .ok (.invokevirtual 294, 3) := by decide +kernel
theorem dX11_unlike_40 : decode cX11_unlike 40 = .ok (.aload_n 0, 1) := by decide +kernel
theorem dX11_unlike_41 : decode cX11_unlike 41 = .ok (.iload_n 2, 1) := by decide +kernel
theorem dX11_unlike_42 : decode cX11_unlike 42 = .ok (.invokevirtual 294, 3) := by decide +kernel
theorem dX11_unlike_45 : decode cX11_unlike 45 = .ok (.iadd, 1) := by decide +kernel
theorem dX11_unlike_46 : decode cX11_unlike 46 = .ok (.iconst 2, 1) := by decide +kernel
theorem dX11_unlike_47 : decode cX11_unlike 47 = .ok (.aload_n 0, 1) := by decide +kernel
theorem dX11_unlike_48 : decode cX11_unlike 48 = .ok (.iload_n 1, 1) := by decide +kernel
theorem dX11_unlike_49 : decode cX11_unlike 49 = .ok (.iload_n 2, 1) := by decide +kernel
theorem dX11_unlike_50 : decode cX11_unlike 50 = .ok (.ior, 1) := by decide +kernel
theorem dX11_unlike_51 : decode cX11_unlike 51 = .ok (.invokevirtual 294, 3) := by decide +kernel
theorem dX11_unlike_54 : decode cX11_unlike 54 = .ok (.imul, 1) := by decide +kernel
theorem dX11_unlike_55 : decode cX11_unlike 55 = .ok (.isub, 1) := by decide +kernel
theorem dX11_unlike_56 : decode cX11_unlike 56 = .ok (.ireturn, 1) := by decide +kernel
theorem dX11_lists_0 : decode cX11_lists 0 = .ok (.aload_n 0, 1) := by decide +kernel
theorem dX11_lists_1 : decode cX11_lists 1 = .ok (.iconst 0, 1) := by decide +kernel
theorem dX11_lists_2 : decode cX11_lists 2 = .ok (.putfield 311, 3) := by decide +kernel
theorem dX11_lists_5 : decode cX11_lists 5 = .ok (.aload_n 0, 1) := by decide +kernel
theorem dX11_lists_6 : decode cX11_lists 6 = .ok (.invokevirtual 267, 3) := by decide +kernel
theorem dX11_lists_9 : decode cX11_lists 9 = .ok (.ldc_w 266, 3) := by decide +kernel
theorem dX11_lists_12 : decode cX11_lists 12 = .ok (.if_icmp .le 5, 3) := by decide +kernel
theorem dX11_lists_17 : decode cX11_lists 17 = .ok (.aload_n 0, 1) := by decide +kernel
theorem dX11_lists_18 : decode cX11_lists 18 = .ok (.invokevirtual 276, 3) := by decide +kernel
theorem dX11_lists_21 : decode cX11_lists 21 = .ok (.iconst 1, 1) := by decide +kernel
theorem dX11_lists_22 : decode cX11_lists 22 = .ok (.istore_n 2, 1) := by decide +kernel
theorem dX11_lists_23 : decode cX11_lists 23 = .ok (.iload_n 2, 1) := by decide +kernel
theorem dX11_lists_24 : decode cX11_lists 24 = .ok (.ifCond .eq 76, 3) := by decide +kernel
theorem dX11_lists_27 : decode cX11_lists 27 = .ok (.aload_n 0, 1) := by decide +kernel
theorem dX11_lists_28 : decode cX11_lists 28 = .ok (.iload_n 1, 1) := by decide +kernel
theorem dX11_lists_29 : decode cX11_lists 29 = .ok (.invokevirtual 282, 3) := by decide +kernel
theorem dX11_lists_32 : decode cX11_lists 32 = .ok (.ifCond .eq 60, 3) := by decide +kernel
theorem dX11_lists_35 : decode cX11_lists 35 = .ok (.aload_n 0, 1) := by decide +kernel
theorem dX11_lists_36 : decode cX11_lists 36 = .ok (.getfield 311, 3) := by decide +kernel
theorem dX11_lists_39 : decode cX11_lists 39 = .ok (.sipush 2000, 3) := by decide +kernel
theorem dX11_lists_42 : decode cX11_lists 42 = .ok (.if_icmp .ne 5, 3) := by decide +kernel
theorem dX11_lists_47 : decode cX11_lists 47 = .ok (.iconst 0, 1) := by decide +kernel
theorem dX11_lists_48 : decode cX11_lists 48 = .ok (.istore_n 3, 1) := by decide +kernel
theorem dX11_lists_49 : decode cX11_lists 49 = .ok (.iload_n 3, 1) := by decide +kernel
theorem dX11_lists_50 : decode cX11_lists 50 = .ok (.bipush 6, 2) := by decide +kernel
theorem dX11_lists_52 : decode cX11_lists 52 = .ok (.if_icmp .ge 30, 3) := by decide +kernel
theorem dX11_lists_55 : decode cX11_lists 55 = .ok (.aload_n 0, 1) := by decide +kernel
theorem dX11_lists_56 : decode cX11_lists 56 = .ok (.getfield 86, 3) := by decide +kernel
theorem dX11_lists_59 : decode cX11_lists 59 = .ok (.bipush 6, 2) := by decide +kernel
theorem dX11_lists_61 : decode cX11_lists 61 = .ok (.aload_n 0, 1) := by decide +kernel
theorem dX11_lists_62 : decode cX11_lists 62 = .ok (.getfield 311, 3) := by decide +kernel
theorem dX11_lists_65 : decode cX11_lists 65 = .ok (.imul, 1) := by decide +kernel
theorem dX11_lists_66 : decode cX11_lists 66 = .ok (.iload_n 3, 1) := by decide +kernel
theorem dX11_lists_67 : decode cX11_lists 67 = .ok (.iadd, 1) := by decide +kernel
theorem dX11_lists_68 : decode cX11_lists 68 = .ok (.aload_n 0, 1) := by decide +kernel
theorem dX11_lists_69 : decode cX11_lists 69 = .ok (.getfield 77, 3) := by decide +kernel
theorem dX11_lists_72 : decode cX11_lists 72 = .ok (.iload_n 3, 1) := by decide +kernel
theorem dX11_lists_73 : decode cX11_lists 73 = .ok (.iaload, 1) := by decide +kernel
theorem dX11_lists_74 : decode cX11_lists 74 = .ok (.i2b, 1) := by decide +kernel
theorem dX11_lists_75 : decode cX11_lists 75 = .ok (.bastore, 1) := by decide +kernel
theorem dX11_lists_76 : decode cX11_lists 76 = .ok (.iinc 3 1, 3) := by decide +kernel
theorem dX11_lists_79 : decode cX11_lists 79 = .ok (.goto (-30), 3) := by decide +kernel
theorem dX11_lists_82 : decode cX11_lists 82 = .ok (.aload_n 0, 1) := by decide +kernel
theorem dX11_lists_83 : decode cX11_lists 83 = .ok (.aload_n 0, 1) := by decide +kernel
theorem dX11_lists_84 : decode cX11_lists 84 = .ok (.getfield 311, 3) := by decide +kernel
theorem dX11_lists_87 : decode cX11_lists 87 = .ok (.iconst 1, 1) := by decide +kernel
theorem dX11_lists_88 : decode cX11_lists 88 = .ok (.iadd, 1) := by decide +kernel
theorem dX11_lists_89 : decode cX11_lists 89 = .ok (.putfield 311, 3) := by decide +kernel
theorem dX11_lists_92 : decode cX11_lists 92 = .ok (.aload_n 0, 1) := by decide +kernel
theorem dX11_lists_93 : decode cX11_lists 93 = .ok (.invokevirtual 279, 3) := by decide +kernel
theorem dX11_lists_96 : decode cX11_lists 96 = .ok (.istore_n 2, 1) := by decide +kernel
theorem dX11_lists_97 : decode cX11_lists 97 = .ok (.goto (-74), 3) := by decide +kernel
theorem dX11_lists_100 : decode cX11_lists 100 = .ok (.iconst 1, 1) := by decide +kernel
theorem dX11_lists_101 : decode cX11_lists 101 = .ok (.ireturn, 1) := by decide +kernel
theorem dX11_known_0 : decode cX11_known 0 = .ok (.aload_n 0, 1) := by decide +kernel
theorem dX11_known_1 : decode cX11_known 1 = .ok (.iload_n 1, 1) := by decide +kernel
theorem dX11_known_2 : decode cX11_known 2 = .ok (.invokevirtual 285, 3) := by decide +kernel
theorem dX11_known_5 : decode cX11_known 5 = .ok (.ifCond .eq 11, 3) := by decide +kernel
theorem dX11_known_8 : decode cX11_known 8 = .ok (.aload_n 0, 1) := by decide +kernel
theorem dX11_known_9 : decode cX11_known 9 = .ok (.iload_n 2, 1) := by decide +kernel
theorem dX11_known_10 : decode cX11_known 10 = .ok (.invokevirtual 317, 3) := by decide +kernel
theorem dX11_known_13 : decode cX11_known 13 = .ok (.ifCond .ne 5, 3) := by decide +kernel
theorem dX11_known_16 : decode cX11_known 16 = .ok (.iconst (-1), 1) := by decide +kernel
theorem dX11_known_17 : decode cX11_known 17 = .ok (.ireturn, 1) := by decide +kernel
theorem dX11_sayings_0 : decode cX11_sayings 0 = .ok (.aload_n 0, 1) := by decide +kernel
theorem dX11_sayings_1 : decode cX11_sayings 1 = .ok (.iload_n 1, 1) := by decide +kernel
theorem dX11_sayings_2 : decode cX11_sayings 2 = .ok (.invokevirtual 285, 3) := by decide +kernel
theorem dX11_sayings_5 : decode cX11_sayings 5 = .ok (.ifCond .eq 35, 3) := by decide +kernel
theorem dX11_sayings_8 : decode cX11_sayings 8 = .ok (.iload_n 2, 1) := by decide +kernel
theorem dX11_sayings_9 : decode cX11_sayings 9 = .ok (.iconst 1, 1) := by decide +kernel
theorem dX11_sayings_10 : decode cX11_sayings 10 = .ok (.bipush 20, 2) := by decide +kernel
theorem dX11_sayings_12 : decode cX11_sayings 12 = .ok (.invokestatic 137, 3) := by decide +kernel
theorem dX11_sayings_15 : decode cX11_sayings 15 = .ok (.ifCond .eq 25, 3) := by decide +kernel
theorem dX11_sayings_18 : decode cX11_sayings 18 = .ok (.iload_n 3, 1) := by decide +kernel
theorem dX11_sayings_19 : decode cX11_sayings 19 = .ok (.bipush 100, 2) := by decide +kernel
theorem dX11_sayings_21 : decode cX11_sayings 21 = .ok (.if_icmp .eq 11, 3) := by decide +kernel
theorem dX11_sayings_24 : decode cX11_sayings 24 = .ok (.aload_n 0, 1) := by decide +kernel
theorem dX11_sayings_25 : decode cX11_sayings 25 = .ok (.iload_n 3, 1) := by decide +kernel
theorem dX11_sayings_26 : decode cX11_sayings 26 = .ok (.invokevirtual 145, 3) := by decide +kernel
theorem dX11_sayings_29 : decode cX11_sayings 29 = .ok (.ifCond .eq 11, 3) := by decide +kernel
theorem dX11_sayings_32 : decode cX11_sayings 32 = .ok (.iload_n 2, 1) := by decide +kernel
theorem dX11_sayings_33 : decode cX11_sayings 33 = .ok (.aload_n 0, 1) := by decide +kernel
theorem dX11_sayings_34 : decode cX11_sayings 34 = .ok (.getfield 159, 3) := by decide +kernel
theorem dX11_sayings_37 : decode cX11_sayings 37 = .ok (.if_icmp .le 5, 3) := by decide +kernel
theorem dX11_sayings_40 : decode cX11_sayings 40 = .ok (.iconst (-1), 1) := by decide +kernel
theorem dX11_sayings_41 : decode cX11_sayings 41 = .ok (.ireturn, 1) := by decide +kernel
theorem dX11_often_0 : decode cX11_often 0 = .ok (.aload_n 0, 1) := by decide +kernel
theorem dX11_often_1 : decode cX11_often 1 = .ok (.iload_n 1, 1) := by decide +kernel
theorem dX11_often_2 : decode cX11_often 2 = .ok (.invokevirtual 285, 3) := by decide +kernel
theorem dX11_often_5 : decode cX11_often 5 = .ok (.ifCond .eq 20, 3) := by decide +kernel
theorem dX11_often_8 : decode cX11_often 8 = .ok (.aload_n 0, 1) := by decide +kernel
theorem dX11_often_9 : decode cX11_often 9 = .ok (.iload_n 2, 1) := by decide +kernel
theorem dX11_often_10 : decode cX11_often 10 = .ok (.invokevirtual 317, 3) := by decide +kernel
theorem dX11_often_13 : decode cX11_often 13 = .ok (.ifCond .eq 12, 3) := by decide +kernel
theorem dX11_often_25 : decode cX11_often 25 = .ok (.iconst (-1), 1) := by decide +kernel
theorem dX11_often_26 : decode cX11_often 26 = .ok (.ireturn, 1) := by decide +kernel
theorem dX11_shortest_0 : decode cX11_shortest 0 = .ok (.aload_n 0, 1) := by decide +kernel
theorem dX11_shortest_1 : decode cX11_shortest 1 = .ok (.iload_n 1, 1) := by decide +kernel
theorem dX11_shortest_2 : decode cX11_shortest 2 = .ok (.invokevirtual 285, 3) := by decide +kernel
theorem dX11_shortest_5 : decode cX11_shortest 5 = .ok (.ifCond .eq 12, 3) := by decide +kernel
theorem dX11_shortest_8 : decode cX11_shortest 8 = .ok (.iload_n 2, 1) := by decide +kernel
theorem dX11_shortest_9 : decode cX11_shortest 9 = .ok (.iconst 0, 1) := by decide +kernel
theorem dX11_shortest_10 : decode cX11_shortest 10 = .ok (.iconst 4, 1) := by decide +kernel
theorem dX11_shortest_11 : decode cX11_shortest 11 = .ok (.invokestatic 137, 3) := by decide +kernel
theorem dX11_shortest_14 : decode cX11_shortest 14 = .ok (.ifCond .ne 5, 3) := by decide +kernel
theorem dX11_shortest_17 : decode cX11_shortest 17 = .ok (.iconst (-1), 1) := by decide +kernel
theorem dX11_shortest_18 : decode cX11_shortest 18 = .ok (.ireturn, 1) := by decide +kernel
theorem dX11_shortest_19 : decode cX11_shortest 19 = .ok (.aload_n 0, 1) := by decide +kernel
theorem dX11_shortest_20 : decode cX11_shortest 20 = .ok (.iload_n 1, 1) := by decide +kernel
theorem dX11_shortest_21 : decode cX11_shortest 21 = .ok (.invokevirtual 320, 3) := by decide +kernel
theorem dX11_shortest_24 : decode cX11_shortest 24 = .ok (.ifCond .ne 6, 3) := by decide +kernel
theorem dX11_shortest_30 : decode cX11_shortest 30 = .ok (.aload_n 0, 1) := by decide +kernel
theorem dX11_shortest_31 : decode cX11_shortest 31 = .ok (.ldc_w 303, 3) := by decide +kernel
theorem dX11_shortest_34 : decode cX11_shortest 34 = .ok (.putfield 336, 3) := by decide +kernel
theorem dX11_shortest_37 : decode cX11_shortest 37 = .ok (.iconst 0, 1) := by decide +kernel
theorem dX11_shortest_38 : decode cX11_shortest 38 = .ok (.istore_n 3, 1) := by decide +kernel
theorem dX11_shortest_39 : decode cX11_shortest 39 = .ok (.iload_n 3, 1) := by decide +kernel
theorem dX11_shortest_40 : decode cX11_shortest 40 = .ok (.bipush 6, 2) := by decide +kernel
theorem dX11_shortest_42 : decode cX11_shortest 42 = .ok (.if_icmp .ge 98, 3) := by decide +kernel
theorem dX11_shortest_45 : decode cX11_shortest 45 = .ok (.aload_n 0, 1) := by decide +kernel
theorem dX11_shortest_46 : decode cX11_shortest 46 = .ok (.getfield 311, 3) := by decide +kernel
theorem dX11_shortest_49 : decode cX11_shortest 49 = .ok (.ifCond .le 91, 3) := by decide +kernel
theorem dX11_shortest_52 : decode cX11_shortest 52 = .ok (.aload_n 0, 1) := by decide +kernel
theorem dX11_shortest_53 : decode cX11_shortest 53 = .ok (.iload_n 3, 1) := by decide +kernel
theorem dX11_shortest_54 : decode cX11_shortest 54 = .ok (.invokevirtual 145, 3) := by decide +kernel
theorem dX11_shortest_57 : decode cX11_shortest 57 = .ok (.ifCond .ne 6, 3) := by decide +kernel
theorem dX11_shortest_60 : decode cX11_shortest 60 = .ok (.goto 74, 3) := by decide +kernel
theorem dX11_shortest_134 : decode cX11_shortest 134 = .ok (.iinc 3 1, 3) := by decide +kernel
theorem dX11_shortest_137 : decode cX11_shortest 137 = .ok (.goto (-98), 3) := by decide +kernel
theorem dX11_shortest_140 : decode cX11_shortest 140 = .ok (.aload_n 0, 1) := by decide +kernel
theorem dX11_shortest_141 : decode cX11_shortest 141 = .ok (.getfield 336, 3) := by decide +kernel
theorem dX11_shortest_144 : decode cX11_shortest 144 = .ok (.ldc_w 303, 3) := by decide +kernel
theorem dX11_shortest_147 : decode cX11_shortest 147 = .ok (.if_icmp .ne 6, 3) := by decide +kernel
theorem dX11_shortest_150 : decode cX11_shortest 150 = .ok (.bipush (-2), 2) := by decide +kernel
theorem dX11_shortest_152 : decode cX11_shortest 152 = .ok (.ireturn, 1) := by decide +kernel
theorem dX11_isTrue_0 : decode cX11_isTrue 0 = .ok (.aload_n 0, 1) := by decide +kernel
theorem dX11_isTrue_1 : decode cX11_isTrue 1 = .ok (.iload_n 1, 1) := by decide +kernel
theorem dX11_isTrue_2 : decode cX11_isTrue 2 = .ok (.invokevirtual 285, 3) := by decide +kernel
theorem dX11_isTrue_5 : decode cX11_isTrue 5 = .ok (.ifCond .eq 20, 3) := by decide +kernel
theorem dX11_isTrue_8 : decode cX11_isTrue 8 = .ok (.aload_n 0, 1) := by decide +kernel
theorem dX11_isTrue_9 : decode cX11_isTrue 9 = .ok (.iload_n 2, 1) := by decide +kernel
theorem dX11_isTrue_10 : decode cX11_isTrue 10 = .ok (.invokevirtual 263, 3) := by decide +kernel
theorem dX11_isTrue_13 : decode cX11_isTrue 13 = .ok (.ifCond .eq 12, 3) := by decide +kernel
theorem dX11_isTrue_25 : decode cX11_isTrue 25 = .ok (.sipush (-204), 3) := by decide +kernel
theorem dX11_isTrue_28 : decode cX11_isTrue 28 = .ok (.ireturn, 1) := by decide +kernel
theorem dX11_together_0 : decode cX11_together 0 = .ok (.aload_n 0, 1) := by decide +kernel
theorem dX11_together_1 : decode cX11_together 1 = .ok (.iload_n 1, 1) := by decide +kernel
theorem dX11_together_2 : decode cX11_together 2 = .ok (.invokevirtual 285, 3) := by decide +kernel
theorem dX11_together_5 : decode cX11_together 5 = .ok (.ifCond .eq 46, 3) := by decide +kernel
theorem dX11_together_8 : decode cX11_together 8 = .ok (.aload_n 0, 1) := by decide +kernel
theorem dX11_together_9 : decode cX11_together 9 = .ok (.iload_n 2, 1) := by decide +kernel
theorem dX11_together_10 : decode cX11_together 10 = .ok (.invokevirtual 145, 3) := by decide +kernel
theorem dX11_together_13 : decode cX11_together 13 = .ok (.ifCond .eq 38, 3) := by decide +kernel
theorem dX11_together_51 : decode cX11_together 51 = .ok (.sipush (-4000), 3) := by decide +kernel
theorem dX11_together_54 : decode cX11_together 54 = .ok (.ireturn, 1) := by decide +kernel
theorem dX11_turned_0 : decode cX11_turned 0 = .ok (.aload_n 0, 1) := by decide +kernel
theorem dX11_turned_1 : decode cX11_turned 1 = .ok (.iload_n 1, 1) := by decide +kernel
theorem dX11_turned_2 : decode cX11_turned 2 = .ok (.invokevirtual 285, 3) := by decide +kernel
theorem dX11_turned_5 : decode cX11_turned 5 = .ok (.ifCond .eq 22, 3) := by decide +kernel
theorem dX11_turned_8 : decode cX11_turned 8 = .ok (.aload_n 0, 1) := by decide +kernel
theorem dX11_turned_9 : decode cX11_turned 9 = .ok (.iload_n 2, 1) := by decide +kernel
theorem dX11_turned_10 : decode cX11_turned 10 = .ok (.iload_n 3, 1) := by decide +kernel
theorem dX11_turned_11 : decode cX11_turned 11 = .ok (.invokevirtual 300, 3) := by decide +kernel
theorem dX11_turned_14 : decode cX11_turned 14 = .ok (.ifCond .eq 13, 3) := by decide +kernel
theorem dX11_turned_27 : decode cX11_turned 27 = .ok (.iconst (-1), 1) := by decide +kernel
theorem dX11_turned_28 : decode cX11_turned 28 = .ok (.ireturn, 1) := by decide +kernel
theorem dX11_squaresIn_0 : decode cX11_squaresIn 0 = .ok (.iconst 0, 1) := by decide +kernel
theorem dX11_squaresIn_1 : decode cX11_squaresIn 1 = .ok (.istore_n 2, 1) := by decide +kernel
theorem dX11_squaresIn_2 : decode cX11_squaresIn 2 = .ok (.iconst 0, 1) := by decide +kernel
theorem dX11_squaresIn_3 : decode cX11_squaresIn 3 = .ok (.istore_n 3, 1) := by decide +kernel
theorem dX11_squaresIn_4 : decode cX11_squaresIn 4 = .ok (.iload_n 3, 1) := by decide +kernel
theorem dX11_squaresIn_5 : decode cX11_squaresIn 5 = .ok (.bipush 6, 2) := by decide +kernel
theorem dX11_squaresIn_7 : decode cX11_squaresIn 7 = .ok (.if_icmp .ge 87, 3) := by decide +kernel
theorem dX11_squaresIn_10 : decode cX11_squaresIn 10 = .ok (.iconst 0, 1) := by decide +kernel
theorem dX11_squaresIn_11 : decode cX11_squaresIn 11 = .ok (.istore 4, 2) := by decide +kernel
theorem dX11_squaresIn_13 : decode cX11_squaresIn 13 = .ok (.aload_n 0, 1) := by decide +kernel
theorem dX11_squaresIn_14 : decode cX11_squaresIn 14 = .ok (.iload_n 3, 1) := by decide +kernel
theorem dX11_squaresIn_15 : decode cX11_squaresIn 15 = .ok (.invokevirtual 145, 3) := by decide +kernel
theorem dX11_squaresIn_18 : decode cX11_squaresIn 18 = .ok (.ifCond .eq 33, 3) := by decide +kernel
theorem dX11_squaresIn_51 : decode cX11_squaresIn 51 = .ok (.iload_n 2, 1) := by decide +kernel
theorem dX11_squaresIn_52 : decode cX11_squaresIn 52 = .ok (.aload_n 0, 1) := by decide +kernel
theorem dX11_squaresIn_53 : decode cX11_squaresIn 53 = .ok (.iload_n 3, 1) := by decide +kernel
theorem dX11_squaresIn_54 : decode cX11_squaresIn 54 = .ok (.invokevirtual 145, 3) := by decide +kernel
theorem dX11_squaresIn_57 : decode cX11_squaresIn 57 = .ok (.ifCond .eq 28, 3) := by decide +kernel
theorem dX11_squaresIn_85 : decode cX11_squaresIn 85 = .ok (.iconst 0, 1) := by decide +kernel
theorem dX11_squaresIn_86 : decode cX11_squaresIn 86 = .ok (.iadd, 1) := by decide +kernel
theorem dX11_squaresIn_87 : decode cX11_squaresIn 87 = .ok (.istore_n 2, 1) := by decide +kernel
theorem dX11_squaresIn_88 : decode cX11_squaresIn 88 = .ok (.iinc 3 1, 3) := by decide +kernel
theorem dX11_squaresIn_91 : decode cX11_squaresIn 91 = .ok (.goto (-87), 3) := by decide +kernel
theorem dX11_squaresIn_94 : decode cX11_squaresIn 94 = .ok (.iload_n 2, 1) := by decide +kernel
theorem dX11_squaresIn_95 : decode cX11_squaresIn 95 = .ok (.ireturn, 1) := by decide +kernel
theorem dX11_squares_0 : decode cX11_squares 0 = .ok (.aload_n 0, 1) := by decide +kernel
theorem dX11_squares_1 : decode cX11_squares 1 = .ok (.iload_n 1, 1) := by decide +kernel
theorem dX11_squares_2 : decode cX11_squares 2 = .ok (.invokevirtual 285, 3) := by decide +kernel
theorem dX11_squares_5 : decode cX11_squares 5 = .ok (.ifCond .eq 13, 3) := by decide +kernel
theorem dX11_squares_8 : decode cX11_squares 8 = .ok (.iload_n 2, 1) := by decide +kernel
theorem dX11_squares_9 : decode cX11_squares 9 = .ok (.iconst 0, 1) := by decide +kernel
theorem dX11_squares_10 : decode cX11_squares 10 = .ok (.bipush 100, 2) := by decide +kernel
theorem dX11_squares_12 : decode cX11_squares 12 = .ok (.invokestatic 137, 3) := by decide +kernel
theorem dX11_squares_15 : decode cX11_squares 15 = .ok (.ifCond .ne 5, 3) := by decide +kernel
theorem dX11_squares_18 : decode cX11_squares 18 = .ok (.iconst (-1), 1) := by decide +kernel
theorem dX11_squares_19 : decode cX11_squares 19 = .ok (.ireturn, 1) := by decide +kernel
theorem dX11_squares_20 : decode cX11_squares 20 = .ok (.aload_n 0, 1) := by decide +kernel
theorem dX11_squares_21 : decode cX11_squares 21 = .ok (.invokevirtual 267, 3) := by decide +kernel
theorem dX11_squares_24 : decode cX11_squares 24 = .ok (.ldc_w 266, 3) := by decide +kernel
theorem dX11_squares_27 : decode cX11_squares 27 = .ok (.if_icmp .le 6, 3) := by decide +kernel
theorem dX11_squares_33 : decode cX11_squares 33 = .ok (.aload_n 0, 1) := by decide +kernel
theorem dX11_squares_34 : decode cX11_squares 34 = .ok (.iload_n 1, 1) := by decide +kernel
theorem dX11_squares_35 : decode cX11_squares 35 = .ok (.invokevirtual 288, 3) := by decide +kernel
theorem dX11_squares_38 : decode cX11_squares 38 = .ok (.ifCond .ne 6, 3) := by decide +kernel
theorem dX11_squares_44 : decode cX11_squares 44 = .ok (.iload_n 2, 1) := by decide +kernel
theorem dX11_squares_45 : decode cX11_squares 45 = .ok (.bipush 100, 2) := by decide +kernel
theorem dX11_squares_47 : decode cX11_squares 47 = .ok (.if_icmp .ge 9, 3) := by decide +kernel
theorem dX11_squares_50 : decode cX11_squares 50 = .ok (.aload_n 0, 1) := by decide +kernel
theorem dX11_squares_51 : decode cX11_squares 51 = .ok (.iload_n 2, 1) := by decide +kernel
theorem dX11_squares_52 : decode cX11_squares 52 = .ok (.invokevirtual 371, 3) := by decide +kernel
theorem dX11_squares_55 : decode cX11_squares 55 = .ok (.ireturn, 1) := by decide +kernel
theorem dX11_squares_56 : decode cX11_squares 56 = .ok (.iconst 0, 1) := by decide +kernel
theorem dX11_squares_57 : decode cX11_squares 57 = .ok (.istore_n 3, 1) := by decide +kernel
theorem dX11_squares_58 : decode cX11_squares 58 = .ok (.iconst 1, 1) := by decide +kernel
theorem dX11_squares_59 : decode cX11_squares 59 = .ok (.istore 4, 2) := by decide +kernel
theorem dX11_squares_61 : decode cX11_squares 61 = .ok (.iload 4, 2) := by decide +kernel
theorem dX11_squares_63 : decode cX11_squares 63 = .ok (.bipush 100, 2) := by decide +kernel
theorem dX11_squares_65 : decode cX11_squares 65 = .ok (.if_icmp .ge 26, 3) := by decide +kernel
theorem dX11_squares_68 : decode cX11_squares 68 = .ok (.aload_n 0, 1) := by decide +kernel
theorem dX11_squares_69 : decode cX11_squares 69 = .ok (.iload 4, 2) := by decide +kernel
theorem dX11_squares_71 : decode cX11_squares 71 = .ok (.invokevirtual 371, 3) := by decide +kernel
theorem dX11_squares_74 : decode cX11_squares 74 = .ok (.aload_n 0, 1) := by decide +kernel
theorem dX11_squares_75 : decode cX11_squares 75 = .ok (.iload_n 3, 1) := by decide +kernel
theorem dX11_squares_76 : decode cX11_squares 76 = .ok (.invokevirtual 371, 3) := by decide +kernel
theorem dX11_squares_79 : decode cX11_squares 79 = .ok (.if_icmp .le 6, 3) := by decide +kernel
theorem dX11_squares_85 : decode cX11_squares 85 = .ok (.iinc 4 1, 3) := by decide +kernel
theorem dX11_squares_88 : decode cX11_squares 88 = .ok (.goto (-27), 3) := by decide +kernel
theorem dX11_squares_91 : decode cX11_squares 91 = .ok (.iload_n 3, 1) := by decide +kernel
theorem dX11_squares_92 : decode cX11_squares 92 = .ok (.ireturn, 1) := by decide +kernel
theorem dX11_when_0 : decode cX11_when 0 = .ok (.aload_n 0, 1) := by decide +kernel
theorem dX11_when_1 : decode cX11_when 1 = .ok (.iload_n 1, 1) := by decide +kernel
theorem dX11_when_2 : decode cX11_when 2 = .ok (.invokevirtual 285, 3) := by decide +kernel
theorem dX11_when_5 : decode cX11_when 5 = .ok (.ifCond .eq 31, 3) := by decide +kernel
theorem dX11_when_8 : decode cX11_when 8 = .ok (.aload_n 0, 1) := by decide +kernel
theorem dX11_when_9 : decode cX11_when 9 = .ok (.iload_n 2, 1) := by decide +kernel
theorem dX11_when_10 : decode cX11_when 10 = .ok (.invokevirtual 145, 3) := by decide +kernel
theorem dX11_when_13 : decode cX11_when 13 = .ok (.ifCond .eq 23, 3) := by decide +kernel
theorem dX11_when_36 : decode cX11_when 36 = .ok (.sipush (-4000), 3) := by decide +kernel
theorem dX11_when_39 : decode cX11_when 39 = .ok (.ireturn, 1) := by decide +kernel
theorem dX11_worth_0 : decode cX11_worth 0 = .ok (.aload_n 0, 1) := by decide +kernel
theorem dX11_worth_1 : decode cX11_worth 1 = .ok (.iload_n 1, 1) := by decide +kernel
theorem dX11_worth_2 : decode cX11_worth 2 = .ok (.invokevirtual 285, 3) := by decide +kernel
theorem dX11_worth_5 : decode cX11_worth 5 = .ok (.ifCond .eq 21, 3) := by decide +kernel
theorem dX11_worth_8 : decode cX11_worth 8 = .ok (.aload_n 0, 1) := by decide +kernel
theorem dX11_worth_9 : decode cX11_worth 9 = .ok (.iload_n 2, 1) := by decide +kernel
theorem dX11_worth_10 : decode cX11_worth 10 = .ok (.invokevirtual 317, 3) := by decide +kernel
theorem dX11_worth_13 : decode cX11_worth 13 = .ok (.ifCond .eq 13, 3) := by decide +kernel
theorem dX11_worth_26 : decode cX11_worth 26 = .ok (.iconst 0, 1) := by decide +kernel
theorem dX11_worth_27 : decode cX11_worth 27 = .ok (.ireturn, 1) := by decide +kernel
theorem dX11_between_0 : decode cX11_between 0 = .ok (.aload_n 0, 1) := by decide +kernel
theorem dX11_between_1 : decode cX11_between 1 = .ok (.iload_n 1, 1) := by decide +kernel
theorem dX11_between_2 : decode cX11_between 2 = .ok (.invokevirtual 285, 3) := by decide +kernel
theorem dX11_between_5 : decode cX11_between 5 = .ok (.ifCond .eq 30, 3) := by decide +kernel
theorem dX11_between_8 : decode cX11_between 8 = .ok (.aload_n 0, 1) := by decide +kernel
theorem dX11_between_9 : decode cX11_between 9 = .ok (.iload_n 2, 1) := by decide +kernel
theorem dX11_between_10 : decode cX11_between 10 = .ok (.invokevirtual 317, 3) := by decide +kernel
theorem dX11_between_13 : decode cX11_between 13 = .ok (.ifCond .eq 22, 3) := by decide +kernel
theorem dX11_between_35 : decode cX11_between 35 = .ok (.iconst 0, 1) := by decide +kernel
theorem dX11_between_36 : decode cX11_between 36 = .ok (.ireturn, 1) := by decide +kernel
theorem dX11_whoIsWho_0 : decode cX11_whoIsWho 0 = .ok (.iload_n 1, 1) := by decide +kernel
theorem dX11_whoIsWho_1 : decode cX11_whoIsWho 1 = .ok (.iconst 2, 1) := by decide +kernel
theorem dX11_whoIsWho_2 : decode cX11_whoIsWho 2 = .ok (.bipush 6, 2) := by decide +kernel
theorem dX11_whoIsWho_4 : decode cX11_whoIsWho 4 = .ok (.invokestatic 137, 3) := by decide +kernel
theorem dX11_whoIsWho_7 : decode cX11_whoIsWho 7 = .ok (.ifCond .eq 68, 3) := by decide +kernel
theorem dX11_whoIsWho_10 : decode cX11_whoIsWho 10 = .ok (.iload_n 2, 1) := by decide +kernel
theorem dX11_whoIsWho_11 : decode cX11_whoIsWho 11 = .ok (.ifCond .lt 64, 3) := by decide +kernel
theorem dX11_whoIsWho_14 : decode cX11_whoIsWho 14 = .ok (.iload_n 2, 1) := by decide +kernel
theorem dX11_whoIsWho_15 : decode cX11_whoIsWho 15 = .ok (.aload_n 0, 1) := by decide +kernel
theorem dX11_whoIsWho_16 : decode cX11_whoIsWho 16 = .ok (.getfield 141, 3) := by decide +kernel
theorem dX11_whoIsWho_19 : decode cX11_whoIsWho 19 = .ok (.iconst (-1), 1) := by decide +kernel
theorem dX11_whoIsWho_20 : decode cX11_whoIsWho 20 = .ok (.ixor, 1) := by decide +kernel
theorem dX11_whoIsWho_21 : decode cX11_whoIsWho 21 = .ok (.iand, 1) := by decide +kernel
theorem dX11_whoIsWho_22 : decode cX11_whoIsWho 22 = .ok (.ifCond .ne 53, 3) := by decide +kernel
theorem dX11_whoIsWho_25 : decode cX11_whoIsWho 25 = .ok (.iload_n 2, 1) := by decide +kernel
theorem dX11_whoIsWho_26 : decode cX11_whoIsWho 26 = .ok (.invokestatic 256, 3) := by decide +kernel
theorem dX11_whoIsWho_29 : decode cX11_whoIsWho 29 = .ok (.iload_n 1, 1) := by decide +kernel
theorem dX11_whoIsWho_30 : decode cX11_whoIsWho 30 = .ok (.if_icmp .ne 45, 3) := by decide +kernel
theorem dX11_whoIsWho_75 : decode cX11_whoIsWho 75 = .ok (.iconst (-1), 1) := by decide +kernel
theorem dX11_whoIsWho_76 : decode cX11_whoIsWho 76 = .ok (.ireturn, 1) := by decide +kernel
theorem dX11_parent_0 : decode cX11_parent 0 = .ok (.aload_n 0, 1) := by decide +kernel
theorem dX11_parent_1 : decode cX11_parent 1 = .ok (.iload_n 1, 1) := by decide +kernel
theorem dX11_parent_2 : decode cX11_parent 2 = .ok (.iload_n 2, 1) := by decide +kernel
theorem dX11_parent_3 : decode cX11_parent 3 = .ok (.invokevirtual 300, 3) := by decide +kernel
theorem dX11_parent_6 : decode cX11_parent 6 = .ok (.ifCond .eq 13, 3) := by decide +kernel
theorem dX11_parent_19 : decode cX11_parent 19 = .ok (.iconst 0, 1) := by decide +kernel
theorem dX11_parent_20 : decode cX11_parent 20 = .ok (.ireturn, 1) := by decide +kernel
theorem dX11_tree_0 : decode cX11_tree 0 = .ok (.aload_n 0, 1) := by decide +kernel
theorem dX11_tree_1 : decode cX11_tree 1 = .ok (.iload_n 1, 1) := by decide +kernel
theorem dX11_tree_2 : decode cX11_tree 2 = .ok (.invokevirtual 145, 3) := by decide +kernel
theorem dX11_tree_5 : decode cX11_tree 5 = .ok (.ifCond .eq 12, 3) := by decide +kernel
theorem dX11_tree_17 : decode cX11_tree 17 = .ok (.iconst (-1), 1) := by decide +kernel
theorem dX11_tree_18 : decode cX11_tree 18 = .ok (.ireturn, 1) := by decide +kernel
theorem dX11_tyres_0 : decode cX11_tyres 0 = .ok (.iload_n 1, 1) := by decide +kernel
theorem dX11_tyres_1 : decode cX11_tyres 1 = .ok (.iconst 1, 1) := by decide +kernel
theorem dX11_tyres_2 : decode cX11_tyres 2 = .ok (.bipush 8, 2) := by decide +kernel
theorem dX11_tyres_4 : decode cX11_tyres 4 = .ok (.invokestatic 137, 3) := by decide +kernel
theorem dX11_tyres_7 : decode cX11_tyres 7 = .ok (.ifCond .eq 21, 3) := by decide +kernel
theorem dX11_tyres_10 : decode cX11_tyres 10 = .ok (.iload_n 2, 1) := by decide +kernel
theorem dX11_tyres_11 : decode cX11_tyres 11 = .ok (.iconst 1, 1) := by decide +kernel
theorem dX11_tyres_12 : decode cX11_tyres 12 = .ok (.bipush 8, 2) := by decide +kernel
theorem dX11_tyres_14 : decode cX11_tyres 14 = .ok (.invokestatic 137, 3) := by decide +kernel
theorem dX11_tyres_17 : decode cX11_tyres 17 = .ok (.ifCond .eq 11, 3) := by decide +kernel
theorem dX11_tyres_20 : decode cX11_tyres 20 = .ok (.iload_n 1, 1) := by decide +kernel
theorem dX11_tyres_21 : decode cX11_tyres 21 = .ok (.aload_n 0, 1) := by decide +kernel
theorem dX11_tyres_22 : decode cX11_tyres 22 = .ok (.getfield 159, 3) := by decide +kernel
theorem dX11_tyres_25 : decode cX11_tyres 25 = .ok (.if_icmp .le 5, 3) := by decide +kernel
theorem dX11_tyres_28 : decode cX11_tyres 28 = .ok (.iconst (-1), 1) := by decide +kernel
theorem dX11_tyres_29 : decode cX11_tyres 29 = .ok (.ireturn, 1) := by decide +kernel
theorem dX11_butts_0 : decode cX11_butts 0 = .ok (.iload_n 1, 1) := by decide +kernel
theorem dX11_butts_1 : decode cX11_butts 1 = .ok (.iconst 0, 1) := by decide +kernel
theorem dX11_butts_2 : decode cX11_butts 2 = .ok (.bipush 20, 2) := by decide +kernel
theorem dX11_butts_4 : decode cX11_butts 4 = .ok (.invokestatic 137, 3) := by decide +kernel
theorem dX11_butts_7 : decode cX11_butts 7 = .ok (.ifCond .eq 12, 3) := by decide +kernel
theorem dX11_butts_10 : decode cX11_butts 10 = .ok (.aload_n 0, 1) := by decide +kernel
theorem dX11_butts_11 : decode cX11_butts 11 = .ok (.getfield 159, 3) := by decide +kernel
theorem dX11_butts_14 : decode cX11_butts 14 = .ok (.bipush 6, 2) := by decide +kernel
theorem dX11_butts_16 : decode cX11_butts 16 = .ok (.if_icmp .ge 5, 3) := by decide +kernel
theorem dX11_butts_19 : decode cX11_butts 19 = .ok (.iconst (-1), 1) := by decide +kernel
theorem dX11_butts_20 : decode cX11_butts 20 = .ok (.ireturn, 1) := by decide +kernel
theorem dX11_howOld_0 : decode cX11_howOld 0 = .ok (.iload_n 1, 1) := by decide +kernel
theorem dX11_howOld_1 : decode cX11_howOld 1 = .ok (.iconst 1, 1) := by decide +kernel
theorem dX11_howOld_2 : decode cX11_howOld 2 = .ok (.bipush 6, 2) := by decide +kernel
theorem dX11_howOld_4 : decode cX11_howOld 4 = .ok (.invokestatic 137, 3) := by decide +kernel
theorem dX11_howOld_7 : decode cX11_howOld 7 = .ok (.ifCond .eq 35, 3) := by decide +kernel
theorem dX11_howOld_10 : decode cX11_howOld 10 = .ok (.iload_n 2, 1) := by decide +kernel
theorem dX11_howOld_11 : decode cX11_howOld 11 = .ok (.iconst 0, 1) := by decide +kernel
theorem dX11_howOld_12 : decode cX11_howOld 12 = .ok (.sipush 400, 3) := by decide +kernel
theorem dX11_howOld_15 : decode cX11_howOld 15 = .ok (.invokestatic 137, 3) := by decide +kernel
theorem dX11_howOld_18 : decode cX11_howOld 18 = .ok (.ifCond .eq 24, 3) := by decide +kernel
theorem dX11_howOld_21 : decode cX11_howOld 21 = .ok (.iload_n 3, 1) := by decide +kernel
theorem dX11_howOld_22 : decode cX11_howOld 22 = .ok (.iconst 0, 1) := by decide +kernel
theorem dX11_howOld_23 : decode cX11_howOld 23 = .ok (.bipush 99, 2) := by decide +kernel
theorem dX11_howOld_25 : decode cX11_howOld 25 = .ok (.invokestatic 137, 3) := by decide +kernel
theorem dX11_howOld_28 : decode cX11_howOld 28 = .ok (.ifCond .eq 14, 3) := by decide +kernel
theorem dX11_howOld_31 : decode cX11_howOld 31 = .ok (.iload 4, 2) := by decide +kernel
theorem dX11_howOld_33 : decode cX11_howOld 33 = .ok (.iload_n 3, 1) := by decide +kernel
theorem dX11_howOld_34 : decode cX11_howOld 34 = .ok (.bipush 99, 2) := by decide +kernel
theorem dX11_howOld_36 : decode cX11_howOld 36 = .ok (.invokestatic 137, 3) := by decide +kernel
theorem dX11_howOld_39 : decode cX11_howOld 39 = .ok (.ifCond .ne 7, 3) := by decide +kernel
theorem dX11_howOld_42 : decode cX11_howOld 42 = .ok (.ldc2_w 403, 3) := by decide +kernel
theorem dX11_howOld_45 : decode cX11_howOld 45 = .ok (.lreturn, 1) := by decide +kernel
theorem dX11_howOld_46 : decode cX11_howOld 46 = .ok (.iconst 0, 1) := by decide +kernel
theorem dX11_howOld_47 : decode cX11_howOld 47 = .ok (.istore 5, 2) := by decide +kernel
theorem dX11_howOld_49 : decode cX11_howOld 49 = .ok (.iload 5, 2) := by decide +kernel
theorem dX11_howOld_51 : decode cX11_howOld 51 = .ok (.sipush 2807, 3) := by decide +kernel
theorem dX11_howOld_54 : decode cX11_howOld 54 = .ok (.if_icmp .ge 17, 3) := by decide +kernel
theorem dX11_howOld_57 : decode cX11_howOld 57 = .ok (.aload_n 0, 1) := by decide +kernel
theorem dX11_howOld_58 : decode cX11_howOld 58 = .ok (.getfield 126, 3) := by decide +kernel
theorem dX11_howOld_61 : decode cX11_howOld 61 = .ok (.iload 5, 2) := by decide +kernel
theorem dX11_howOld_63 : decode cX11_howOld 63 = .ok (.lconst 0, 1) := by decide +kernel
theorem dX11_howOld_64 : decode cX11_howOld 64 = .ok (.lastore, 1) := by decide +kernel
theorem dX11_howOld_65 : decode cX11_howOld 65 = .ok (.iinc 5 1, 3) := by decide +kernel
theorem dX11_howOld_68 : decode cX11_howOld 68 = .ok (.goto (-19), 3) := by decide +kernel
theorem dX11_howOld_71 : decode cX11_howOld 71 = .ok (.aload_n 0, 1) := by decide +kernel
theorem dX11_howOld_72 : decode cX11_howOld 72 = .ok (.getfield 126, 3) := by decide +kernel
theorem dX11_howOld_75 : decode cX11_howOld 75 = .ok (.iconst 0, 1) := by decide +kernel
theorem dX11_howOld_76 : decode cX11_howOld 76 = .ok (.lconst 1, 1) := by decide +kernel
theorem dX11_howOld_77 : decode cX11_howOld 77 = .ok (.lastore, 1) := by decide +kernel
theorem dX11_howOld_78 : decode cX11_howOld 78 = .ok (.iload_n 3, 1) := by decide +kernel
theorem dX11_howOld_79 : decode cX11_howOld 79 = .ok (.istore 5, 2) := by decide +kernel
theorem dX11_howOld_81 : decode cX11_howOld 81 = .ok (.iload 5, 2) := by decide +kernel
theorem dX11_howOld_83 : decode cX11_howOld 83 = .ok (.iload 4, 2) := by decide +kernel
theorem dX11_howOld_85 : decode cX11_howOld 85 = .ok (.if_icmp .gt 88, 3) := by decide +kernel
theorem dX11_howOld_88 : decode cX11_howOld 88 = .ok (.iconst 1, 1) := by decide +kernel
theorem dX11_howOld_89 : decode cX11_howOld 89 = .ok (.istore 6, 2) := by decide +kernel
theorem dX11_howOld_91 : decode cX11_howOld 91 = .ok (.iload 6, 2) := by decide +kernel
theorem dX11_howOld_93 : decode cX11_howOld 93 = .ok (.iload_n 1, 1) := by decide +kernel
theorem dX11_howOld_94 : decode cX11_howOld 94 = .ok (.if_icmp .gt 73, 3) := by decide +kernel
theorem dX11_howOld_97 : decode cX11_howOld 97 = .ok (.iload 5, 2) := by decide +kernel
theorem dX11_howOld_99 : decode cX11_howOld 99 = .ok (.istore 7, 2) := by decide +kernel
theorem dX11_howOld_101 : decode cX11_howOld 101 = .ok (.iload 7, 2) := by decide +kernel
theorem dX11_howOld_103 : decode cX11_howOld 103 = .ok (.iload_n 2, 1) := by decide +kernel
theorem dX11_howOld_104 : decode cX11_howOld 104 = .ok (.if_icmp .gt 57, 3) := by decide +kernel
theorem dX11_howOld_107 : decode cX11_howOld 107 = .ok (.aload_n 0, 1) := by decide +kernel
theorem dX11_howOld_108 : decode cX11_howOld 108 = .ok (.getfield 126, 3) := by decide +kernel
theorem dX11_howOld_111 : decode cX11_howOld 111 = .ok (.sipush 401, 3) := by decide +kernel
theorem dX11_howOld_114 : decode cX11_howOld 114 = .ok (.iload 6, 2) := by decide +kernel
theorem dX11_howOld_116 : decode cX11_howOld 116 = .ok (.imul, 1) := by decide +kernel
theorem dX11_howOld_117 : decode cX11_howOld 117 = .ok (.iload 7, 2) := by decide +kernel
theorem dX11_howOld_119 : decode cX11_howOld 119 = .ok (.iadd, 1) := by decide +kernel
theorem dX11_howOld_120 : decode cX11_howOld 120 = .ok (.aload_n 0, 1) := by decide +kernel
theorem dX11_howOld_121 : decode cX11_howOld 121 = .ok (.getfield 126, 3) := by decide +kernel
theorem dX11_howOld_124 : decode cX11_howOld 124 = .ok (.sipush 401, 3) := by decide +kernel
theorem dX11_howOld_127 : decode cX11_howOld 127 = .ok (.iload 6, 2) := by decide +kernel
theorem dX11_howOld_129 : decode cX11_howOld 129 = .ok (.imul, 1) := by decide +kernel
theorem dX11_howOld_130 : decode cX11_howOld 130 = .ok (.iload 7, 2) := by decide +kernel
theorem dX11_howOld_132 : decode cX11_howOld 132 = .ok (.iadd, 1) := by decide +kernel
theorem dX11_howOld_133 : decode cX11_howOld 133 = .ok (.laload, 1) := by decide +kernel
theorem dX11_howOld_134 : decode cX11_howOld 134 = .ok (.aload_n 0, 1) := by decide +kernel
theorem dX11_howOld_135 : decode cX11_howOld 135 = .ok (.getfield 126, 3) := by decide +kernel
theorem dX11_howOld_138 : decode cX11_howOld 138 = .ok (.sipush 401, 3) := by decide +kernel
theorem dX11_howOld_141 : decode cX11_howOld 141 = .ok (.iload 6, 2) := by decide +kernel
theorem dX11_howOld_143 : decode cX11_howOld 143 = .ok (.iconst 1, 1) := by decide +kernel
theorem dX11_howOld_144 : decode cX11_howOld 144 = .ok (.isub, 1) := by decide +kernel
theorem dX11_howOld_145 : decode cX11_howOld 145 = .ok (.imul, 1) := by decide +kernel
theorem dX11_howOld_146 : decode cX11_howOld 146 = .ok (.iload 7, 2) := by decide +kernel
theorem dX11_howOld_148 : decode cX11_howOld 148 = .ok (.iadd, 1) := by decide +kernel
theorem dX11_howOld_149 : decode cX11_howOld 149 = .ok (.iload 5, 2) := by decide +kernel
theorem dX11_howOld_151 : decode cX11_howOld 151 = .ok (.isub, 1) := by decide +kernel
theorem dX11_howOld_152 : decode cX11_howOld 152 = .ok (.laload, 1) := by decide +kernel
theorem dX11_howOld_153 : decode cX11_howOld 153 = .ok (.ladd, 1) := by decide +kernel
theorem dX11_howOld_154 : decode cX11_howOld 154 = .ok (.lastore, 1) := by decide +kernel
theorem dX11_howOld_155 : decode cX11_howOld 155 = .ok (.iinc 7 1, 3) := by decide +kernel
theorem dX11_howOld_158 : decode cX11_howOld 158 = .ok (.goto (-57), 3) := by decide +kernel
theorem dX11_howOld_161 : decode cX11_howOld 161 = .ok (.iinc 6 1, 3) := by decide +kernel
theorem dX11_howOld_164 : decode cX11_howOld 164 = .ok (.goto (-73), 3) := by decide +kernel
theorem dX11_howOld_167 : decode cX11_howOld 167 = .ok (.iinc 5 1, 3) := by decide +kernel
theorem dX11_howOld_170 : decode cX11_howOld 170 = .ok (.goto (-89), 3) := by decide +kernel
theorem dX11_howOld_173 : decode cX11_howOld 173 = .ok (.aload_n 0, 1) := by decide +kernel
theorem dX11_howOld_174 : decode cX11_howOld 174 = .ok (.getfield 126, 3) := by decide +kernel
theorem dX11_howOld_177 : decode cX11_howOld 177 = .ok (.sipush 401, 3) := by decide +kernel
theorem dX11_howOld_180 : decode cX11_howOld 180 = .ok (.iload_n 1, 1) := by decide +kernel
theorem dX11_howOld_181 : decode cX11_howOld 181 = .ok (.imul, 1) := by decide +kernel
theorem dX11_howOld_182 : decode cX11_howOld 182 = .ok (.iload_n 2, 1) := by decide +kernel
theorem dX11_howOld_183 : decode cX11_howOld 183 = .ok (.iadd, 1) := by decide +kernel
theorem dX11_howOld_184 : decode cX11_howOld 184 = .ok (.laload, 1) := by decide +kernel
theorem dX11_howOld_185 : decode cX11_howOld 185 = .ok (.lreturn, 1) := by decide +kernel
theorem dX11_plain_0 : decode cX11_plain 0 = .ok (.iload_n 1, 1) := by decide +kernel
theorem dX11_plain_1 : decode cX11_plain 1 = .ok (.iconst 0, 1) := by decide +kernel
theorem dX11_plain_2 : decode cX11_plain 2 = .ok (.bipush 15, 2) := by decide +kernel
theorem dX11_plain_4 : decode cX11_plain 4 = .ok (.invokestatic 137, 3) := by decide +kernel
theorem dX11_plain_7 : decode cX11_plain 7 = .ok (.ifCond .eq 24, 3) := by decide +kernel
theorem dX11_plain_10 : decode cX11_plain 10 = .ok (.aload_n 0, 1) := by decide +kernel
theorem dX11_plain_11 : decode cX11_plain 11 = .ok (.getfield 149, 3) := by decide +kernel
theorem dX11_plain_14 : decode cX11_plain 14 = .ok (.iload_n 1, 1) := by decide +kernel
theorem dX11_plain_15 : decode cX11_plain 15 = .ok (.invokestatic 133, 3) := by decide +kernel
theorem dX11_plain_18 : decode cX11_plain 18 = .ok (.ifCond .eq 13, 3) := by decide +kernel
theorem dX11_plain_31 : decode cX11_plain 31 = .ok (.iconst 0, 1) := by decide +kernel
theorem dX11_plain_32 : decode cX11_plain 32 = .ok (.ireturn, 1) := by decide +kernel
theorem dX11_remarkIs_0 : decode cX11_remarkIs 0 = .ok (.iload_n 1, 1) := by decide +kernel
theorem dX11_remarkIs_1 : decode cX11_remarkIs 1 = .ok (.iconst 0, 1) := by decide +kernel
theorem dX11_remarkIs_2 : decode cX11_remarkIs 2 = .ok (.bipush 15, 2) := by decide +kernel
theorem dX11_remarkIs_4 : decode cX11_remarkIs 4 = .ok (.invokestatic 137, 3) := by decide +kernel
theorem dX11_remarkIs_7 : decode cX11_remarkIs 7 = .ok (.ifCond .eq 33, 3) := by decide +kernel
theorem dX11_remarkIs_10 : decode cX11_remarkIs 10 = .ok (.aload_n 0, 1) := by decide +kernel
theorem dX11_remarkIs_11 : decode cX11_remarkIs 11 = .ok (.getfield 149, 3) := by decide +kernel
theorem dX11_remarkIs_14 : decode cX11_remarkIs 14 = .ok (.iload_n 1, 1) := by decide +kernel
theorem dX11_remarkIs_15 : decode cX11_remarkIs 15 = .ok (.invokestatic 133, 3) := by decide +kernel
theorem dX11_remarkIs_18 : decode cX11_remarkIs 18 = .ok (.ifCond .eq 22, 3) := by decide +kernel
theorem dX11_remarkIs_40 : decode cX11_remarkIs 40 = .ok (.iconst (-1), 1) := by decide +kernel
theorem dX11_remarkIs_41 : decode cX11_remarkIs 41 = .ok (.ireturn, 1) := by decide +kernel
theorem dX11_moves_0 : decode cX11_moves 0 = .ok (.aload_n 0, 1) := by decide +kernel
theorem dX11_moves_1 : decode cX11_moves 1 = .ok (.iconst 0, 1) := by decide +kernel
theorem dX11_moves_2 : decode cX11_moves 2 = .ok (.putfield 405, 3) := by decide +kernel
theorem dX11_moves_5 : decode cX11_moves 5 = .ok (.aload_n 0, 1) := by decide +kernel
theorem dX11_moves_6 : decode cX11_moves 6 = .ok (.aload_n 0, 1) := by decide +kernel
theorem dX11_moves_7 : decode cX11_moves 7 = .ok (.aload_n 0, 1) := by decide +kernel
theorem dX11_moves_8 : decode cX11_moves 8 = .ok (.getfield 141, 3) := by decide +kernel
theorem dX11_moves_11 : decode cX11_moves 11 = .ok (.iload_n 1, 1) := by decide +kernel
theorem dX11_moves_12 : decode cX11_moves 12 = .ok (.invokevirtual 408, 3) := by decide +kernel
theorem dX11_moves_15 : decode cX11_moves 15 = .ok (.putfield 141, 3) := by decide +kernel
theorem dX11_moves_18 : decode cX11_moves 18 = .ok (.aload_n 0, 1) := by decide +kernel
theorem dX11_moves_19 : decode cX11_moves 19 = .ok (.aload_n 0, 1) := by decide +kernel
theorem dX11_moves_20 : decode cX11_moves 20 = .ok (.aload_n 0, 1) := by decide +kernel
theorem dX11_moves_21 : decode cX11_moves 21 = .ok (.getfield 156, 3) := by decide +kernel
theorem dX11_moves_24 : decode cX11_moves 24 = .ok (.iload_n 1, 1) := by decide +kernel
theorem dX11_moves_25 : decode cX11_moves 25 = .ok (.invokevirtual 408, 3) := by decide +kernel
theorem dX11_moves_28 : decode cX11_moves 28 = .ok (.putfield 156, 3) := by decide +kernel
theorem dX11_moves_31 : decode cX11_moves 31 = .ok (.aload_n 0, 1) := by decide +kernel
theorem dX11_moves_32 : decode cX11_moves 32 = .ok (.aload_n 0, 1) := by decide +kernel
theorem dX11_moves_33 : decode cX11_moves 33 = .ok (.aload_n 0, 1) := by decide +kernel
theorem dX11_moves_34 : decode cX11_moves 34 = .ok (.getfield 149, 3) := by decide +kernel
theorem dX11_moves_37 : decode cX11_moves 37 = .ok (.iload_n 1, 1) := by decide +kernel
theorem dX11_moves_38 : decode cX11_moves 38 = .ok (.invokevirtual 408, 3) := by decide +kernel
theorem dX11_moves_41 : decode cX11_moves 41 = .ok (.putfield 149, 3) := by decide +kernel
theorem dX11_moves_44 : decode cX11_moves 44 = .ok (.aload_n 0, 1) := by decide +kernel
theorem dX11_moves_45 : decode cX11_moves 45 = .ok (.aload_n 0, 1) := by decide +kernel
theorem dX11_moves_46 : decode cX11_moves 46 = .ok (.getfield 7, 3) := by decide +kernel
theorem dX11_moves_49 : decode cX11_moves 49 = .ok (.iload_n 1, 1) := by decide +kernel
theorem dX11_moves_50 : decode cX11_moves 50 = .ok (.invokevirtual 412, 3) := by decide +kernel
theorem dX11_moves_53 : decode cX11_moves 53 = .ok (.aload_n 0, 1) := by decide +kernel
theorem dX11_moves_54 : decode cX11_moves 54 = .ok (.aload_n 0, 1) := by decide +kernel
theorem dX11_moves_55 : decode cX11_moves 55 = .ok (.getfield 13, 3) := by decide +kernel
theorem dX11_moves_58 : decode cX11_moves 58 = .ok (.iload_n 1, 1) := by decide +kernel

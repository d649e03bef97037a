theorem dX11_settles_72 : decode cX11_settles 72 = .ok (.bipush (-2), 2) := by decide +kernel
theorem dX11_settles_74 : decode cX11_settles 74 = .ok (.ireturn, 1) := by decide +kernel
theorem dX11_fewest_0 : decode cX11_fewest 0 = .ok (.aload_n 0, 1) := by decide +kernel
theorem dX11_fewest_1 : decode cX11_fewest 1 = .ok (.iload_n 1, 1) := by decide +kernel
theorem dX11_fewest_2 : decode cX11_fewest 2 = .ok (.invokevirtual 285, 3) := by decide +kernel
theorem dX11_fewest_5 : decode cX11_fewest 5 = .ok (.ifCond .eq 12, 3) := by decide +kernel
theorem dX11_fewest_8 : decode cX11_fewest 8 = .ok (.iload_n 2, 1) := by decide +kernel
theorem dX11_fewest_9 : decode cX11_fewest 9 = .ok (.iconst 0, 1) := by decide +kernel
theorem dX11_fewest_10 : decode cX11_fewest 10 = .ok (.iconst 1, 1) := by decide +kernel
theorem dX11_fewest_11 : decode cX11_fewest 11 = .ok (.invokestatic 137, 3) := by decide +kernel
theorem dX11_fewest_14 : decode cX11_fewest 14 = .ok (.ifCond .ne 5, 3) := by decide +kernel
theorem dX11_fewest_17 : decode cX11_fewest 17 = .ok (.iconst (-1), 1) := by decide +kernel
theorem dX11_fewest_18 : decode cX11_fewest 18 = .ok (.ireturn, 1) := by decide +kernel
theorem dX11_fewest_19 : decode cX11_fewest 19 = .ok (.aload_n 0, 1) := by decide +kernel
theorem dX11_fewest_20 : decode cX11_fewest 20 = .ok (.invokevirtual 267, 3) := by decide +kernel
theorem dX11_fewest_23 : decode cX11_fewest 23 = .ok (.ldc_w 266, 3) := by decide +kernel
theorem dX11_fewest_26 : decode cX11_fewest 26 = .ok (.if_icmp .le 6, 3) := by decide +kernel
theorem dX11_fewest_29 : decode cX11_fewest 29 = .ok (.bipush (-3), 2) := by decide +kernel
theorem dX11_fewest_31 : decode cX11_fewest 31 = .ok (.ireturn, 1) := by decide +kernel
theorem dX11_fewest_32 : decode cX11_fewest 32 = .ok (.aload_n 0, 1) := by decide +kernel
theorem dX11_fewest_33 : decode cX11_fewest 33 = .ok (.invokevirtual 291, 3) := by decide +kernel
theorem dX11_fewest_36 : decode cX11_fewest 36 = .ok (.aload_n 0, 1) := by decide +kernel
theorem dX11_fewest_37 : decode cX11_fewest 37 = .ok (.invokevirtual 152, 3) := by decide +kernel
theorem dX11_fewest_40 : decode cX11_fewest 40 = .ok (.iload_n 1, 1) := by decide +kernel
theorem dX11_fewest_41 : decode cX11_fewest 41 = .ok (.iconst (-1), 1) := by decide +kernel
theorem dX11_fewest_42 : decode cX11_fewest 42 = .ok (.ixor, 1) := by decide +kernel
theorem dX11_fewest_43 : decode cX11_fewest 43 = .ok (.iand, 1) := by decide +kernel
theorem dX11_fewest_44 : decode cX11_fewest 44 = .ok (.istore_n 3, 1) := by decide +kernel
theorem dX11_fewest_45 : decode cX11_fewest 45 = .ok (.bipush (-2), 2) := by decide +kernel
theorem dX11_fewest_47 : decode cX11_fewest 47 = .ok (.istore 4, 2) := by decide +kernel
theorem dX11_fewest_49 : decode cX11_fewest 49 = .ok (.iconst 0, 1) := by decide +kernel
theorem dX11_fewest_50 : decode cX11_fewest 50 = .ok (.istore 5, 2) := by decide +kernel
theorem dX11_fewest_52 : decode cX11_fewest 52 = .ok (.iload 5, 2) := by decide +kernel
theorem dX11_fewest_54 : decode cX11_fewest 54 = .ok (.sipush 1024, 3) := by decide +kernel
theorem dX11_fewest_57 : decode cX11_fewest 57 = .ok (.if_icmp .ge 66, 3) := by decide +kernel
theorem dX11_fewest_60 : decode cX11_fewest 60 = .ok (.iload 5, 2) := by decide +kernel
theorem dX11_fewest_62 : decode cX11_fewest 62 = .ok (.iload_n 3, 1) := by decide +kernel
theorem dX11_fewest_63 : decode cX11_fewest 63 = .ok (.iconst (-1), 1) := by decide +kernel
theorem dX11_fewest_64 : decode cX11_fewest 64 = .ok (.ixor, 1) := by decide +kernel
theorem dX11_fewest_65 : decode cX11_fewest 65 = .ok (.iand, 1) := by decide +kernel
theorem dX11_fewest_66 : decode cX11_fewest 66 = .ok (.ifCond .ne 51, 3) := by decide +kernel
theorem dX11_fewest_69 : decode cX11_fewest 69 = .ok (.iload 5, 2) := by decide +kernel
theorem dX11_fewest_71 : decode cX11_fewest 71 = .ok (.invokestatic 256, 3) := by decide +kernel
theorem dX11_fewest_74 : decode cX11_fewest 74 = .ok (.iconst 3, 1) := by decide +kernel
theorem dX11_fewest_75 : decode cX11_fewest 75 = .ok (.if_icmp .gt 42, 3) := by decide +kernel
theorem dX11_fewest_78 : decode cX11_fewest 78 = .ok (.iload 4, 2) := by decide +kernel
theorem dX11_fewest_80 : decode cX11_fewest 80 = .ok (.bipush (-2), 2) := by decide +kernel
theorem dX11_fewest_82 : decode cX11_fewest 82 = .ok (.if_icmp .eq 19, 3) := by decide +kernel
theorem dX11_fewest_85 : decode cX11_fewest 85 = .ok (.iload 5, 2) := by decide +kernel
theorem dX11_fewest_87 : decode cX11_fewest 87 = .ok (.invokestatic 256, 3) := by decide +kernel
theorem dX11_fewest_90 : decode cX11_fewest 90 = .ok (.iload 4, 2) := by decide +kernel
theorem dX11_fewest_92 : decode cX11_fewest 92 = .ok (.invokestatic 256, 3) := by decide +kernel
theorem dX11_fewest_95 : decode cX11_fewest 95 = .ok (.if_icmp .lt 6, 3) := by decide +kernel
theorem dX11_fewest_98 : decode cX11_fewest 98 = .ok (.goto 19, 3) := by decide +kernel
theorem dX11_fewest_101 : decode cX11_fewest 101 = .ok (.aload_n 0, 1) := by decide +kernel
theorem dX11_fewest_102 : decode cX11_fewest 102 = .ok (.iload_n 1, 1) := by decide +kernel
theorem dX11_fewest_103 : decode cX11_fewest 103 = .ok (.iload 5, 2) := by decide +kernel
theorem dX11_fewest_105 : decode cX11_fewest 105 = .ok (.ior, 1) := by decide +kernel
theorem dX11_fewest_106 : decode cX11_fewest 106 = .ok (.invokevirtual 294, 3) := by decide +kernel
theorem dX11_fewest_109 : decode cX11_fewest 109 = .ok (.iconst 1, 1) := by decide +kernel
theorem dX11_fewest_110 : decode cX11_fewest 110 = .ok (.if_icmp .ne 7, 3) := by decide +kernel
theorem dX11_fewest_113 : decode cX11_fewest 113 = .ok (.iload 5, 2) := by decide +kernel
theorem dX11_fewest_115 : decode cX11_fewest 115 = .ok (.istore 4, 2) := by decide +kernel
theorem dX11_fewest_117 : decode cX11_fewest 117 = .ok (.iinc 5 1, 3) := by decide +kernel
theorem dX11_fewest_120 : decode cX11_fewest 120 = .ok (.goto (-68), 3) := by decide +kernel
theorem dX11_fewest_123 : decode cX11_fewest 123 = .ok (.iload_n 2, 1) := by decide +kernel
theorem dX11_fewest_124 : decode cX11_fewest 124 = .ok (.iconst 1, 1) := by decide +kernel
theorem dX11_fewest_125 : decode cX11_fewest 125 = .ok (.if_icmp .eq 10, 3) := by decide +kernel
theorem dX11_fewest_128 : decode cX11_fewest 128 = .ok (.iload 4, 2) := by decide +kernel
theorem dX11_fewest_130 : decode cX11_fewest 130 = .ok (.bipush (-2), 2) := by decide +kernel
theorem dX11_fewest_132 : decode cX11_fewest 132 = .ok (.if_icmp .ne 8, 3) := by decide +kernel
theorem dX11_fewest_135 : decode cX11_fewest 135 = .ok (.iload 4, 2) := by decide +kernel
theorem dX11_fewest_137 : decode cX11_fewest 137 = .ok (.goto 8, 3) := by decide +kernel
theorem dX11_fewest_140 : decode cX11_fewest 140 = .ok (.iload 4, 2) := by decide +kernel
theorem dX11_fewest_142 : decode cX11_fewest 142 = .ok (.invokestatic 256, 3) := by decide +kernel
theorem dX11_fewest_145 : decode cX11_fewest 145 = .ok (.ireturn, 1) := by decide +kernel
theorem dX11_offIn_0 : decode cX11_offIn 0 = .ok (.iconst 0, 1) := by decide +kernel
theorem dX11_offIn_1 : decode cX11_offIn 1 = .ok (.istore_n 2, 1) := by decide +kernel
theorem dX11_offIn_2 : decode cX11_offIn 2 = .ok (.iconst 0, 1) := by decide +kernel
theorem dX11_offIn_3 : decode cX11_offIn 3 = .ok (.istore_n 3, 1) := by decide +kernel
theorem dX11_offIn_4 : decode cX11_offIn 4 = .ok (.iload_n 3, 1) := by decide +kernel
theorem dX11_offIn_5 : decode cX11_offIn 5 = .ok (.bipush 10, 2) := by decide +kernel
theorem dX11_offIn_7 : decode cX11_offIn 7 = .ok (.if_icmp .ge 69, 3) := by decide +kernel
theorem dX11_offIn_10 : decode cX11_offIn 10 = .ok (.iload_n 1, 1) := by decide +kernel
theorem dX11_offIn_11 : decode cX11_offIn 11 = .ok (.iload_n 3, 1) := by decide +kernel
theorem dX11_offIn_12 : decode cX11_offIn 12 = .ok (.invokestatic 133, 3) := by decide +kernel
theorem dX11_offIn_15 : decode cX11_offIn 15 = .ok (.ifCond .ne 6, 3) := by decide +kernel
theorem dX11_offIn_18 : decode cX11_offIn 18 = .ok (.goto 52, 3) := by decide +kernel
theorem dX11_offIn_21 : decode cX11_offIn 21 = .ok (.aload_n 0, 1) := by decide +kernel
theorem dX11_offIn_22 : decode cX11_offIn 22 = .ok (.iload_n 3, 1) := by decide +kernel
theorem dX11_offIn_23 : decode cX11_offIn 23 = .ok (.invokevirtual 270, 3) := by decide +kernel
theorem dX11_offIn_26 : decode cX11_offIn 26 = .ok (.istore 4, 2) := by decide +kernel
theorem dX11_offIn_28 : decode cX11_offIn 28 = .ok (.aload_n 0, 1) := by decide +kernel
theorem dX11_offIn_29 : decode cX11_offIn 29 = .ok (.iload_n 3, 1) := by decide +kernel
theorem dX11_offIn_30 : decode cX11_offIn 30 = .ok (.iload 4, 2) := by decide +kernel
theorem dX11_offIn_32 : decode cX11_offIn 32 = .ok (.invokevirtual 273, 3) := by decide +kernel
theorem dX11_offIn_35 : decode cX11_offIn 35 = .ok (.ifCond .eq 6, 3) := by decide +kernel
theorem dX11_offIn_38 : decode cX11_offIn 38 = .ok (.goto 32, 3) := by decide +kernel
theorem dX11_offIn_41 : decode cX11_offIn 41 = .ok (.aload_n 0, 1) := by decide +kernel
theorem dX11_offIn_42 : decode cX11_offIn 42 = .ok (.getfield 31, 3) := by decide +kernel
theorem dX11_offIn_45 : decode cX11_offIn 45 = .ok (.iload_n 3, 1) := by decide +kernel
theorem dX11_offIn_46 : decode cX11_offIn 46 = .ok (.iaload, 1) := by decide +kernel
theorem dX11_offIn_47 : decode cX11_offIn 47 = .ok (.ifCond .ne 15, 3) := by decide +kernel
theorem dX11_offIn_50 : decode cX11_offIn 50 = .ok (.iload 4, 2) := by decide +kernel
theorem dX11_offIn_52 : decode cX11_offIn 52 = .ok (.iconst 1, 1) := by decide +kernel
theorem dX11_offIn_53 : decode cX11_offIn 53 = .ok (.if_icmp .eq 11, 3) := by decide +kernel
theorem dX11_offIn_56 : decode cX11_offIn 56 = .ok (.iload 4, 2) := by decide +kernel
theorem dX11_offIn_58 : decode cX11_offIn 58 = .ok (.iconst (-1), 1) := by decide +kernel
theorem dX11_offIn_59 : decode cX11_offIn 59 = .ok (.if_icmp .eq 5, 3) := by decide +kernel
theorem dX11_offIn_62 : decode cX11_offIn 62 = .ok (.iconst (-1), 1) := by decide +kernel
theorem dX11_offIn_63 : decode cX11_offIn 63 = .ok (.ireturn, 1) := by decide +kernel
theorem dX11_offIn_64 : decode cX11_offIn 64 = .ok (.iload_n 2, 1) := by decide +kernel
theorem dX11_offIn_65 : decode cX11_offIn 65 = .ok (.iconst 1, 1) := by decide +kernel
theorem dX11_offIn_66 : decode cX11_offIn 66 = .ok (.iload_n 3, 1) := by decide +kernel
theorem dX11_offIn_67 : decode cX11_offIn 67 = .ok (.ishl, 1) := by decide +kernel
theorem dX11_offIn_68 : decode cX11_offIn 68 = .ok (.ior, 1) := by decide +kernel
theorem dX11_offIn_69 : decode cX11_offIn 69 = .ok (.istore_n 2, 1) := by decide +kernel
theorem dX11_offIn_70 : decode cX11_offIn 70 = .ok (.iinc 3 1, 3) := by decide +kernel
theorem dX11_offIn_73 : decode cX11_offIn 73 = .ok (.goto (-69), 3) := by decide +kernel
theorem dX11_offIn_76 : decode cX11_offIn 76 = .ok (.iload_n 2, 1) := by decide +kernel
theorem dX11_offIn_77 : decode cX11_offIn 77 = .ok (.ireturn, 1) := by decide +kernel
theorem dX11_offByAYear_0 : decode cX11_offByAYear 0 = .ok (.aload_n 0, 1) := by decide +kernel
theorem dX11_offByAYear_1 : decode cX11_offByAYear 1 = .ok (.iload_n 1, 1) := by decide +kernel
theorem dX11_offByAYear_2 : decode cX11_offByAYear 2 = .ok (.invokevirtual 285, 3) := by decide +kernel
theorem dX11_offByAYear_5 : decode cX11_offByAYear 5 = .ok (.ifCond .eq 12, 3) := by decide +kernel
theorem dX11_offByAYear_8 : decode cX11_offByAYear 8 = .ok (.iload_n 2, 1) := by decide +kernel
theorem dX11_offByAYear_9 : decode cX11_offByAYear 9 = .ok (.iconst 0, 1) := by decide +kernel
theorem dX11_offByAYear_10 : decode cX11_offByAYear 10 = .ok (.iconst 1, 1) := by decide +kernel
theorem dX11_offByAYear_11 : decode cX11_offByAYear 11 = .ok (.invokestatic 137, 3) := by decide +kernel
theorem dX11_offByAYear_14 : decode cX11_offByAYear 14 = .ok (.ifCond .ne 5, 3) := by decide +kernel
theorem dX11_offByAYear_17 : decode cX11_offByAYear 17 = .ok (.iconst (-1), 1) := by decide +kernel
theorem dX11_offByAYear_18 : decode cX11_offByAYear 18 = .ok (.ireturn, 1) := by decide +kernel
theorem dX11_offByAYear_19 : decode cX11_offByAYear 19 = .ok (.aload_n 0, 1) := by decide +kernel
theorem dX11_offByAYear_20 : decode cX11_offByAYear 20 = .ok (.invokevirtual 267, 3) := by decide +kernel
theorem dX11_offByAYear_23 : decode cX11_offByAYear 23 = .ok (.ldc_w 266, 3) := by decide +kernel
theorem dX11_offByAYear_26 : decode cX11_offByAYear 26 = .ok (.if_icmp .le 6, 3) := by decide +kernel
theorem dX11_offByAYear_29 : decode cX11_offByAYear 29 = .ok (.bipush (-3), 2) := by decide +kernel
theorem dX11_offByAYear_31 : decode cX11_offByAYear 31 = .ok (.ireturn, 1) := by decide +kernel
theorem dX11_offByAYear_32 : decode cX11_offByAYear 32 = .ok (.bipush (-2), 2) := by decide +kernel
theorem dX11_offByAYear_34 : decode cX11_offByAYear 34 = .ok (.istore_n 3, 1) := by decide +kernel
theorem dX11_offByAYear_35 : decode cX11_offByAYear 35 = .ok (.aload_n 0, 1) := by decide +kernel
theorem dX11_offByAYear_36 : decode cX11_offByAYear 36 = .ok (.invokevirtual 276, 3) := by decide +kernel
theorem dX11_offByAYear_39 : decode cX11_offByAYear 39 = .ok (.iconst 1, 1) := by decide +kernel
theorem dX11_offByAYear_40 : decode cX11_offByAYear 40 = .ok (.istore 4, 2) := by decide +kernel
theorem dX11_offByAYear_42 : decode cX11_offByAYear 42 = .ok (.iload 4, 2) := by decide +kernel
theorem dX11_offByAYear_44 : decode cX11_offByAYear 44 = .ok (.ifCond .eq 76, 3) := by decide +kernel
theorem dX11_offByAYear_47 : decode cX11_offByAYear 47 = .ok (.aload_n 0, 1) := by decide +kernel
theorem dX11_offByAYear_48 : decode cX11_offByAYear 48 = .ok (.iload_n 1, 1) := by decide +kernel
theorem dX11_offByAYear_49 : decode cX11_offByAYear 49 = .ok (.invokevirtual 308, 3) := by decide +kernel
theorem dX11_offByAYear_52 : decode cX11_offByAYear 52 = .ok (.istore 5, 2) := by decide +kernel
theorem dX11_offByAYear_54 : decode cX11_offByAYear 54 = .ok (.iload 5, 2) := by decide +kernel
theorem dX11_offByAYear_56 : decode cX11_offByAYear 56 = .ok (.iconst (-1), 1) := by decide +kernel
theorem dX11_offByAYear_57 : decode cX11_offByAYear 57 = .ok (.if_icmp .eq 43, 3) := by decide +kernel
theorem dX11_offByAYear_60 : decode cX11_offByAYear 60 = .ok (.iload_n 3, 1) := by decide +kernel
theorem dX11_offByAYear_61 : decode cX11_offByAYear 61 = .ok (.bipush (-2), 2) := by decide +kernel
theorem dX11_offByAYear_63 : decode cX11_offByAYear 63 = .ok (.if_icmp .eq 33, 3) := by decide +kernel
theorem dX11_offByAYear_66 : decode cX11_offByAYear 66 = .ok (.iload 5, 2) := by decide +kernel
theorem dX11_offByAYear_68 : decode cX11_offByAYear 68 = .ok (.invokestatic 256, 3) := by decide +kernel
theorem dX11_offByAYear_71 : decode cX11_offByAYear 71 = .ok (.iload_n 3, 1) := by decide +kernel
theorem dX11_offByAYear_72 : decode cX11_offByAYear 72 = .ok (.invokestatic 256, 3) := by decide +kernel
theorem dX11_offByAYear_75 : decode cX11_offByAYear 75 = .ok (.if_icmp .lt 21, 3) := by decide +kernel
theorem dX11_offByAYear_78 : decode cX11_offByAYear 78 = .ok (.iload 5, 2) := by decide +kernel
theorem dX11_offByAYear_80 : decode cX11_offByAYear 80 = .ok (.invokestatic 256, 3) := by decide +kernel
theorem dX11_offByAYear_83 : decode cX11_offByAYear 83 = .ok (.iload_n 3, 1) := by decide +kernel
theorem dX11_offByAYear_84 : decode cX11_offByAYear 84 = .ok (.invokestatic 256, 3) := by decide +kernel
theorem dX11_offByAYear_87 : decode cX11_offByAYear 87 = .ok (.if_icmp .ne 13, 3) := by decide +kernel
theorem dX11_offByAYear_90 : decode cX11_offByAYear 90 = .ok (.iload 5, 2) := by decide +kernel
theorem dX11_offByAYear_92 : decode cX11_offByAYear 92 = .ok (.iload_n 3, 1) := by decide +kernel
theorem dX11_offByAYear_93 : decode cX11_offByAYear 93 = .ok (.if_icmp .ge 7, 3) := by decide +kernel
theorem dX11_offByAYear_96 : decode cX11_offByAYear 96 = .ok (.iconst 1, 1) := by decide +kernel
theorem dX11_offByAYear_97 : decode cX11_offByAYear 97 = .ok (.goto 4, 3) := by decide +kernel
theorem dX11_offByAYear_100 : decode cX11_offByAYear 100 = .ok (.iconst 0, 1) := by decide +kernel
theorem dX11_offByAYear_101 : decode cX11_offByAYear 101 = .ok (.istore 6, 2) := by decide +kernel
theorem dX11_offByAYear_103 : decode cX11_offByAYear 103 = .ok (.iload 6, 2) := by decide +kernel
theorem dX11_offByAYear_105 : decode cX11_offByAYear 105 = .ok (.ifCond .eq 6, 3) := by decide +kernel
theorem dX11_offByAYear_108 : decode cX11_offByAYear 108 = .ok (.iload 5, 2) := by decide +kernel
theorem dX11_offByAYear_110 : decode cX11_offByAYear 110 = .ok (.istore_n 3, 1) := by decide +kernel
theorem dX11_offByAYear_111 : decode cX11_offByAYear 111 = .ok (.aload_n 0, 1) := by decide +kernel
theorem dX11_offByAYear_112 : decode cX11_offByAYear 112 = .ok (.invokevirtual 279, 3) := by decide +kernel
theorem dX11_offByAYear_115 : decode cX11_offByAYear 115 = .ok (.istore 4, 2) := by decide +kernel
theorem dX11_offByAYear_117 : decode cX11_offByAYear 117 = .ok (.goto (-75), 3) := by decide +kernel
theorem dX11_offByAYear_120 : decode cX11_offByAYear 120 = .ok (.iload_n 2, 1) := by decide +kernel
theorem dX11_offByAYear_121 : decode cX11_offByAYear 121 = .ok (.iconst 1, 1) := by decide +kernel
theorem dX11_offByAYear_122 : decode cX11_offByAYear 122 = .ok (.if_icmp .eq 9, 3) := by decide +kernel
theorem dX11_offByAYear_125 : decode cX11_offByAYear 125 = .ok (.iload_n 3, 1) := by decide +kernel
theorem dX11_offByAYear_126 : decode cX11_offByAYear 126 = .ok (.bipush (-2), 2) := by decide +kernel
theorem dX11_offByAYear_128 : decode cX11_offByAYear 128 = .ok (.if_icmp .ne 7, 3) := by decide +kernel
theorem dX11_offByAYear_131 : decode cX11_offByAYear 131 = .ok (.iload_n 3, 1) := by decide +kernel
theorem dX11_offByAYear_132 : decode cX11_offByAYear 132 = .ok (.goto 7, 3) := by decide +kernel
theorem dX11_offByAYear_135 : decode cX11_offByAYear 135 = .ok (.iload_n 3, 1) := by decide +kernel
theorem dX11_offByAYear_136 : decode cX11_offByAYear 136 = .ok (.invokestatic 256, 3) := by decide +kernel
theorem dX11_offByAYear_139 : decode cX11_offByAYear 139 = .ok (.ireturn, 1) := by decide +kernel
theorem dX11_asks_0 : decode cX11_asks 0 = .ok (.aload_n 0, 1) := by decide +kernel
theorem dX11_asks_1 : decode cX11_asks 1 = .ok (.iload_n 1, 1) := by decide +kernel
theorem dX11_asks_2 : decode cX11_asks 2 = .ok (.invokevirtual 285, 3) := by decide +kernel
theorem dX11_asks_5 : decode cX11_asks 5 = .ok (.ifCond .eq 12, 3) := by decide +kernel
theorem dX11_asks_8 : decode cX11_asks 8 = .ok (.iload_n 2, 1) := by decide +kernel
theorem dX11_asks_9 : decode cX11_asks 9 = .ok (.iconst 0, 1) := by decide +kernel
theorem dX11_asks_10 : decode cX11_asks 10 = .ok (.iconst 2, 1) := by decide +kernel
theorem dX11_asks_11 : decode cX11_asks 11 = .ok (.invokestatic 137, 3) := by decide +kernel
theorem dX11_asks_14 : decode cX11_asks 14 = .ok (.ifCond .ne 5, 3) := by decide +kernel
theorem dX11_asks_17 : decode cX11_asks 17 = .ok (.iconst (-1), 1) := by decide +kernel
theorem dX11_asks_18 : decode cX11_asks 18 = .ok (.ireturn, 1) := by decide +kernel
theorem dX11_asks_19 : decode cX11_asks 19 = .ok (.aload_n 0, 1) := by decide +kernel
theorem dX11_asks_20 : decode cX11_asks 20 = .ok (.invokevirtual 267, 3) := by decide +kernel
theorem dX11_asks_23 : decode cX11_asks 23 = .ok (.ldc_w 266, 3) := by decide +kernel
theorem dX11_asks_26 : decode cX11_asks 26 = .ok (.if_icmp .le 6, 3) := by decide +kernel
theorem dX11_asks_29 : decode cX11_asks 29 = .ok (.bipush (-3), 2) := by decide +kernel
theorem dX11_asks_31 : decode cX11_asks 31 = .ok (.ireturn, 1) := by decide +kernel
theorem dX11_asks_32 : decode cX11_asks 32 = .ok (.aload_n 0, 1) := by decide +kernel
theorem dX11_asks_33 : decode cX11_asks 33 = .ok (.invokevirtual 291, 3) := by decide +kernel
theorem dX11_asks_36 : decode cX11_asks 36 = .ok (.aload_n 0, 1) := by decide +kernel
theorem dX11_asks_37 : decode cX11_asks 37 = .ok (.iload_n 1, 1) := by decide +kernel
theorem dX11_asks_38 : decode cX11_asks 38 = .ok (.invokevirtual 294, 3) := by decide +kernel
theorem dX11_asks_41 : decode cX11_asks 41 = .ok (.istore_n 3, 1) := by decide +kernel
theorem dX11_asks_42 : decode cX11_asks 42 = .ok (.bipush (-2), 2) := by decide +kernel
theorem dX11_asks_44 : decode cX11_asks 44 = .ok (.istore 4, 2) := by decide +kernel
theorem dX11_asks_46 : decode cX11_asks 46 = .ok (.ldc_w 303, 3) := by decide +kernel
theorem dX11_asks_49 : decode cX11_asks 49 = .ok (.istore 5, 2) := by decide +kernel
theorem dX11_asks_51 : decode cX11_asks 51 = .ok (.iconst 0, 1) := by decide +kernel
theorem dX11_asks_52 : decode cX11_asks 52 = .ok (.istore 6, 2) := by decide +kernel
theorem dX11_asks_54 : decode cX11_asks 54 = .ok (.iload 6, 2) := by decide +kernel
theorem dX11_asks_56 : decode cX11_asks 56 = .ok (.bipush 10, 2) := by decide +kernel
theorem dX11_asks_58 : decode cX11_asks 58 = .ok (.if_icmp .ge 114, 3) := by decide +kernel
theorem dX11_asks_61 : decode cX11_asks 61 = .ok (.iload_n 3, 1) := by decide +kernel
theorem dX11_asks_62 : decode cX11_asks 62 = .ok (.ifCond .le 110, 3) := by decide +kernel
theorem dX11_asks_65 : decode cX11_asks 65 = .ok (.aload_n 0, 1) := by decide +kernel
theorem dX11_asks_66 : decode cX11_asks 66 = .ok (.iload 6, 2) := by decide +kernel
theorem dX11_asks_68 : decode cX11_asks 68 = .ok (.invokevirtual 263, 3) := by decide +kernel
theorem dX11_asks_71 : decode cX11_asks 71 = .ok (.ifCond .eq 95, 3) := by decide +kernel
theorem dX11_asks_74 : decode cX11_asks 74 = .ok (.iload_n 1, 1) := by decide +kernel
theorem dX11_asks_75 : decode cX11_asks 75 = .ok (.iload 6, 2) := by decide +kernel
theorem dX11_asks_77 : decode cX11_asks 77 = .ok (.invokestatic 133, 3) := by decide +kernel
theorem dX11_asks_80 : decode cX11_asks 80 = .ok (.ifCond .eq 6, 3) := by decide +kernel
theorem dX11_asks_83 : decode cX11_asks 83 = .ok (.goto 83, 3) := by decide +kernel
theorem dX11_asks_86 : decode cX11_asks 86 = .ok (.aload_n 0, 1) := by decide +kernel
theorem dX11_asks_87 : decode cX11_asks 87 = .ok (.iload_n 1, 1) := by decide +kernel
theorem dX11_asks_88 : decode cX11_asks 88 = .ok (.iconst 1, 1) := by decide +kernel
theorem dX11_asks_89 : decode cX11_asks 89 = .ok (.iload 6, 2) := by decide +kernel
theorem dX11_asks_91 : decode cX11_asks 91 = .ok (.ishl, 1) := by decide +kernel
theorem dX11_asks_92 : decode cX11_asks 92 = .ok (.ior, 1) := by decide +kernel
theorem dX11_asks_93 : decode cX11_asks 93 = .ok (.invokevirtual 294, 3) := by decide +kernel
theorem dX11_asks_96 : decode cX11_asks 96 = .ok (.istore 7, 2) := by decide +kernel
theorem dX11_asks_98 : decode cX11_asks 98 = .ok (.iload_n 2, 1) := by decide +kernel
theorem dX11_asks_99 : decode cX11_asks 99 = .ok (.ifCond .le 11, 3) := by decide +kernel
theorem dX11_asks_102 : decode cX11_asks 102 = .ok (.iload 7, 2) := by decide +kernel
theorem dX11_asks_104 : decode cX11_asks 104 = .ok (.ifCond .ne 6, 3) := by decide +kernel
theorem dX11_asks_107 : decode cX11_asks 107 = .ok (.goto 59, 3) := by decide +kernel
theorem dX11_asks_110 : decode cX11_asks 110 = .ok (.iload_n 2, 1) := by decide +kernel
theorem dX11_asks_111 : decode cX11_asks 111 = .ok (.iconst 1, 1) := by decide +kernel
theorem dX11_asks_112 : decode cX11_asks 112 = .ok (.if_icmp .ne 9, 3) := by decide +kernel
theorem dX11_asks_115 : decode cX11_asks 115 = .ok (.iload 7, 2) := by decide +kernel
theorem dX11_asks_117 : decode cX11_asks 117 = .ok (.ineg, 1) := by decide +kernel
theorem dX11_asks_118 : decode cX11_asks 118 = .ok (.goto 28, 3) := by decide +kernel
theorem dX11_asks_121 : decode cX11_asks 121 = .ok (.iload_n 2, 1) := by decide +kernel
theorem dX11_asks_122 : decode cX11_asks 122 = .ok (.iconst 2, 1) := by decide +kernel
theorem dX11_asks_123 : decode cX11_asks 123 = .ok (.if_icmp .ne 8, 3) := by decide +kernel
theorem dX11_asks_126 : decode cX11_asks 126 = .ok (.iload 7, 2) := by decide +kernel
theorem dX11_asks_128 : decode cX11_asks 128 = .ok (.goto 18, 3) := by decide +kernel
theorem dX11_asks_131 : decode cX11_asks 131 = .ok (.iconst 2, 1) := by decide +kernel
theorem dX11_asks_132 : decode cX11_asks 132 = .ok (.iload 7, 2) := by decide +kernel
theorem dX11_asks_134 : decode cX11_asks 134 = .ok (.imul, 1) := by decide +kernel
theorem dX11_asks_135 : decode cX11_asks 135 = .ok (.iload_n 3, 1) := by decide +kernel
theorem dX11_asks_136 : decode cX11_asks 136 = .ok (.isub, 1) := by decide +kernel
theorem dX11_asks_137 : decode cX11_asks 137 = .ok (.iload_n 3, 1) := by decide +kernel
theorem dX11_asks_138 : decode cX11_asks 138 = .ok (.iconst 2, 1) := by decide +kernel
theorem dX11_asks_139 : decode cX11_asks 139 = .ok (.iload 7, 2) := by decide +kernel
theorem dX11_asks_141 : decode cX11_asks 141 = .ok (.imul, 1) := by decide +kernel
theorem dX11_asks_142 : decode cX11_asks 142 = .ok (.isub, 1) := by decide +kernel
theorem dX11_asks_143 : decode cX11_asks 143 = .ok (.invokestatic 209, 3) := by decide +kernel
theorem dX11_asks_146 : decode cX11_asks 146 = .ok (.istore 8, 2) := by decide +kernel
theorem dX11_asks_148 : decode cX11_asks 148 = .ok (.iload 8, 2) := by decide +kernel
theorem dX11_asks_150 : decode cX11_asks 150 = .ok (.iload 5, 2) := by decide +kernel
theorem dX11_asks_152 : decode cX11_asks 152 = .ok (.if_icmp .lt 6, 3) := by decide +kernel
theorem dX11_asks_155 : decode cX11_asks 155 = .ok (.goto 11, 3) := by decide +kernel
theorem dX11_asks_158 : decode cX11_asks 158 = .ok (.iload 8, 2) := by decide +kernel
theorem dX11_asks_160 : decode cX11_asks 160 = .ok (.istore 5, 2) := by decide +kernel
theorem dX11_asks_162 : decode cX11_asks 162 = .ok (.iload 6, 2) := by decide +kernel
theorem dX11_asks_164 : decode cX11_asks 164 = .ok (.istore 4, 2) := by decide +kernel
theorem dX11_asks_166 : decode cX11_asks 166 = .ok (.iinc 6 1, 3) := by decide +kernel
theorem dX11_asks_169 : decode cX11_asks 169 = .ok (.goto (-115), 3) := by decide +kernel
theorem dX11_asks_172 : decode cX11_asks 172 = .ok (.iload 4, 2) := by decide +kernel
theorem dX11_asks_174 : decode cX11_asks 174 = .ok (.ireturn, 1) := by decide +kernel
theorem dX11_unlike_0 : decode cX11_unlike 0 = .ok (.aload_n 0, 1) := by decide +kernel
theorem dX11_unlike_1 : decode cX11_unlike 1 = .ok (.iload_n 1, 1) := by decide +kernel
theorem dX11_unlike_2 : decode cX11_unlike 2 = .ok (.invokevirtual 285, 3) := by decide +kernel
theorem dX11_unlike_5 : decode cX11_unlike 5 = .ok (.ifCond .eq 11, 3) := by decide +kernel
theorem dX11_unlike_8 : decode cX11_unlike 8 = .ok (.aload_n 0, 1) := by decide +kernel
theorem dX11_unlike_9 : decode cX11_unlike 9 = .ok (.iload_n 2, 1) := by decide +kernel
theorem dX11_unlike_10 : decode cX11_unlike 10 = .ok (.invokevirtual 285, 3) := by decide +kernel
theorem dX11_unlike_13 : decode cX11_unlike 13 = .ok (.ifCond .ne 5, 3) := by decide +kernel
theorem dX11_unlike_16 : decode cX11_unlike 16 = .ok (.iconst (-1), 1) := by decide +kernel
theorem dX11_unlike_17 : decode cX11_unlike 17 = .ok (.ireturn, 1) := by decide +kernel
theorem dX11_unlike_18 : decode cX11_unlike 18 = .ok (.aload_n 0, 1) := by decide +kernel
theorem dX11_unlike_19 : decode cX11_unlike 19 = .ok (.invokevirtual 267, 3) := by decide +kernel
theorem dX11_unlike_22 : decode cX11_unlike 22 = .ok (.ldc_w 266, 3) := by decide +kernel
theorem dX11_unlike_25 : decode cX11_unlike 25 = .ok (.if_icmp .le 6, 3) := by decide +kernel
theorem dX11_unlike_28 : decode cX11_unlike 28 = .ok (.bipush (-3), 2) := by decide +kernel
theorem dX11_unlike_30 : decode cX11_unlike 30 = .ok (.ireturn, 1) := by decide +kernel
theorem dX11_unlike_31 : decode cX11_unlike 31 = .ok (.aload_n 0, 1) := by decide +kernel
theorem dX11_unlike_32 : decode cX11_unlike 32 = .ok (.invokevirtual 291, 3) := by decide +kernel
theorem dX11_unlike_35 : decode cX11_unlike 35 = .ok (.aload_n 0, 1) := by decide +kernel
theorem dX11_unlike_36 : decode cX11_unlike 36 = .ok (.iload_n 1, 1) := by decide +kernel
theorem dX11_unlike_37 : decode cX11_unlike 37 = .ok (.invokevirtual 294, 3) := by decide +kernel
theorem dX11_unlike_40 : decode cX11_unlike 40 = .ok (.aload_n 0, 1) := by decide +kernel
theorem dX11_unlike_41 : decode cX11_unlike 41 = .ok (.iload_n 2, 1) := by decide +kernel
theorem dX11_unlike_42 : decode cX11_unlike 42 = .ok (.invokevirtual 294, 3) := by decide +kernel
theorem dX11_unlike_45 : decode cX11_unlike 45 = .ok (.iadd, 1) := by decide +kernel
theorem dX11_unlike_46 : decode cX11_unlike 46 = .ok (.iconst 2, 1) := by decide +kernel
theorem dX11_unlike_47 : decode cX11_unlike 47 = .ok (.aload_n 0, 1) := by decide +kernel
theorem dX11_unlike_48 : decode cX11_unlike 48 = .ok (.iload_n 1, 1) := by decide +kernel
theorem dX11_unlike_49 : decode cX11_unlike 49 = .ok (.iload_n 2, 1) := by decide +kernel
theorem dX11_unlike_50 : decode cX11_unlike 50 = .ok (.ior, 1) := by decide +kernel
theorem dX11_unlike_51 : decode cX11_unlike 51 = .ok (.invokevirtual 294, 3) := by decide +kernel
theorem dX11_unlike_54 : decode cX11_unlike 54 = .ok (.imul, 1) := by decide +kernel
theorem dX11_unlike_55 : decode cX11_unlike 55 = .ok (.isub, 1) := by decide +kernel
theorem dX11_unlike_56 : decode cX11_unlike 56 = .ok (.ireturn, 1) := by decide +kernel
theorem dX11_lists_0 : decode cX11_lists 0 = .ok (.aload_n 0, 1) := by decide +kernel
theorem dX11_lists_1 : decode cX11_lists 1 = .ok (.iconst 0, 1) := by decide +kernel
theorem dX11_lists_2 : decode cX11_lists 2 = .ok (.putfield 311, 3) := by decide +kernel
theorem dX11_lists_5 : decode cX11_lists 5 = .ok (.aload_n 0, 1) := by decide +kernel
theorem dX11_lists_6 : decode cX11_lists 6 = .ok (.invokevirtual 267, 3) := by decide +kernel
theorem dX11_lists_9 : decode cX11_lists 9 = .ok (.ldc_w 266, 3) := by decide +kernel
theorem dX11_lists_12 : decode cX11_lists 12 = .ok (.if_icmp .le 5, 3) := by decide +kernel
theorem dX11_lists_15 : decode cX11_lists 15 = .ok (.iconst 0, 1) := by decide +kernel
theorem dX11_lists_16 : decode cX11_lists 16 = .ok (.ireturn, 1) := by decide +kernel
theorem dX11_lists_17 : decode cX11_lists 17 = .ok (.aload_n 0, 1) := by decide +kernel
theorem dX11_lists_18 : decode cX11_lists 18 = .ok (.invokevirtual 276, 3) := by decide +kernel
theorem dX11_lists_21 : decode cX11_lists 21 = .ok (.iconst 1, 1) := by decide +kernel
theorem dX11_lists_22 : decode cX11_lists 22 = .ok (.istore_n 2, 1) := by decide +kernel
theorem dX11_lists_23 : decode cX11_lists 23 = .ok (.iload_n 2, 1) := by decide +kernel
theorem dX11_lists_24 : decode cX11_lists 24 = .ok (.ifCond .eq 76, 3) := by decide +kernel
theorem dX11_lists_27 : decode cX11_lists 27 = .ok (.aload_n 0, 1) := by decide +kernel
theorem dX11_lists_28 : decode cX11_lists 28 = .ok (.iload_n 1, 1) := by decide +kernel
theorem dX11_lists_29 : decode cX11_lists 29 = .ok (.invokevirtual 282, 3) := by decide +kernel
theorem dX11_lists_32 : decode cX11_lists 32 = .ok (.ifCond .eq 60, 3) := by decide +kernel
theorem dX11_lists_35 : decode cX11_lists 35 = .ok (.aload_n 0, 1) := by decide +kernel
theorem dX11_lists_36 : decode cX11_lists 36 = .ok (.getfield 311, 3) := by decide +kernel
theorem dX11_lists_39 : decode cX11_lists 39 = .ok (.sipush 2000, 3) := by decide +kernel
theorem dX11_lists_42 : decode cX11_lists 42 = .ok (.if_icmp .ne 5, 3) := by decide +kernel
theorem dX11_lists_45 : decode cX11_lists 45 = .ok (.iconst 0, 1) := by decide +kernel
theorem dX11_lists_46 : decode cX11_lists 46 = .ok (.ireturn, 1) := by decide +kernel
theorem dX11_lists_47 : decode cX11_lists 47 = .ok (.iconst 0, 1) := by decide +kernel
theorem dX11_lists_48 : decode cX11_lists 48 = .ok (.istore_n 3, 1) := by decide +kernel
theorem dX11_lists_49 : decode cX11_lists 49 = .ok (.iload_n 3, 1) := by decide +kernel
theorem dX11_lists_50 : decode cX11_lists 50 = .ok (.bipush 6, 2) := by decide +kernel
theorem dX11_lists_52 : decode cX11_lists 52 = .ok (.if_icmp .ge 30, 3) := by decide +kernel
theorem dX11_lists_55 : decode cX11_lists 55 = .ok (.aload_n 0, 1) := by decide +kernel
theorem dX11_lists_56 : decode cX11_lists 56 = .ok (.getfield 86, 3) := by decide +kernel
theorem dX11_lists_59 : decode cX11_lists 59 = .ok (.bipush 6, 2) := by decide +kernel
theorem dX11_lists_61 : decode cX11_lists 61 = .ok (.aload_n 0, 1) := by decide +kernel
theorem dX11_lists_62 : decode cX11_lists 62 = .ok (.getfield 311, 3) := by decide +kernel
theorem dX11_lists_65 : decode cX11_lists 65 = .ok (.imul, 1) := by decide +kernel
theorem dX11_lists_66 : decode cX11_lists 66 = .ok (.iload_n 3, 1) := by decide +kernel
theorem dX11_lists_67 : decode cX11_lists 67 = .ok (.iadd, 1) := by decide +kernel
theorem dX11_lists_68 : decode cX11_lists 68 = .ok (.aload_n 0, 1) := by decide +kernel
theorem dX11_lists_69 : decode cX11_lists 69 = .ok (.getfield 77, 3) := by decide +kernel
theorem dX11_lists_72 : decode cX11_lists 72 = .ok (.iload_n 3, 1) := by decide +kernel
theorem dX11_lists_73 : decode cX11_lists 73 = .ok (.iaload, 1) := by decide +kernel
theorem dX11_lists_74 : decode cX11_lists 74 = .ok (.i2b, 1) := by decide +kernel
theorem dX11_lists_75 : decode cX11_lists 75 = .ok (.bastore, 1) := by decide +kernel
theorem dX11_lists_76 : decode cX11_lists 76 = .ok (.iinc 3 1, 3) := by decide +kernel
theorem dX11_lists_79 : decode cX11_lists 79 = .ok (.goto (-30), 3) := by decide +kernel
theorem dX11_lists_82 : decode cX11_lists 82 = .ok (.aload_n 0, 1) := by decide +kernel
theorem dX11_lists_83 : decode cX11_lists 83 = .ok (.aload_n 0, 1) := by decide +kernel
theorem dX11_lists_84 : decode cX11_lists 84 = .ok (.getfield 311, 3) := by decide +kernel
theorem dX11_lists_87 : decode cX11_lists 87 = .ok (.iconst 1, 1) := by decide +kernel
theorem dX11_lists_88 : decode cX11_lists 88 = .ok (.iadd, 1) := by decide +kernel
theorem dX11_lists_89 : decode cX11_lists 89 = .ok (.putfield 311, 3) := by decide +kernel
theorem dX11_lists_92 : decode cX11_lists 92 = .ok (.aload_n 0, 1) := by decide +kernel
theorem dX11_lists_93 : decode cX11_lists 93 = .ok (.invokevirtual 279, 3) := by decide +kernel
theorem dX11_lists_96 : decode cX11_lists 96 = .ok (.istore_n 2, 1) := by decide +kernel
theorem dX11_lists_97 : decode cX11_lists 97 = .ok (.goto (-74), 3) := by decide +kernel
theorem dX11_lists_100 : decode cX11_lists 100 = .ok (.iconst 1, 1) := by decide +kernel
theorem dX11_lists_101 : decode cX11_lists 101 = .ok (.ireturn, 1) := by decide +kernel
theorem dX11_takesRow_0 : decode cX11_takesRow 0 = .ok (.iconst 0, 1) := by decide +kernel
theorem dX11_takesRow_1 : decode cX11_takesRow 1 = .ok (.istore_n 2, 1) := by decide +kernel
theorem dX11_takesRow_2 : decode cX11_takesRow 2 = .ok (.iload_n 2, 1) := by decide +kernel
theorem dX11_takesRow_3 : decode cX11_takesRow 3 = .ok (.bipush 6, 2) := by decide +kernel
theorem dX11_takesRow_5 : decode cX11_takesRow 5 = .ok (.if_icmp .ge 26, 3) := by decide +kernel
theorem dX11_takesRow_8 : decode cX11_takesRow 8 = .ok (.aload_n 0, 1) := by decide +kernel
theorem dX11_takesRow_9 : decode cX11_takesRow 9 = .ok (.getfield 77, 3) := by decide +kernel
theorem dX11_takesRow_12 : decode cX11_takesRow 12 = .ok (.iload_n 2, 1) := by decide +kernel
theorem dX11_takesRow_13 : decode cX11_takesRow 13 = .ok (.aload_n 0, 1) := by decide +kernel
theorem dX11_takesRow_14 : decode cX11_takesRow 14 = .ok (.getfield 86, 3) := by decide +kernel
theorem dX11_takesRow_17 : decode cX11_takesRow 17 = .ok (.bipush 6, 2) := by decide +kernel
theorem dX11_takesRow_19 : decode cX11_takesRow 19 = .ok (.iload_n 1, 1) := by decide +kernel
theorem dX11_takesRow_20 : decode cX11_takesRow 20 = .ok (.imul, 1) := by decide +kernel
theorem dX11_takesRow_21 : decode cX11_takesRow 21 = .ok (.iload_n 2, 1) := by decide +kernel
theorem dX11_takesRow_22 : decode cX11_takesRow 22 = .ok (.iadd, 1) := by decide +kernel
theorem dX11_takesRow_23 : decode cX11_takesRow 23 = .ok (.baload, 1) := by decide +kernel
theorem dX11_takesRow_24 : decode cX11_takesRow 24 = .ok (.iastore, 1) := by decide +kernel
theorem dX11_takesRow_25 : decode cX11_takesRow 25 = .ok (.iinc 2 1, 3) := by decide +kernel
theorem dX11_takesRow_28 : decode cX11_takesRow 28 = .ok (.goto (-26), 3) := by decide +kernel
theorem dX11_takesRow_31 : decode cX11_takesRow 31 = .ok (.return_, 1) := by decide +kernel
theorem dX11_hears_0 : decode cX11_hears 0 = .ok (.iconst 0, 1) := by decide +kernel
theorem dX11_hears_1 : decode cX11_hears 1 = .ok (.istore_n 2, 1) := by decide +kernel
theorem dX11_hears_2 : decode cX11_hears 2 = .ok (.iload_n 2, 1) := by decide +kernel
theorem dX11_hears_3 : decode cX11_hears 3 = .ok (.aload_n 0, 1) := by decide +kernel
theorem dX11_hears_4 : decode cX11_hears 4 = .ok (.getfield 311, 3) := by decide +kernel
theorem dX11_hears_7 : decode cX11_hears 7 = .ok (.if_icmp .ge 25, 3) := by decide +kernel
theorem dX11_hears_10 : decode cX11_hears 10 = .ok (.aload_n 0, 1) := by decide +kernel
theorem dX11_hears_11 : decode cX11_hears 11 = .ok (.iload_n 2, 1) := by decide +kernel
theorem dX11_hears_12 : decode cX11_hears 12 = .ok (.invokevirtual 314, 3) := by decide +kernel
theorem dX11_hears_15 : decode cX11_hears 15 = .ok (.aload_n 0, 1) := by decide +kernel
theorem dX11_hears_16 : decode cX11_hears 16 = .ok (.getfield 89, 3) := by decide +kernel
theorem dX11_hears_19 : decode cX11_hears 19 = .ok (.iload_n 2, 1) := by decide +kernel
theorem dX11_hears_20 : decode cX11_hears 20 = .ok (.aload_n 0, 1) := by decide +kernel
theorem dX11_hears_21 : decode cX11_hears 21 = .ok (.iload_n 1, 1) := by decide +kernel
theorem dX11_hears_22 : decode cX11_hears 22 = .ok (.invokevirtual 270, 3) := by decide +kernel
theorem dX11_hears_25 : decode cX11_hears 25 = .ok (.iastore, 1) := by decide +kernel
theorem dX11_hears_26 : decode cX11_hears 26 = .ok (.iinc 2 1, 3) := by decide +kernel
theorem dX11_hears_29 : decode cX11_hears 29 = .ok (.goto (-27), 3) := by decide +kernel
theorem dX11_hears_32 : decode cX11_hears 32 = .ok (.return_, 1) := by decide +kernel
theorem dX11_alikeTo_0 : decode cX11_alikeTo 0 = .ok (.iconst 0, 1) := by decide +kernel
theorem dX11_alikeTo_1 : decode cX11_alikeTo 1 = .ok (.istore_n 2, 1) := by decide +kernel
theorem dX11_alikeTo_2 : decode cX11_alikeTo 2 = .ok (.iconst 0, 1) := by decide +kernel
theorem dX11_alikeTo_3 : decode cX11_alikeTo 3 = .ok (.istore_n 3, 1) := by decide +kernel
theorem dX11_alikeTo_4 : decode cX11_alikeTo 4 = .ok (.iload_n 3, 1) := by decide +kernel
theorem dX11_alikeTo_5 : decode cX11_alikeTo 5 = .ok (.aload_n 0, 1) := by decide +kernel
theorem dX11_alikeTo_6 : decode cX11_alikeTo 6 = .ok (.getfield 311, 3) := by decide +kernel
theorem dX11_alikeTo_9 : decode cX11_alikeTo 9 = .ok (.if_icmp .ge 32, 3) := by decide +kernel
theorem dX11_alikeTo_12 : decode cX11_alikeTo 12 = .ok (.iload_n 2, 1) := by decide +kernel
theorem dX11_alikeTo_13 : decode cX11_alikeTo 13 = .ok (.aload_n 0, 1) := by decide +kernel
theorem dX11_alikeTo_14 : decode cX11_alikeTo 14 = .ok (.getfield 89, 3) := by decide +kernel
theorem dX11_alikeTo_17 : decode cX11_alikeTo 17 = .ok (.iload_n 3, 1) := by decide +kernel
theorem dX11_alikeTo_18 : decode cX11_alikeTo 18 = .ok (.iaload, 1) := by decide +kernel
theorem dX11_alikeTo_19 : decode cX11_alikeTo 19 = .ok (.aload_n 0, 1) := by decide +kernel
theorem dX11_alikeTo_20 : decode cX11_alikeTo 20 = .ok (.getfield 89, 3) := by decide +kernel
theorem dX11_alikeTo_23 : decode cX11_alikeTo 23 = .ok (.iload_n 1, 1) := by decide +kernel
theorem dX11_alikeTo_24 : decode cX11_alikeTo 24 = .ok (.iaload, 1) := by decide +kernel
theorem dX11_alikeTo_25 : decode cX11_alikeTo 25 = .ok (.if_icmp .ne 7, 3) := by decide +kernel
theorem dX11_alikeTo_28 : decode cX11_alikeTo 28 = .ok (.iconst 1, 1) := by decide +kernel
theorem dX11_alikeTo_29 : decode cX11_alikeTo 29 = .ok (.goto 4, 3) := by decide +kernel
theorem dX11_alikeTo_32 : decode cX11_alikeTo 32 = .ok (.iconst 0, 1) := by decide +kernel
theorem dX11_alikeTo_33 : decode cX11_alikeTo 33 = .ok (.iadd, 1) := by decide +kernel
theorem dX11_alikeTo_34 : decode cX11_alikeTo 34 = .ok (.istore_n 2, 1) := by decide +kernel
theorem dX11_alikeTo_35 : decode cX11_alikeTo 35 = .ok (.iinc 3 1, 3) := by decide +kernel
theorem dX11_alikeTo_38 : decode cX11_alikeTo 38 = .ok (.goto (-34), 3) := by decide +kernel
theorem dX11_alikeTo_41 : decode cX11_alikeTo 41 = .ok (.iload_n 2, 1) := by decide +kernel
theorem dX11_alikeTo_42 : decode cX11_alikeTo 42 = .ok (.ireturn, 1) := by decide +kernel
theorem dX11_known_0 : decode cX11_known 0 = .ok (.aload_n 0, 1) := by decide +kernel
theorem dX11_known_1 : decode cX11_known 1 = .ok (.iload_n 1, 1) := by decide +kernel
theorem dX11_known_2 : decode cX11_known 2 = .ok (.invokevirtual 285, 3) := by decide +kernel
theorem dX11_known_5 : decode cX11_known 5 = .ok (.ifCond .eq 11, 3) := by decide +kernel
theorem dX11_known_8 : decode cX11_known 8 = .ok (.aload_n 0, 1) := by decide +kernel
theorem dX11_known_9 : decode cX11_known 9 = .ok (.iload_n 2, 1) := by decide +kernel
theorem dX11_known_10 : decode cX11_known 10 = .ok (.invokevirtual 317, 3) := by decide +kernel
theorem dX11_known_13 : decode cX11_known 13 = .ok (.ifCond .ne 5, 3) := by decide +kernel
theorem dX11_known_16 : decode cX11_known 16 = .ok (.iconst (-1), 1) := by decide +kernel
theorem dX11_known_17 : decode cX11_known 17 = .ok (.ireturn, 1) := by decide +kernel
theorem dX11_known_18 : decode cX11_known 18 = .ok (.aload_n 0, 1) := by decide +kernel
theorem dX11_known_19 : decode cX11_known 19 = .ok (.iload_n 1, 1) := by decide +kernel
theorem dX11_known_20 : decode cX11_known 20 = .ok (.invokevirtual 320, 3) := by decide +kernel
theorem dX11_known_23 : decode cX11_known 23 = .ok (.ifCond .ne 6, 3) := by decide +kernel
theorem dX11_known_26 : decode cX11_known 26 = .ok (.bipush (-3), 2) := by decide +kernel
theorem dX11_known_28 : decode cX11_known 28 = .ok (.ireturn, 1) := by decide +kernel
theorem dX11_known_29 : decode cX11_known 29 = .ok (.aload_n 0, 1) := by decide +kernel
theorem dX11_known_30 : decode cX11_known 30 = .ok (.bipush 10, 2) := by decide +kernel
theorem dX11_known_32 : decode cX11_known 32 = .ok (.iload_n 2, 1) := by decide +kernel
theorem dX11_known_33 : decode cX11_known 33 = .ok (.iadd, 1) := by decide +kernel
theorem dX11_known_34 : decode cX11_known 34 = .ok (.invokevirtual 323, 3) := by decide +kernel
theorem dX11_known_37 : decode cX11_known 37 = .ok (.iconst 0, 1) := by decide +kernel
theorem dX11_known_38 : decode cX11_known 38 = .ok (.istore_n 3, 1) := by decide +kernel
theorem dX11_known_39 : decode cX11_known 39 = .ok (.iconst 0, 1) := by decide +kernel
theorem dX11_known_40 : decode cX11_known 40 = .ok (.istore 4, 2) := by decide +kernel
theorem dX11_known_42 : decode cX11_known 42 = .ok (.iload 4, 2) := by decide +kernel
theorem dX11_known_44 : decode cX11_known 44 = .ok (.aload_n 0, 1) := by decide +kernel
theorem dX11_known_45 : decode cX11_known 45 = .ok (.getfield 311, 3) := by decide +kernel
theorem dX11_known_48 : decode cX11_known 48 = .ok (.if_icmp .ge 27, 3) := by decide +kernel
theorem dX11_known_51 : decode cX11_known 51 = .ok (.iload_n 3, 1) := by decide +kernel
theorem dX11_known_52 : decode cX11_known 52 = .ok (.aload_n 0, 1) := by decide +kernel
theorem dX11_known_53 : decode cX11_known 53 = .ok (.iload 4, 2) := by decide +kernel
theorem dX11_known_55 : decode cX11_known 55 = .ok (.invokevirtual 326, 3) := by decide +kernel
theorem dX11_known_58 : decode cX11_known 58 = .ok (.iconst 1, 1) := by decide +kernel
theorem dX11_known_59 : decode cX11_known 59 = .ok (.if_icmp .ne 7, 3) := by decide +kernel
theorem dX11_known_62 : decode cX11_known 62 = .ok (.iconst 1, 1) := by decide +kernel
theorem dX11_known_63 : decode cX11_known 63 = .ok (.goto 4, 3) := by decide +kernel
theorem dX11_known_66 : decode cX11_known 66 = .ok (.iconst 0, 1) := by decide +kernel
theorem dX11_known_67 : decode cX11_known 67 = .ok (.iadd, 1) := by decide +kernel
theorem dX11_known_68 : decode cX11_known 68 = .ok (.istore_n 3, 1) := by decide +kernel
theorem dX11_known_69 : decode cX11_known 69 = .ok (.iinc 4 1, 3) := by decide +kernel
theorem dX11_known_72 : decode cX11_known 72 = .ok (.goto (-30), 3) := by decide +kernel
theorem dX11_known_75 : decode cX11_known 75 = .ok (.iload_n 3, 1) := by decide +kernel
theorem dX11_known_76 : decode cX11_known 76 = .ok (.ireturn, 1) := by decide +kernel
theorem dX11_says_0 : decode cX11_says 0 = .ok (.aload_n 0, 1) := by decide +kernel
theorem dX11_says_1 : decode cX11_says 1 = .ok (.iload_n 1, 1) := by decide +kernel
theorem dX11_says_2 : decode cX11_says 2 = .ok (.invokevirtual 323, 3) := by decide +kernel
theorem dX11_says_5 : decode cX11_says 5 = .ok (.iconst 0, 1) := by decide +kernel
theorem dX11_says_6 : decode cX11_says 6 = .ok (.istore_n 3, 1) := by decide +kernel
theorem dX11_says_7 : decode cX11_says 7 = .ok (.iload_n 3, 1) := by decide +kernel
theorem dX11_says_8 : decode cX11_says 8 = .ok (.aload_n 0, 1) := by decide +kernel
theorem dX11_says_9 : decode cX11_says 9 = .ok (.getfield 311, 3) := by decide +kernel
theorem dX11_says_12 : decode cX11_says 12 = .ok (.if_icmp .ge 38, 3) := by decide +kernel
theorem dX11_says_15 : decode cX11_says 15 = .ok (.aload_n 0, 1) := by decide +kernel
theorem dX11_says_16 : decode cX11_says 16 = .ok (.getfield 92, 3) := by decide +kernel
theorem dX11_says_19 : decode cX11_says 19 = .ok (.iload_n 3, 1) := by decide +kernel
theorem dX11_says_20 : decode cX11_says 20 = .ok (.aload_n 0, 1) := by decide +kernel
theorem dX11_says_21 : decode cX11_says 21 = .ok (.iload_n 3, 1) := by decide +kernel
theorem dX11_says_22 : decode cX11_says 22 = .ok (.invokevirtual 326, 3) := by decide +kernel
theorem dX11_says_25 : decode cX11_says 25 = .ok (.iconst 1, 1) := by decide +kernel
theorem dX11_says_26 : decode cX11_says 26 = .ok (.if_icmp .ne 7, 3) := by decide +kernel
theorem dX11_says_29 : decode cX11_says 29 = .ok (.iconst 1, 1) := by decide +kernel
theorem dX11_says_30 : decode cX11_says 30 = .ok (.goto 4, 3) := by decide +kernel
theorem dX11_says_33 : decode cX11_says 33 = .ok (.iconst 0, 1) := by decide +kernel
theorem dX11_says_34 : decode cX11_says 34 = .ok (.iload_n 2, 1) := by decide +kernel
theorem dX11_says_35 : decode cX11_says 35 = .ok (.if_icmp .ne 7, 3) := by decide +kernel
theorem dX11_says_38 : decode cX11_says 38 = .ok (.iconst 1, 1) := by decide +kernel
theorem dX11_says_39 : decode cX11_says 39 = .ok (.goto 4, 3) := by decide +kernel
theorem dX11_says_42 : decode cX11_says 42 = .ok (.iconst 0, 1) := by decide +kernel
theorem dX11_says_43 : decode cX11_says 43 = .ok (.bastore, 1) := by decide +kernel
theorem dX11_says_44 : decode cX11_says 44 = .ok (.iinc 3 1, 3) := by decide +kernel
theorem dX11_says_47 : decode cX11_says 47 = .ok (.goto (-40), 3) := by decide +kernel
theorem dX11_says_50 : decode cX11_says 50 = .ok (.iconst 0, 1) := by decide +kernel
theorem dX11_says_51 : decode cX11_says 51 = .ok (.istore_n 3, 1) := by decide +kernel
theorem dX11_says_52 : decode cX11_says 52 = .ok (.iconst 0, 1) := by decide +kernel
theorem dX11_says_53 : decode cX11_says 53 = .ok (.istore 4, 2) := by decide +kernel
theorem dX11_says_55 : decode cX11_says 55 = .ok (.iload 4, 2) := by decide +kernel
theorem dX11_says_57 : decode cX11_says 57 = .ok (.aload_n 0, 1) := by decide +kernel
theorem dX11_says_58 : decode cX11_says 58 = .ok (.getfield 311, 3) := by decide +kernel
theorem dX11_says_61 : decode cX11_says 61 = .ok (.if_icmp .ge 67, 3) := by decide +kernel
theorem dX11_says_64 : decode cX11_says 64 = .ok (.aload_n 0, 1) := by decide +kernel
theorem dX11_says_65 : decode cX11_says 65 = .ok (.getfield 92, 3) := by decide +kernel
theorem dX11_says_68 : decode cX11_says 68 = .ok (.iload 4, 2) := by decide +kernel
theorem dX11_says_70 : decode cX11_says 70 = .ok (.baload, 1) := by decide +kernel
theorem dX11_says_71 : decode cX11_says 71 = .ok (.ifCond .ne 6, 3) := by decide +kernel
theorem dX11_says_74 : decode cX11_says 74 = .ok (.goto 48, 3) := by decide +kernel
theorem dX11_says_77 : decode cX11_says 77 = .ok (.iconst 0, 1) := by decide +kernel
theorem dX11_says_78 : decode cX11_says 78 = .ok (.istore 5, 2) := by decide +kernel
theorem dX11_says_80 : decode cX11_says 80 = .ok (.iload 5, 2) := by decide +kernel
theorem dX11_says_82 : decode cX11_says 82 = .ok (.bipush 6, 2) := by decide +kernel
theorem dX11_says_84 : decode cX11_says 84 = .ok (.if_icmp .ge 34, 3) := by decide +kernel
theorem dX11_says_87 : decode cX11_says 87 = .ok (.aload_n 0, 1) := by decide +kernel
theorem dX11_says_88 : decode cX11_says 88 = .ok (.getfield 86, 3) := by decide +kernel
theorem dX11_says_91 : decode cX11_says 91 = .ok (.bipush 6, 2) := by decide +kernel
theorem dX11_says_93 : decode cX11_says 93 = .ok (.iload_n 3, 1) := by decide +kernel
theorem dX11_says_94 : decode cX11_says 94 = .ok (.imul, 1) := by decide +kernel
theorem dX11_says_95 : decode cX11_says 95 = .ok (.iload 5, 2) := by decide +kernel
theorem dX11_says_97 : decode cX11_says 97 = .ok (.iadd, 1) := by decide +kernel
theorem dX11_says_98 : decode cX11_says 98 = .ok (.aload_n 0, 1) := by decide +kernel
theorem dX11_says_99 : decode cX11_says 99 = .ok (.getfield 86, 3) := by decide +kernel
theorem dX11_says_102 : decode cX11_says 102 = .ok (.bipush 6, 2) := by decide +kernel
theorem dX11_says_104 : decode cX11_says 104 = .ok (.iload 4, 2) := by decide +kernel
theorem dX11_says_106 : decode cX11_says 106 = .ok (.imul, 1) := by decide +kernel
theorem dX11_says_107 : decode cX11_says 107 = .ok (.iload 5, 2) := by decide +kernel
theorem dX11_says_109 : decode cX11_says 109 = .ok (.iadd, 1) := by decide +kernel
theorem dX11_says_110 : decode cX11_says 110 = .ok (.baload, 1) := by decide +kernel
theorem dX11_says_111 : decode cX11_says 111 = .ok (.bastore, 1) := by decide +kernel
theorem dX11_says_112 : decode cX11_says 112 = .ok (.iinc 5 1, 3) := by decide +kernel
theorem dX11_says_115 : decode cX11_says 115 = .ok (.goto (-35), 3) := by decide +kernel
theorem dX11_says_118 : decode cX11_says 118 = .ok (.iload_n 3, 1) := by decide +kernel
theorem dX11_says_119 : decode cX11_says 119 = .ok (.iconst 1, 1) := by decide +kernel
theorem dX11_says_120 : decode cX11_says 120 = .ok (.iadd, 1) := by decide +kernel
theorem dX11_says_121 : decode cX11_says 121 = .ok (.istore_n 3, 1) := by decide +kernel
theorem dX11_says_122 : decode cX11_says 122 = .ok (.iinc 4 1, 3) := by decide +kernel
theorem dX11_says_125 : decode cX11_says 125 = .ok (.goto (-70), 3) := by decide +kernel
theorem dX11_says_128 : decode cX11_says 128 = .ok (.aload_n 0, 1) := by decide +kernel
theorem dX11_says_129 : decode cX11_says 129 = .ok (.iload_n 3, 1) := by decide +kernel
theorem dX11_says_130 : decode cX11_says 130 = .ok (.putfield 311, 3) := by decide +kernel
theorem dX11_says_133 : decode cX11_says 133 = .ok (.return_, 1) := by decide +kernel
theorem dX11_readsSayings_0 : decode cX11_readsSayings 0 = .ok (.aload_n 0, 1) := by decide +kernel
theorem dX11_readsSayings_1 : decode cX11_readsSayings 1 = .ok (.iconst 0, 1) := by decide +kernel
theorem dX11_readsSayings_2 : decode cX11_readsSayings 2 = .ok (.putfield 166, 3) := by decide +kernel
theorem dX11_readsSayings_5 : decode cX11_readsSayings 5 = .ok (.aload_n 0, 1) := by decide +kernel
theorem dX11_readsSayings_6 : decode cX11_readsSayings 6 = .ok (.iload_n 1, 1) := by decide +kernel
theorem dX11_readsSayings_7 : decode cX11_readsSayings 7 = .ok (.putfield 169, 3) := by decide +kernel
theorem dX11_readsSayings_10 : decode cX11_readsSayings 10 = .ok (.iconst 1, 1) := by decide +kernel
theorem dX11_readsSayings_11 : decode cX11_readsSayings 11 = .ok (.istore_n 2, 1) := by decide +kernel
theorem dX11_readsSayings_12 : decode cX11_readsSayings 12 = .ok (.iload_n 2, 1) := by decide +kernel
theorem dX11_readsSayings_13 : decode cX11_readsSayings 13 = .ok (.ifCond .eq 117, 3) := by decide +kernel
theorem dX11_readsSayings_16 : decode cX11_readsSayings 16 = .ok (.aload_n 0, 1) := by decide +kernel
theorem dX11_readsSayings_17 : decode cX11_readsSayings 17 = .ok (.invokevirtual 179, 3) := by decide +kernel
theorem dX11_readsSayings_20 : decode cX11_readsSayings 20 = .ok (.bipush 65, 2) := by decide +kernel
theorem dX11_readsSayings_22 : decode cX11_readsSayings 22 = .ok (.isub, 1) := by decide +kernel
theorem dX11_readsSayings_23 : decode cX11_readsSayings 23 = .ok (.istore_n 3, 1) := by decide +kernel
theorem dX11_readsSayings_24 : decode cX11_readsSayings 24 = .ok (.iload_n 3, 1) := by decide +kernel
theorem dX11_readsSayings_25 : decode cX11_readsSayings 25 = .ok (.iconst 0, 1) := by decide +kernel
theorem dX11_readsSayings_26 : decode cX11_readsSayings 26 = .ok (.iconst 5, 1) := by decide +kernel
theorem dX11_readsSayings_27 : decode cX11_readsSayings 27 = .ok (.invokestatic 137, 3) := by decide +kernel
theorem dX11_readsSayings_30 : decode cX11_readsSayings 30 = .ok (.ifCond .ne 13, 3) := by decide +kernel
theorem dX11_readsSayings_33 : decode cX11_readsSayings 33 = .ok (.aload_n 0, 1) := by decide +kernel
theorem dX11_readsSayings_34 : decode cX11_readsSayings 34 = .ok (.iconst 1, 1) := by decide +kernel
theorem dX11_readsSayings_35 : decode cX11_readsSayings 35 = .ok (.aload_n 0, 1) := by decide +kernel
theorem dX11_readsSayings_36 : decode cX11_readsSayings 36 = .ok (.getfield 166, 3) := by decide +kernel
theorem dX11_readsSayings_39 : decode cX11_readsSayings 39 = .ok (.invokevirtual 182, 3) := by decide +kernel
theorem dX11_readsSayings_42 : decode cX11_readsSayings 42 = .ok (.ireturn, 1) := by decide +kernel
theorem dX11_readsSayings_43 : decode cX11_readsSayings 43 = .ok (.aload_n 0, 1) := by decide +kernel
theorem dX11_readsSayings_44 : decode cX11_readsSayings 44 = .ok (.iload_n 3, 1) := by decide +kernel
theorem dX11_readsSayings_45 : decode cX11_readsSayings 45 = .ok (.invokevirtual 317, 3) := by decide +kernel
theorem dX11_readsSayings_48 : decode cX11_readsSayings 48 = .ok (.ifCond .ne 14, 3) := by decide +kernel
theorem dX11_readsSayings_51 : decode cX11_readsSayings 51 = .ok (.aload_n 0, 1) := by decide +kernel
theorem dX11_readsSayings_52 : decode cX11_readsSayings 52 = .ok (.bipush 7, 2) := by decide +kernel
theorem dX11_readsSayings_54 : decode cX11_readsSayings 54 = .ok (.aload_n 0, 1) := by decide +kernel
theorem dX11_readsSayings_55 : decode cX11_readsSayings 55 = .ok (.getfield 166, 3) := by decide +kernel
theorem dX11_readsSayings_58 : decode cX11_readsSayings 58 = .ok (.invokevirtual 182, 3) := by decide +kernel
theorem dX11_readsSayings_61 : decode cX11_readsSayings 61 = .ok (.ireturn, 1) := by decide +kernel
theorem dX11_readsSayings_62 : decode cX11_readsSayings 62 = .ok (.aload_n 0, 1) := by decide +kernel
theorem dX11_readsSayings_63 : decode cX11_readsSayings 63 = .ok (.aload_n 0, 1) := by decide +kernel
theorem dX11_readsSayings_64 : decode cX11_readsSayings 64 = .ok (.getfield 166, 3) := by decide +kernel
theorem dX11_readsSayings_67 : decode cX11_readsSayings 67 = .ok (.iconst 1, 1) := by decide +kernel
theorem dX11_readsSayings_68 : decode cX11_readsSayings 68 = .ok (.iadd, 1) := by decide +kernel
theorem dX11_readsSayings_69 : decode cX11_readsSayings 69 = .ok (.putfield 166, 3) := by decide +kernel
theorem dX11_readsSayings_72 : decode cX11_readsSayings 72 = .ok (.aload_n 0, 1) := by decide +kernel
theorem dX11_readsSayings_73 : decode cX11_readsSayings 73 = .ok (.invokevirtual 179, 3) := by decide +kernel
theorem dX11_readsSayings_76 : decode cX11_readsSayings 76 = .ok (.bipush 43, 2) := by decide +kernel
theorem dX11_readsSayings_78 : decode cX11_readsSayings 78 = .ok (.if_icmp .eq 22, 3) := by decide +kernel
theorem dX11_readsSayings_81 : decode cX11_readsSayings 81 = .ok (.aload_n 0, 1) := by decide +kernel
theorem dX11_readsSayings_82 : decode cX11_readsSayings 82 = .ok (.invokevirtual 179, 3) := by decide +kernel
theorem dX11_readsSayings_85 : decode cX11_readsSayings 85 = .ok (.bipush 45, 2) := by decide +kernel
theorem dX11_readsSayings_87 : decode cX11_readsSayings 87 = .ok (.if_icmp .eq 13, 3) := by decide +kernel
theorem dX11_readsSayings_90 : decode cX11_readsSayings 90 = .ok (.aload_n 0, 1) := by decide +kernel
theorem dX11_readsSayings_91 : decode cX11_readsSayings 91 = .ok (.iconst 1, 1) := by decide +kernel
theorem dX11_readsSayings_92 : decode cX11_readsSayings 92 = .ok (.aload_n 0, 1) := by decide +kernel
theorem dX11_readsSayings_93 : decode cX11_readsSayings 93 = .ok (.getfield 166, 3) := by decide +kernel
theorem dX11_readsSayings_96 : decode cX11_readsSayings 96 = .ok (.invokevirtual 182, 3) := by decide +kernel
theorem dX11_readsSayings_99 : decode cX11_readsSayings 99 = .ok (.ireturn, 1) := by decide +kernel
theorem dX11_readsSayings_100 : decode cX11_readsSayings 100 = .ok (.aload_n 0, 1) := by decide +kernel
theorem dX11_readsSayings_101 : decode cX11_readsSayings 101 = .ok (.aload_n 0, 1) := by decide +kernel
theorem dX11_readsSayings_102 : decode cX11_readsSayings 102 = .ok (.getfield 166, 3) := by decide +kernel
theorem dX11_readsSayings_105 : decode cX11_readsSayings 105 = .ok (.iconst 1, 1) := by decide +kernel
theorem dX11_readsSayings_106 : decode cX11_readsSayings 106 = .ok (.iadd, 1) := by decide +kernel
theorem dX11_readsSayings_107 : decode cX11_readsSayings 107 = .ok (.putfield 166, 3) := by decide +kernel
theorem dX11_readsSayings_110 : decode cX11_readsSayings 110 = .ok (.aload_n 0, 1) := by decide +kernel
theorem dX11_readsSayings_111 : decode cX11_readsSayings 111 = .ok (.getfield 166, 3) := by decide +kernel
theorem dX11_readsSayings_114 : decode cX11_readsSayings 114 = .ok (.aload_n 0, 1) := by decide +kernel
theorem dX11_readsSayings_115 : decode cX11_readsSayings 115 = .ok (.getfield 169, 3) := by decide +kernel
theorem dX11_readsSayings_118 : decode cX11_readsSayings 118 = .ok (.if_icmp .ge 7, 3) := by decide +kernel
theorem dX11_readsSayings_121 : decode cX11_readsSayings 121 = .ok (.iconst 1, 1) := by decide +kernel
theorem dX11_readsSayings_122 : decode cX11_readsSayings 122 = .ok (.goto 4, 3) := by decide +kernel
theorem dX11_readsSayings_125 : decode cX11_readsSayings 125 = .ok (.iconst 0, 1) := by decide +kernel
theorem dX11_readsSayings_126 : decode cX11_readsSayings 126 = .ok (.istore_n 2, 1) := by decide +kernel
theorem dX11_readsSayings_127 : decode cX11_readsSayings 127 = .ok (.goto (-115), 3) := by decide +kernel
theorem dX11_readsSayings_130 : decode cX11_readsSayings 130 = .ok (.iconst 1, 1) := by decide +kernel
theorem dX11_readsSayings_131 : decode cX11_readsSayings 131 = .ok (.ireturn, 1) := by decide +kernel
theorem dX11_sayings_0 : decode cX11_sayings 0 = .ok (.aload_n 0, 1) := by decide +kernel
theorem dX11_sayings_1 : decode cX11_sayings 1 = .ok (.iload_n 1, 1) := by decide +kernel
theorem dX11_sayings_2 : decode cX11_sayings 2 = .ok (.invokevirtual 285, 3) := by decide +kernel
theorem dX11_sayings_5 : decode cX11_sayings 5 = .ok (.ifCond .eq 35, 3) := by decide +kernel
theorem dX11_sayings_8 : decode cX11_sayings 8 = .ok (.iload_n 2, 1) := by decide +kernel
theorem dX11_sayings_9 : decode cX11_sayings 9 = .ok (.iconst 1, 1) := by decide +kernel
theorem dX11_sayings_10 : decode cX11_sayings 10 = .ok (.bipush 20, 2) := by decide +kernel
theorem dX11_sayings_12 : decode cX11_sayings 12 = .ok (.invokestatic 137, 3) := by decide +kernel
theorem dX11_sayings_15 : decode cX11_sayings 15 = .ok (.ifCond .eq 25, 3) := by decide +kernel
theorem dX11_sayings_18 : decode cX11_sayings 18 = .ok (.iload_n 3, 1) := by decide +kernel
theorem dX11_sayings_19 : decode cX11_sayings 19 = .ok (.bipush 100, 2) := by decide +kernel
theorem dX11_sayings_21 : decode cX11_sayings 21 = .ok (.if_icmp .eq 11, 3) := by decide +kernel
theorem dX11_sayings_24 : decode cX11_sayings 24 = .ok (.aload_n 0, 1) := by decide +kernel
theorem dX11_sayings_25 : decode cX11_sayings 25 = .ok (.iload_n 3, 1) := by decide +kernel
theorem dX11_sayings_26 : decode cX11_sayings 26 = .ok (.invokevirtual 145, 3) := by decide +kernel
theorem dX11_sayings_29 : decode cX11_sayings 29 = .ok (.ifCond .eq 11, 3) := by decide +kernel
theorem dX11_sayings_32 : decode cX11_sayings 32 = .ok (.iload_n 2, 1) := by decide +kernel
theorem dX11_sayings_33 : decode cX11_sayings 33 = .ok (.aload_n 0, 1) := by decide +kernel
theorem dX11_sayings_34 : decode cX11_sayings 34 = .ok (.getfield 159, 3) := by decide +kernel
theorem dX11_sayings_37 : decode cX11_sayings 37 = .ok (.if_icmp .le 5, 3) := by decide +kernel
theorem dX11_sayings_40 : decode cX11_sayings 40 = .ok (.iconst (-1), 1) := by decide +kernel
theorem dX11_sayings_41 : decode cX11_sayings 41 = .ok (.ireturn, 1) := by decide +kernel
theorem dX11_sayings_42 : decode cX11_sayings 42 = .ok (.aload_n 0, 1) := by decide +kernel
theorem dX11_sayings_43 : decode cX11_sayings 43 = .ok (.iload_n 2, 1) := by decide +kernel
theorem dX11_sayings_44 : decode cX11_sayings 44 = .ok (.invokevirtual 329, 3) := by decide +kernel
theorem dX11_sayings_47 : decode cX11_sayings 47 = .ok (.istore 4, 2) := by decide +kernel
theorem dX11_sayings_49 : decode cX11_sayings 49 = .ok (.aload_n 0, 1) := by decide +kernel
theorem dX11_sayings_50 : decode cX11_sayings 50 = .ok (.iconst 0, 1) := by decide +kernel
theorem dX11_sayings_51 : decode cX11_sayings 51 = .ok (.putfield 159, 3) := by decide +kernel
theorem dX11_sayings_54 : decode cX11_sayings 54 = .ok (.iload 4, 2) := by decide +kernel
theorem dX11_sayings_56 : decode cX11_sayings 56 = .ok (.ifCond .ne 8, 3) := by decide +kernel
theorem dX11_sayings_59 : decode cX11_sayings 59 = .ok (.aload_n 0, 1) := by decide +kernel
theorem dX11_sayings_60 : decode cX11_sayings 60 = .ok (.getfield 176, 3) := by decide +kernel
theorem dX11_sayings_63 : decode cX11_sayings 63 = .ok (.ireturn, 1) := by decide +kernel
theorem dX11_sayings_64 : decode cX11_sayings 64 = .ok (.aload_n 0, 1) := by decide +kernel
theorem dX11_sayings_65 : decode cX11_sayings 65 = .ok (.iload_n 1, 1) := by decide +kernel
theorem dX11_sayings_66 : decode cX11_sayings 66 = .ok (.invokevirtual 320, 3) := by decide +kernel
theorem dX11_sayings_69 : decode cX11_sayings 69 = .ok (.ifCond .ne 6, 3) := by decide +kernel
theorem dX11_sayings_72 : decode cX11_sayings 72 = .ok (.bipush (-3), 2) := by decide +kernel
theorem dX11_sayings_74 : decode cX11_sayings 74 = .ok (.ireturn, 1) := by decide +kernel
theorem dX11_sayings_75 : decode cX11_sayings 75 = .ok (.iconst 0, 1) := by decide +kernel
theorem dX11_sayings_76 : decode cX11_sayings 76 = .ok (.istore 5, 2) := by decide +kernel
theorem dX11_sayings_78 : decode cX11_sayings 78 = .ok (.iload 5, 2) := by decide +kernel
theorem dX11_sayings_80 : decode cX11_sayings 80 = .ok (.iload_n 2, 1) := by decide +kernel
theorem dX11_sayings_81 : decode cX11_sayings 81 = .ok (.if_icmp .ge 46, 3) := by decide +kernel
theorem dX11_sayings_84 : decode cX11_sayings 84 = .ok (.aload_n 0, 1) := by decide +kernel
theorem dX11_sayings_85 : decode cX11_sayings 85 = .ok (.bipush 10, 2) := by decide +kernel
theorem dX11_sayings_87 : decode cX11_sayings 87 = .ok (.aload_n 0, 1) := by decide +kernel
theorem dX11_sayings_88 : decode cX11_sayings 88 = .ok (.iload 5, 2) := by decide +kernel
theorem dX11_sayings_90 : decode cX11_sayings 90 = .ok (.invokevirtual 172, 3) := by decide +kernel
theorem dX11_sayings_93 : decode cX11_sayings 93 = .ok (.iadd, 1) := by decide +kernel
theorem dX11_sayings_94 : decode cX11_sayings 94 = .ok (.bipush 65, 2) := by decide +kernel
theorem dX11_sayings_96 : decode cX11_sayings 96 = .ok (.isub, 1) := by decide +kernel
theorem dX11_sayings_97 : decode cX11_sayings 97 = .ok (.aload_n 0, 1) := by decide +kernel
theorem dX11_sayings_98 : decode cX11_sayings 98 = .ok (.iload 5, 2) := by decide +kernel
theorem dX11_sayings_100 : decode cX11_sayings 100 = .ok (.iconst 1, 1) := by decide +kernel
theorem dX11_sayings_101 : decode cX11_sayings 101 = .ok (.iadd, 1) := by decide +kernel
theorem dX11_sayings_102 : decode cX11_sayings 102 = .ok (.invokevirtual 172, 3) := by decide +kernel
theorem dX11_sayings_105 : decode cX11_sayings 105 = .ok (.bipush 43, 2) := by decide +kernel
theorem dX11_sayings_107 : decode cX11_sayings 107 = .ok (.if_icmp .ne 7, 3) := by decide +kernel
theorem dX11_sayings_110 : decode cX11_sayings 110 = .ok (.iconst 1, 1) := by decide +kernel
theorem dX11_sayings_111 : decode cX11_sayings 111 = .ok (.goto 4, 3) := by decide +kernel
theorem dX11_sayings_114 : decode cX11_sayings 114 = .ok (.iconst 0, 1) := by decide +kernel
theorem dX11_sayings_115 : decode cX11_sayings 115 = .ok (.invokevirtual 332, 3) := by decide +kernel
theorem dX11_sayings_118 : decode cX11_sayings 118 = .ok (.iload 5, 2) := by decide +kernel
theorem dX11_sayings_120 : decode cX11_sayings 120 = .ok (.iconst 2, 1) := by decide +kernel
theorem dX11_sayings_121 : decode cX11_sayings 121 = .ok (.iadd, 1) := by decide +kernel
theorem dX11_sayings_122 : decode cX11_sayings 122 = .ok (.istore 5, 2) := by decide +kernel
theorem dX11_sayings_124 : decode cX11_sayings 124 = .ok (.goto (-46), 3) := by decide +kernel
theorem dX11_sayings_127 : decode cX11_sayings 127 = .ok (.iload_n 3, 1) := by decide +kernel
theorem dX11_sayings_128 : decode cX11_sayings 128 = .ok (.bipush 100, 2) := by decide +kernel
theorem dX11_sayings_130 : decode cX11_sayings 130 = .ok (.if_icmp .ne 8, 3) := by decide +kernel
theorem dX11_sayings_133 : decode cX11_sayings 133 = .ok (.aload_n 0, 1) := by decide +kernel
theorem dX11_sayings_134 : decode cX11_sayings 134 = .ok (.getfield 311, 3) := by decide +kernel
theorem dX11_sayings_137 : decode cX11_sayings 137 = .ok (.ireturn, 1) := by decide +kernel
theorem dX11_sayings_138 : decode cX11_sayings 138 = .ok (.aload_n 0, 1) := by decide +kernel
theorem dX11_sayings_139 : decode cX11_sayings 139 = .ok (.getfield 311, 3) := by decide +kernel
theorem dX11_sayings_142 : decode cX11_sayings 142 = .ok (.ifCond .ne 8, 3) := by decide +kernel
theorem dX11_sayings_145 : decode cX11_sayings 145 = .ok (.bipush (-2), 2) := by decide +kernel
theorem dX11_sayings_147 : decode cX11_sayings 147 = .ok (.goto 9, 3) := by decide +kernel
theorem dX11_sayings_150 : decode cX11_sayings 150 = .ok (.aload_n 0, 1) := by decide +kernel
theorem dX11_sayings_151 : decode cX11_sayings 151 = .ok (.getfield 86, 3) := by decide +kernel
theorem dX11_sayings_154 : decode cX11_sayings 154 = .ok (.iload_n 3, 1) := by decide +kernel
theorem dX11_sayings_155 : decode cX11_sayings 155 = .ok (.baload, 1) := by decide +kernel
theorem dX11_sayings_156 : decode cX11_sayings 156 = .ok (.ireturn, 1) := by decide +kernel
theorem dX11_often_0 : decode cX11_often 0 = .ok (.aload_n 0, 1) := by decide +kernel
theorem dX11_often_1 : decode cX11_often 1 = .ok (.iload_n 1, 1) := by decide +kernel
theorem dX11_often_2 : decode cX11_often 2 = .ok (.invokevirtual 285, 3) := by decide +kernel
theorem dX11_often_5 : decode cX11_often 5 = .ok (.ifCond .eq 20, 3) := by decide +kernel
theorem dX11_often_8 : decode cX11_often 8 = .ok (.aload_n 0, 1) := by decide +kernel
theorem dX11_often_9 : decode cX11_often 9 = .ok (.iload_n 2, 1) := by decide +kernel
theorem dX11_often_10 : decode cX11_often 10 = .ok (.invokevirtual 317, 3) := by decide +kernel
theorem dX11_often_13 : decode cX11_often 13 = .ok (.ifCond .eq 12, 3) := by decide +kernel
theorem dX11_often_16 : decode cX11_often 16 = .ok (.iload_n 3, 1) := by decide +kernel
theorem dX11_often_17 : decode cX11_often 17 = .ok (.iconst 0, 1) := by decide +kernel
theorem dX11_often_18 : decode cX11_often 18 = .ok (.iconst 2, 1) := by decide +kernel
theorem dX11_often_19 : decode cX11_often 19 = .ok (.invokestatic 137, 3) := by decide +kernel
theorem dX11_often_22 : decode cX11_often 22 = .ok (.ifCond .ne 5, 3) := by decide +kernel
theorem dX11_often_25 : decode cX11_often 25 = .ok (.iconst (-1), 1) := by decide +kernel
theorem dX11_often_26 : decode cX11_often 26 = .ok (.ireturn, 1) := by decide +kernel
theorem dX11_often_27 : decode cX11_often 27 = .ok (.aload_n 0, 1) := by decide +kernel
theorem dX11_often_28 : decode cX11_often 28 = .ok (.iload_n 1, 1) := by decide +kernel
theorem dX11_often_29 : decode cX11_often 29 = .ok (.invokevirtual 320, 3) := by decide +kernel
theorem dX11_often_32 : decode cX11_often 32 = .ok (.ifCond .ne 6, 3) := by decide +kernel
theorem dX11_often_35 : decode cX11_often 35 = .ok (.bipush (-3), 2) := by decide +kernel
theorem dX11_often_37 : decode cX11_often 37 = .ok (.ireturn, 1) := by decide +kernel
theorem dX11_often_38 : decode cX11_often 38 = .ok (.aload_n 0, 1) := by decide +kernel
theorem dX11_often_39 : decode cX11_often 39 = .ok (.bipush 10, 2) := by decide +kernel
theorem dX11_often_41 : decode cX11_often 41 = .ok (.iload_n 2, 1) := by decide +kernel
theorem dX11_often_42 : decode cX11_often 42 = .ok (.iadd, 1) := by decide +kernel
theorem dX11_often_43 : decode cX11_often 43 = .ok (.invokevirtual 323, 3) := by decide +kernel
theorem dX11_often_46 : decode cX11_often 46 = .ok (.iconst 0, 1) := by decide +kernel
theorem dX11_often_47 : decode cX11_often 47 = .ok (.istore 4, 2) := by decide +kernel
theorem dX11_often_49 : decode cX11_often 49 = .ok (.iconst 0, 1) := by decide +kernel
theorem dX11_often_50 : decode cX11_often 50 = .ok (.istore 5, 2) := by decide +kernel
theorem dX11_often_52 : decode cX11_often 52 = .ok (.bipush (-2), 2) := by decide +kernel
theorem dX11_often_54 : decode cX11_often 54 = .ok (.istore 6, 2) := by decide +kernel
theorem dX11_often_56 : decode cX11_often 56 = .ok (.iconst 0, 1) := by decide +kernel
theorem dX11_often_57 : decode cX11_often 57 = .ok (.istore 7, 2) := by decide +kernel
theorem dX11_often_59 : decode cX11_often 59 = .ok (.iload 7, 2) := by decide +kernel
theorem dX11_often_61 : decode cX11_often 61 = .ok (.aload_n 0, 1) := by decide +kernel
theorem dX11_often_62 : decode cX11_often 62 = .ok (.getfield 311, 3) := by decide +kernel
theorem dX11_often_65 : decode cX11_often 65 = .ok (.if_icmp .ge 104, 3) := by decide +kernel
theorem dX11_often_68 : decode cX11_often 68 = .ok (.iconst 0, 1) := by decide +kernel
theorem dX11_often_69 : decode cX11_often 69 = .ok (.istore 8, 2) := by decide +kernel
theorem dX11_often_71 : decode cX11_often 71 = .ok (.aload_n 0, 1) := by decide +kernel
theorem dX11_often_72 : decode cX11_often 72 = .ok (.getfield 89, 3) := by decide +kernel
theorem dX11_often_75 : decode cX11_often 75 = .ok (.iload 8, 2) := by decide +kernel
theorem dX11_often_77 : decode cX11_often 77 = .ok (.iaload, 1) := by decide +kernel
theorem dX11_often_78 : decode cX11_often 78 = .ok (.aload_n 0, 1) := by decide +kernel
theorem dX11_often_79 : decode cX11_often 79 = .ok (.getfield 89, 3) := by decide +kernel
theorem dX11_often_82 : decode cX11_often 82 = .ok (.iload 7, 2) := by decide +kernel
theorem dX11_often_84 : decode cX11_often 84 = .ok (.iaload, 1) := by decide +kernel
theorem dX11_often_85 : decode cX11_often 85 = .ok (.if_icmp .eq 12, 3) := by decide +kernel
theorem dX11_often_88 : decode cX11_often 88 = .ok (.iload 8, 2) := by decide +kernel
theorem dX11_often_90 : decode cX11_often 90 = .ok (.iconst 1, 1) := by decide +kernel
theorem dX11_often_91 : decode cX11_often 91 = .ok (.iadd, 1) := by decide +kernel
theorem dX11_often_92 : decode cX11_often 92 = .ok (.istore 8, 2) := by decide +kernel
theorem dX11_often_94 : decode cX11_often 94 = .ok (.goto (-23), 3) := by decide +kernel
theorem dX11_often_97 : decode cX11_often 97 = .ok (.iload 8, 2) := by decide +kernel
theorem dX11_often_99 : decode cX11_often 99 = .ok (.iload 7, 2) := by decide +kernel
theorem dX11_often_101 : decode cX11_often 101 = .ok (.if_icmp .ge 6, 3) := by decide +kernel
theorem dX11_often_104 : decode cX11_often 104 = .ok (.goto 59, 3) := by decide +kernel
theorem dX11_often_107 : decode cX11_often 107 = .ok (.aload_n 0, 1) := by decide +kernel
theorem dX11_often_108 : decode cX11_often 108 = .ok (.iload 7, 2) := by decide +kernel
theorem dX11_often_110 : decode cX11_often 110 = .ok (.invokevirtual 326, 3) := by decide +kernel
theorem dX11_often_113 : decode cX11_often 113 = .ok (.istore 9, 2) := by decide +kernel
theorem dX11_often_115 : decode cX11_often 115 = .ok (.iload 4, 2) := by decide +kernel
theorem dX11_often_117 : decode cX11_often 117 = .ok (.iconst 1, 1) := by decide +kernel
theorem dX11_often_118 : decode cX11_often 118 = .ok (.iadd, 1) := by decide +kernel
theorem dX11_often_119 : decode cX11_often 119 = .ok (.istore 4, 2) := by decide +kernel
theorem dX11_often_121 : decode cX11_often 121 = .ok (.iload 9, 2) := by decide +kernel
theorem dX11_often_123 : decode cX11_often 123 = .ok (.iload 5, 2) := by decide +kernel
theorem dX11_often_125 : decode cX11_often 125 = .ok (.if_icmp .lt 38, 3) := by decide +kernel
theorem dX11_often_128 : decode cX11_often 128 = .ok (.iload 9, 2) := by decide +kernel
theorem dX11_often_130 : decode cX11_often 130 = .ok (.iload 5, 2) := by decide +kernel
theorem dX11_often_132 : decode cX11_often 132 = .ok (.if_icmp .ne 18, 3) := by decide +kernel
theorem dX11_often_135 : decode cX11_often 135 = .ok (.aload_n 0, 1) := by decide +kernel
theorem dX11_often_136 : decode cX11_often 136 = .ok (.getfield 89, 3) := by decide +kernel
theorem dX11_often_139 : decode cX11_often 139 = .ok (.iload 7, 2) := by decide +kernel
theorem dX11_often_141 : decode cX11_often 141 = .ok (.iaload, 1) := by decide +kernel
theorem dX11_often_142 : decode cX11_often 142 = .ok (.iload 6, 2) := by decide +kernel
theorem dX11_often_144 : decode cX11_often 144 = .ok (.if_icmp .le 6, 3) := by decide +kernel
theorem dX11_often_147 : decode cX11_often 147 = .ok (.goto 16, 3) := by decide +kernel
theorem dX11_often_150 : decode cX11_often 150 = .ok (.iload 9, 2) := by decide +kernel
theorem dX11_often_152 : decode cX11_often 152 = .ok (.istore 5, 2) := by decide +kernel
theorem dX11_often_154 : decode cX11_often 154 = .ok (.aload_n 0, 1) := by decide +kernel
theorem dX11_often_155 : decode cX11_often 155 = .ok (.getfield 89, 3) := by decide +kernel
theorem dX11_often_158 : decode cX11_often 158 = .ok (.iload 7, 2) := by decide +kernel
theorem dX11_often_160 : decode cX11_often 160 = .ok (.iaload, 1) := by decide +kernel
theorem dX11_often_161 : decode cX11_often 161 = .ok (.istore 6, 2) := by decide +kernel
theorem dX11_often_163 : decode cX11_often 163 = .ok (.iinc 7 1, 3) := by decide +kernel
theorem dX11_often_166 : decode cX11_often 166 = .ok (.goto (-107), 3) := by decide +kernel
theorem dX11_often_169 : decode cX11_often 169 = .ok (.iload_n 3, 1) := by decide +kernel
theorem dX11_often_170 : decode cX11_often 170 = .ok (.ifCond .ne 8, 3) := by decide +kernel
theorem dX11_often_173 : decode cX11_often 173 = .ok (.iload 4, 2) := by decide +kernel
theorem dX11_often_175 : decode cX11_often 175 = .ok (.goto 15, 3) := by decide +kernel
theorem dX11_often_178 : decode cX11_often 178 = .ok (.iload_n 3, 1) := by decide +kernel
theorem dX11_often_179 : decode cX11_often 179 = .ok (.iconst 1, 1) := by decide +kernel
theorem dX11_often_180 : decode cX11_often 180 = .ok (.if_icmp .ne 8, 3) := by decide +kernel
theorem dX11_often_183 : decode cX11_often 183 = .ok (.iload 5, 2) := by decide +kernel
theorem dX11_often_185 : decode cX11_often 185 = .ok (.goto 5, 3) := by decide +kernel
theorem dX11_often_188 : decode cX11_often 188 = .ok (.iload 6, 2) := by decide +kernel
theorem dX11_often_190 : decode cX11_often 190 = .ok (.ireturn, 1) := by decide +kernel
theorem dX11_digitsOf_0 : decode cX11_digitsOf 0 = .ok (.iload_n 0, 1) := by decide +kernel
theorem dX11_digitsOf_1 : decode cX11_digitsOf 1 = .ok (.bipush 10, 2) := by decide +kernel
theorem dX11_digitsOf_3 : decode cX11_digitsOf 3 = .ok (.if_icmp .ge 7, 3) := by decide +kernel
theorem dX11_digitsOf_6 : decode cX11_digitsOf 6 = .ok (.iconst 1, 1) := by decide +kernel
theorem dX11_digitsOf_7 : decode cX11_digitsOf 7 = .ok (.goto 14, 3) := by decide +kernel
theorem dX11_digitsOf_10 : decode cX11_digitsOf 10 = .ok (.iload_n 0, 1) := by decide +kernel
theorem dX11_digitsOf_11 : decode cX11_digitsOf 11 = .ok (.bipush 100, 2) := by decide +kernel
theorem dX11_digitsOf_13 : decode cX11_digitsOf 13 = .ok (.if_icmp .ge 7, 3) := by decide +kernel
theorem dX11_digitsOf_16 : decode cX11_digitsOf 16 = .ok (.iconst 2, 1) := by decide +kernel
theorem dX11_digitsOf_17 : decode cX11_digitsOf 17 = .ok (.goto 4, 3) := by decide +kernel
theorem dX11_digitsOf_20 : decode cX11_digitsOf 20 = .ok (.iconst 3, 1) := by decide +kernel
theorem dX11_digitsOf_21 : decode cX11_digitsOf 21 = .ok (.ireturn, 1) := by decide +kernel
theorem dX11_mayBe_0 : decode cX11_mayBe 0 = .ok (.iload_n 1, 1) := by decide +kernel
theorem dX11_mayBe_1 : decode cX11_mayBe 1 = .ok (.aload_n 0, 1) := by decide +kernel
theorem dX11_mayBe_2 : decode cX11_mayBe 2 = .ok (.getfield 336, 3) := by decide +kernel
theorem dX11_mayBe_5 : decode cX11_mayBe 5 = .ok (.if_icmp .gt 52, 3) := by decide +kernel
theorem dX11_mayBe_8 : decode cX11_mayBe 8 = .ok (.iload_n 1, 1) := by decide +kernel
theorem dX11_mayBe_9 : decode cX11_mayBe 9 = .ok (.aload_n 0, 1) := by decide +kernel
theorem dX11_mayBe_10 : decode cX11_mayBe 10 = .ok (.getfield 336, 3) := by decide +kernel
theorem dX11_mayBe_13 : decode cX11_mayBe 13 = .ok (.if_icmp .ne 45, 3) := by decide +kernel
theorem dX11_mayBe_16 : decode cX11_mayBe 16 = .ok (.iload_n 2, 1) := by decide +kernel
theorem dX11_mayBe_17 : decode cX11_mayBe 17 = .ok (.aload_n 0, 1) := by decide +kernel
theorem dX11_mayBe_18 : decode cX11_mayBe 18 = .ok (.getfield 339, 3) := by decide +kernel
theorem dX11_mayBe_21 : decode cX11_mayBe 21 = .ok (.if_icmp .gt 36, 3) := by decide +kernel
theorem dX11_mayBe_24 : decode cX11_mayBe 24 = .ok (.iload_n 2, 1) := by decide +kernel
theorem dX11_mayBe_25 : decode cX11_mayBe 25 = .ok (.aload_n 0, 1) := by decide +kernel
theorem dX11_mayBe_26 : decode cX11_mayBe 26 = .ok (.getfield 339, 3) := by decide +kernel
theorem dX11_mayBe_29 : decode cX11_mayBe 29 = .ok (.if_icmp .ne 29, 3) := by decide +kernel
theorem dX11_mayBe_32 : decode cX11_mayBe 32 = .ok (.iload_n 3, 1) := by decide +kernel
theorem dX11_mayBe_33 : decode cX11_mayBe 33 = .ok (.aload_n 0, 1) := by decide +kernel
theorem dX11_mayBe_34 : decode cX11_mayBe 34 = .ok (.getfield 342, 3) := by decide +kernel
theorem dX11_mayBe_37 : decode cX11_mayBe 37 = .ok (.if_icmp .gt 20, 3) := by decide +kernel
theorem dX11_mayBe_40 : decode cX11_mayBe 40 = .ok (.iload_n 3, 1) := by decide +kernel
theorem dX11_mayBe_41 : decode cX11_mayBe 41 = .ok (.aload_n 0, 1) := by decide +kernel
theorem dX11_mayBe_42 : decode cX11_mayBe 42 = .ok (.getfield 342, 3) := by decide +kernel
theorem dX11_mayBe_45 : decode cX11_mayBe 45 = .ok (.if_icmp .ne 13, 3) := by decide +kernel
theorem dX11_mayBe_48 : decode cX11_mayBe 48 = .ok (.iload 4, 2) := by decide +kernel
theorem dX11_mayBe_50 : decode cX11_mayBe 50 = .ok (.aload_n 0, 1) := by decide +kernel
theorem dX11_mayBe_51 : decode cX11_mayBe 51 = .ok (.getfield 345, 3) := by decide +kernel
theorem dX11_mayBe_54 : decode cX11_mayBe 54 = .ok (.if_icmp .lt 4, 3) := by decide +kernel
theorem dX11_mayBe_57 : decode cX11_mayBe 57 = .ok (.return_, 1) := by decide +kernel
theorem dX11_mayBe_58 : decode cX11_mayBe 58 = .ok (.aload_n 0, 1) := by decide +kernel
theorem dX11_mayBe_59 : decode cX11_mayBe 59 = .ok (.iload_n 1, 1) := by decide +kernel
theorem dX11_mayBe_60 : decode cX11_mayBe 60 = .ok (.putfield 336, 3) := by decide +kernel
theorem dX11_mayBe_63 : decode cX11_mayBe 63 = .ok (.aload_n 0, 1) := by decide +kernel
theorem dX11_mayBe_64 : decode cX11_mayBe 64 = .ok (.iload_n 2, 1) := by decide +kernel
theorem dX11_mayBe_65 : decode cX11_mayBe 65 = .ok (.putfield 339, 3) := by decide +kernel
theorem dX11_mayBe_68 : decode cX11_mayBe 68 = .ok (.aload_n 0, 1) := by decide +kernel
theorem dX11_mayBe_69 : decode cX11_mayBe 69 = .ok (.iload_n 3, 1) := by decide +kernel
theorem dX11_mayBe_70 : decode cX11_mayBe 70 = .ok (.putfield 342, 3) := by decide +kernel
theorem dX11_mayBe_73 : decode cX11_mayBe 73 = .ok (.aload_n 0, 1) := by decide +kernel
theorem dX11_mayBe_74 : decode cX11_mayBe 74 = .ok (.iload 4, 2) := by decide +kernel
theorem dX11_mayBe_76 : decode cX11_mayBe 76 = .ok (.putfield 345, 3) := by decide +kernel
theorem dX11_mayBe_79 : decode cX11_mayBe 79 = .ok (.aload_n 0, 1) := by decide +kernel
theorem dX11_mayBe_80 : decode cX11_mayBe 80 = .ok (.iload 5, 2) := by decide +kernel
theorem dX11_mayBe_82 : decode cX11_mayBe 82 = .ok (.putfield 348, 3) := by decide +kernel
theorem dX11_mayBe_85 : decode cX11_mayBe 85 = .ok (.return_, 1) := by decide +kernel
theorem dX11_ageNow_0 : decode cX11_ageNow 0 = .ok (.aload_n 0, 1) := by decide +kernel
theorem dX11_ageNow_1 : decode cX11_ageNow 1 = .ok (.getfield 86, 3) := by decide +kernel
theorem dX11_ageNow_4 : decode cX11_ageNow 4 = .ok (.bipush 6, 2) := by decide +kernel
theorem dX11_ageNow_6 : decode cX11_ageNow 6 = .ok (.iload_n 1, 1) := by decide +kernel
theorem dX11_ageNow_7 : decode cX11_ageNow 7 = .ok (.imul, 1) := by decide +kernel
theorem dX11_ageNow_8 : decode cX11_ageNow 8 = .ok (.iload_n 2, 1) := by decide +kernel
theorem dX11_ageNow_9 : decode cX11_ageNow 9 = .ok (.iadd, 1) := by decide +kernel
theorem dX11_ageNow_10 : decode cX11_ageNow 10 = .ok (.baload, 1) := by decide +kernel
theorem dX11_ageNow_11 : decode cX11_ageNow 11 = .ok (.aload_n 0, 1) := by decide +kernel
theorem dX11_ageNow_12 : decode cX11_ageNow 12 = .ok (.iload_n 2, 1) := by decide +kernel
theorem dX11_ageNow_13 : decode cX11_ageNow 13 = .ok (.invokevirtual 253, 3) := by decide +kernel
theorem dX11_ageNow_16 : decode cX11_ageNow 16 = .ok (.iadd, 1) := by decide +kernel
theorem dX11_ageNow_17 : decode cX11_ageNow 17 = .ok (.ireturn, 1) := by decide +kernel
theorem dX11_rowsWith_0 : decode cX11_rowsWith 0 = .ok (.iconst 0, 1) := by decide +kernel
theorem dX11_rowsWith_1 : decode cX11_rowsWith 1 = .ok (.istore 5, 2) := by decide +kernel
theorem dX11_rowsWith_3 : decode cX11_rowsWith 3 = .ok (.iconst 0, 1) := by decide +kernel
theorem dX11_rowsWith_4 : decode cX11_rowsWith 4 = .ok (.istore 6, 2) := by decide +kernel
theorem dX11_rowsWith_6 : decode cX11_rowsWith 6 = .ok (.iload 6, 2) := by decide +kernel
theorem dX11_rowsWith_8 : decode cX11_rowsWith 8 = .ok (.aload_n 0, 1) := by decide +kernel
theorem dX11_rowsWith_9 : decode cX11_rowsWith 9 = .ok (.getfield 311, 3) := by decide +kernel
theorem dX11_rowsWith_12 : decode cX11_rowsWith 12 = .ok (.if_icmp .ge 53, 3) := by decide +kernel
theorem dX11_rowsWith_15 : decode cX11_rowsWith 15 = .ok (.iload 4, 2) := by decide +kernel
theorem dX11_rowsWith_17 : decode cX11_rowsWith 17 = .ok (.iload_n 3, 1) := by decide +kernel
theorem dX11_rowsWith_18 : decode cX11_rowsWith 18 = .ok (.ifCond .ge 7, 3) := by decide +kernel
theorem dX11_rowsWith_21 : decode cX11_rowsWith 21 = .ok (.iconst 0, 1) := by decide +kernel
theorem dX11_rowsWith_22 : decode cX11_rowsWith 22 = .ok (.goto 12, 3) := by decide +kernel
theorem dX11_rowsWith_25 : decode cX11_rowsWith 25 = .ok (.iload_n 2, 1) := by decide +kernel
theorem dX11_rowsWith_26 : decode cX11_rowsWith 26 = .ok (.aload_n 0, 1) := by decide +kernel
theorem dX11_rowsWith_27 : decode cX11_rowsWith 27 = .ok (.iload 6, 2) := by decide +kernel
theorem dX11_rowsWith_29 : decode cX11_rowsWith 29 = .ok (.iload_n 3, 1) := by decide +kernel
theorem dX11_rowsWith_30 : decode cX11_rowsWith 30 = .ok (.invokevirtual 351, 3) := by decide +kernel
theorem dX11_rowsWith_33 : decode cX11_rowsWith 33 = .ok (.imul, 1) := by decide +kernel
theorem dX11_rowsWith_34 : decode cX11_rowsWith 34 = .ok (.iadd, 1) := by decide +kernel
theorem dX11_rowsWith_35 : decode cX11_rowsWith 35 = .ok (.istore 7, 2) := by decide +kernel
theorem dX11_rowsWith_37 : decode cX11_rowsWith 37 = .ok (.iload 5, 2) := by decide +kernel
theorem dX11_rowsWith_39 : decode cX11_rowsWith 39 = .ok (.aload_n 0, 1) := by decide +kernel
theorem dX11_rowsWith_40 : decode cX11_rowsWith 40 = .ok (.iload 6, 2) := by decide +kernel
theorem dX11_rowsWith_42 : decode cX11_rowsWith 42 = .ok (.iload_n 1, 1) := by decide +kernel
theorem dX11_rowsWith_43 : decode cX11_rowsWith 43 = .ok (.invokevirtual 351, 3) := by decide +kernel
theorem dX11_rowsWith_46 : decode cX11_rowsWith 46 = .ok (.iload 7, 2) := by decide +kernel
theorem dX11_rowsWith_48 : decode cX11_rowsWith 48 = .ok (.if_icmp .ne 7, 3) := by decide +kernel
theorem dX11_rowsWith_51 : decode cX11_rowsWith 51 = .ok (.iconst 1, 1) := by decide +kernel
theorem dX11_rowsWith_52 : decode cX11_rowsWith 52 = .ok (.goto 4, 3) := by decide +kernel
theorem dX11_rowsWith_55 : decode cX11_rowsWith 55 = .ok (.iconst 0, 1) := by decide +kernel
theorem dX11_rowsWith_56 : decode cX11_rowsWith 56 = .ok (.iadd, 1) := by decide +kernel
theorem dX11_rowsWith_57 : decode cX11_rowsWith 57 = .ok (.istore 5, 2) := by decide +kernel
theorem dX11_rowsWith_59 : decode cX11_rowsWith 59 = .ok (.iinc 6 1, 3) := by decide +kernel
theorem dX11_rowsWith_62 : decode cX11_rowsWith 62 = .ok (.goto (-56), 3) := by decide +kernel
theorem dX11_rowsWith_65 : decode cX11_rowsWith 65 = .ok (.iload 5, 2) := by decide +kernel
theorem dX11_rowsWith_67 : decode cX11_rowsWith 67 = .ok (.ireturn, 1) := by decide +kernel
theorem dX11_triesTwo_0 : decode cX11_triesTwo 0 = .ok (.aload_n 0, 1) := by decide +kernel
theorem dX11_triesTwo_1 : decode cX11_triesTwo 1 = .ok (.iconst 0, 1) := by decide +kernel
theorem dX11_triesTwo_2 : decode cX11_triesTwo 2 = .ok (.iload_n 1, 1) := by decide +kernel
theorem dX11_triesTwo_3 : decode cX11_triesTwo 3 = .ok (.invokevirtual 351, 3) := by decide +kernel
theorem dX11_triesTwo_6 : decode cX11_triesTwo 6 = .ok (.aload_n 0, 1) := by decide +kernel
theorem dX11_triesTwo_7 : decode cX11_triesTwo 7 = .ok (.iconst 0, 1) := by decide +kernel
theorem dX11_triesTwo_8 : decode cX11_triesTwo 8 = .ok (.iload_n 2, 1) := by decide +kernel
theorem dX11_triesTwo_9 : decode cX11_triesTwo 9 = .ok (.invokevirtual 351, 3) := by decide +kernel
theorem dX11_triesTwo_12 : decode cX11_triesTwo 12 = .ok (.isub, 1) := by decide +kernel
theorem dX11_triesTwo_13 : decode cX11_triesTwo 13 = .ok (.istore_n 3, 1) := by decide +kernel
theorem dX11_triesTwo_14 : decode cX11_triesTwo 14 = .ok (.iload_n 3, 1) := by decide +kernel
theorem dX11_triesTwo_15 : decode cX11_triesTwo 15 = .ok (.ifCond .le 29, 3) := by decide +kernel
theorem dX11_triesTwo_18 : decode cX11_triesTwo 18 = .ok (.aload_n 0, 1) := by decide +kernel
theorem dX11_triesTwo_19 : decode cX11_triesTwo 19 = .ok (.iload_n 1, 1) := by decide +kernel
theorem dX11_triesTwo_20 : decode cX11_triesTwo 20 = .ok (.iconst 1, 1) := by decide +kernel
theorem dX11_triesTwo_21 : decode cX11_triesTwo 21 = .ok (.iload_n 2, 1) := by decide +kernel
theorem dX11_triesTwo_22 : decode cX11_triesTwo 22 = .ok (.iload_n 3, 1) := by decide +kernel
theorem dX11_triesTwo_23 : decode cX11_triesTwo 23 = .ok (.invokevirtual 354, 3) := by decide +kernel
theorem dX11_triesTwo_26 : decode cX11_triesTwo 26 = .ok (.iconst 1, 1) := by decide +kernel
theorem dX11_triesTwo_27 : decode cX11_triesTwo 27 = .ok (.if_icmp .ne 17, 3) := by decide +kernel
theorem dX11_triesTwo_30 : decode cX11_triesTwo 30 = .ok (.aload_n 0, 1) := by decide +kernel
theorem dX11_triesTwo_31 : decode cX11_triesTwo 31 = .ok (.iconst 4, 1) := by decide +kernel
theorem dX11_triesTwo_32 : decode cX11_triesTwo 32 = .ok (.iload_n 3, 1) := by decide +kernel
theorem dX11_triesTwo_33 : decode cX11_triesTwo 33 = .ok (.invokestatic 358, 3) := by decide +kernel
theorem dX11_triesTwo_36 : decode cX11_triesTwo 36 = .ok (.iadd, 1) := by decide +kernel
theorem dX11_triesTwo_37 : decode cX11_triesTwo 37 = .ok (.iconst 1, 1) := by decide +kernel
theorem dX11_triesTwo_38 : decode cX11_triesTwo 38 = .ok (.iload_n 1, 1) := by decide +kernel
theorem dX11_triesTwo_39 : decode cX11_triesTwo 39 = .ok (.iload_n 2, 1) := by decide +kernel
theorem dX11_triesTwo_40 : decode cX11_triesTwo 40 = .ok (.iload_n 3, 1) := by decide +kernel
theorem dX11_triesTwo_41 : decode cX11_triesTwo 41 = .ok (.invokevirtual 361, 3) := by decide +kernel
theorem dX11_triesTwo_44 : decode cX11_triesTwo 44 = .ok (.iconst 2, 1) := by decide +kernel
theorem dX11_triesTwo_45 : decode cX11_triesTwo 45 = .ok (.istore 4, 2) := by decide +kernel
theorem dX11_triesTwo_47 : decode cX11_triesTwo 47 = .ok (.iload 4, 2) := by decide +kernel
theorem dX11_triesTwo_49 : decode cX11_triesTwo 49 = .ok (.bipush 99, 2) := by decide +kernel
theorem dX11_triesTwo_51 : decode cX11_triesTwo 51 = .ok (.if_icmp .gt 68, 3) := by decide +kernel
theorem dX11_triesTwo_54 : decode cX11_triesTwo 54 = .ok (.aload_n 0, 1) := by decide +kernel
theorem dX11_triesTwo_55 : decode cX11_triesTwo 55 = .ok (.iconst 0, 1) := by decide +kernel
theorem dX11_triesTwo_56 : decode cX11_triesTwo 56 = .ok (.iload_n 2, 1) := by decide +kernel
theorem dX11_triesTwo_57 : decode cX11_triesTwo 57 = .ok (.invokevirtual 351, 3) := by decide +kernel
theorem dX11_triesTwo_60 : decode cX11_triesTwo 60 = .ok (.ifCond .eq 53, 3) := by decide +kernel
theorem dX11_triesTwo_63 : decode cX11_triesTwo 63 = .ok (.aload_n 0, 1) := by decide +kernel
theorem dX11_triesTwo_64 : decode cX11_triesTwo 64 = .ok (.iconst 0, 1) := by decide +kernel
theorem dX11_triesTwo_65 : decode cX11_triesTwo 65 = .ok (.iload_n 1, 1) := by decide +kernel
theorem dX11_triesTwo_66 : decode cX11_triesTwo 66 = .ok (.invokevirtual 351, 3) := by decide +kernel
theorem dX11_triesTwo_69 : decode cX11_triesTwo 69 = .ok (.iload 4, 2) := by decide +kernel
theorem dX11_triesTwo_71 : decode cX11_triesTwo 71 = .ok (.aload_n 0, 1) := by decide +kernel
theorem dX11_triesTwo_72 : decode cX11_triesTwo 72 = .ok (.iconst 0, 1) := by decide +kernel
theorem dX11_triesTwo_73 : decode cX11_triesTwo 73 = .ok (.iload_n 2, 1) := by decide +kernel
theorem dX11_triesTwo_74 : decode cX11_triesTwo 74 = .ok (.invokevirtual 351, 3) := by decide +kernel
theorem dX11_triesTwo_77 : decode cX11_triesTwo 77 = .ok (.imul, 1) := by decide +kernel
theorem dX11_triesTwo_78 : decode cX11_triesTwo 78 = .ok (.if_icmp .ne 35, 3) := by decide +kernel
theorem dX11_triesTwo_81 : decode cX11_triesTwo 81 = .ok (.aload_n 0, 1) := by decide +kernel
theorem dX11_triesTwo_82 : decode cX11_triesTwo 82 = .ok (.iload_n 1, 1) := by decide +kernel
theorem dX11_triesTwo_83 : decode cX11_triesTwo 83 = .ok (.iload 4, 2) := by decide +kernel
theorem dX11_triesTwo_85 : decode cX11_triesTwo 85 = .ok (.iload_n 2, 1) := by decide +kernel
theorem dX11_triesTwo_86 : decode cX11_triesTwo 86 = .ok (.iconst 0, 1) := by decide +kernel
theorem dX11_triesTwo_87 : decode cX11_triesTwo 87 = .ok (.invokevirtual 354, 3) := by decide +kernel
theorem dX11_triesTwo_90 : decode cX11_triesTwo 90 = .ok (.iconst 1, 1) := by decide +kernel
theorem dX11_triesTwo_91 : decode cX11_triesTwo 91 = .ok (.if_icmp .eq 6, 3) := by decide +kernel
theorem dX11_triesTwo_94 : decode cX11_triesTwo 94 = .ok (.goto 19, 3) := by decide +kernel
theorem dX11_triesTwo_97 : decode cX11_triesTwo 97 = .ok (.aload_n 0, 1) := by decide +kernel
theorem dX11_triesTwo_98 : decode cX11_triesTwo 98 = .ok (.iconst 4, 1) := by decide +kernel
theorem dX11_triesTwo_99 : decode cX11_triesTwo 99 = .ok (.iload 4, 2) := by decide +kernel
theorem dX11_triesTwo_101 : decode cX11_triesTwo 101 = .ok (.invokestatic 358, 3) := by decide +kernel
theorem dX11_triesTwo_104 : decode cX11_triesTwo 104 = .ok (.iadd, 1) := by decide +kernel
theorem dX11_triesTwo_105 : decode cX11_triesTwo 105 = .ok (.iconst 2, 1) := by decide +kernel
theorem dX11_triesTwo_106 : decode cX11_triesTwo 106 = .ok (.iload_n 1, 1) := by decide +kernel
theorem dX11_triesTwo_107 : decode cX11_triesTwo 107 = .ok (.iload_n 2, 1) := by decide +kernel
theorem dX11_triesTwo_108 : decode cX11_triesTwo 108 = .ok (.iload 4, 2) := by decide +kernel
theorem dX11_triesTwo_110 : decode cX11_triesTwo 110 = .ok (.invokevirtual 361, 3) := by decide +kernel
theorem dX11_triesTwo_113 : decode cX11_triesTwo 113 = .ok (.iinc 4 1, 3) := by decide +kernel
theorem dX11_triesTwo_116 : decode cX11_triesTwo 116 = .ok (.goto (-69), 3) := by decide +kernel
theorem dX11_triesTwo_119 : decode cX11_triesTwo 119 = .ok (.return_, 1) := by decide +kernel
theorem dX11_shortest_0 : decode cX11_shortest 0 = .ok (.aload_n 0, 1) := by decide +kernel
theorem dX11_shortest_1 : decode cX11_shortest 1 = .ok (.iload_n 1, 1) := by decide +kernel
theorem dX11_shortest_2 : decode cX11_shortest 2 = .ok (.invokevirtual 285, 3) := by decide +kernel
theorem dX11_shortest_5 : decode cX11_shortest 5 = .ok (.ifCond .eq 12, 3) := by decide +kernel
theorem dX11_shortest_8 : decode cX11_shortest 8 = .ok (.iload_n 2, 1) := by decide +kernel
theorem dX11_shortest_9 : decode cX11_shortest 9 = .ok (.iconst 0, 1) := by decide +kernel
theorem dX11_shortest_10 : decode cX11_shortest 10 = .ok (.iconst 4, 1) := by decide +kernel
theorem dX11_shortest_11 : decode cX11_shortest 11 = .ok (.invokestatic 137, 3) := by decide +kernel
theorem dX11_shortest_14 : decode cX11_shortest 14 = .ok (.ifCond .ne 5, 3) := by decide +kernel
theorem dX11_shortest_17 : decode cX11_shortest 17 = .ok (.iconst (-1), 1) := by decide +kernel
theorem dX11_shortest_18 : decode cX11_shortest 18 = .ok (.ireturn, 1) := by decide +kernel
theorem dX11_shortest_19 : decode cX11_shortest 19 = .ok (.aload_n 0, 1) := by decide +kernel
theorem dX11_shortest_20 : decode cX11_shortest 20 = .ok (.iload_n 1, 1) := by decide +kernel
theorem dX11_shortest_21 : decode cX11_shortest 21 = .ok (.invokevirtual 320, 3) := by decide +kernel
theorem dX11_shortest_24 : decode cX11_shortest 24 = .ok (.ifCond .ne 6, 3) := by decide +kernel
theorem dX11_shortest_27 : decode cX11_shortest 27 = .ok (.bipush (-3), 2) := by decide +kernel
theorem dX11_shortest_29 : decode cX11_shortest 29 = .ok (.ireturn, 1) := by decide +kernel
theorem dX11_shortest_30 : decode cX11_shortest 30 = .ok (.aload_n 0, 1) := by decide +kernel
theorem dX11_shortest_31 : decode cX11_shortest 31 = .ok (.ldc_w 303, 3) := by decide +kernel
theorem dX11_shortest_34 : decode cX11_shortest 34 = .ok (.putfield 336, 3) := by decide +kernel
theorem dX11_shortest_37 : decode cX11_shortest 37 = .ok (.iconst 0, 1) := by decide +kernel
theorem dX11_shortest_38 : decode cX11_shortest 38 = .ok (.istore_n 3, 1) := by decide +kernel
theorem dX11_shortest_39 : decode cX11_shortest 39 = .ok (.iload_n 3, 1) := by decide +kernel
theorem dX11_shortest_40 : decode cX11_shortest 40 = .ok (.bipush 6, 2) := by decide +kernel
theorem dX11_shortest_42 : decode cX11_shortest 42 = .ok (.if_icmp .ge 98, 3) := by decide +kernel
theorem dX11_shortest_45 : decode cX11_shortest 45 = .ok (.aload_n 0, 1) := by decide +kernel
theorem dX11_shortest_46 : decode cX11_shortest 46 = .ok (.getfield 311, 3) := by decide +kernel
theorem dX11_shortest_49 : decode cX11_shortest 49 = .ok (.ifCond .le 91, 3) := by decide +kernel
theorem dX11_shortest_52 : decode cX11_shortest 52 = .ok (.aload_n 0, 1) := by decide +kernel
theorem dX11_shortest_53 : decode cX11_shortest 53 = .ok (.iload_n 3, 1) := by decide +kernel
theorem dX11_shortest_54 : decode cX11_shortest 54 = .ok (.invokevirtual 145, 3) := by decide +kernel
theorem dX11_shortest_57 : decode cX11_shortest 57 = .ok (.ifCond .ne 6, 3) := by decide +kernel
theorem dX11_shortest_60 : decode cX11_shortest 60 = .ok (.goto 74, 3) := by decide +kernel
theorem dX11_shortest_63 : decode cX11_shortest 63 = .ok (.aload_n 0, 1) := by decide +kernel
theorem dX11_shortest_64 : decode cX11_shortest 64 = .ok (.iconst 0, 1) := by decide +kernel
theorem dX11_shortest_65 : decode cX11_shortest 65 = .ok (.iload_n 3, 1) := by decide +kernel
theorem dX11_shortest_66 : decode cX11_shortest 66 = .ok (.invokevirtual 351, 3) := by decide +kernel
theorem dX11_shortest_69 : decode cX11_shortest 69 = .ok (.istore 4, 2) := by decide +kernel
theorem dX11_shortest_71 : decode cX11_shortest 71 = .ok (.aload_n 0, 1) := by decide +kernel
theorem dX11_shortest_72 : decode cX11_shortest 72 = .ok (.iload_n 3, 1) := by decide +kernel
theorem dX11_shortest_73 : decode cX11_shortest 73 = .ok (.iconst 0, 1) := by decide +kernel
theorem dX11_shortest_74 : decode cX11_shortest 74 = .ok (.iconst (-1), 1) := by decide +kernel
theorem dX11_shortest_75 : decode cX11_shortest 75 = .ok (.iload 4, 2) := by decide +kernel
theorem dX11_shortest_77 : decode cX11_shortest 77 = .ok (.invokevirtual 354, 3) := by decide +kernel
theorem dX11_shortest_80 : decode cX11_shortest 80 = .ok (.iconst 1, 1) := by decide +kernel
theorem dX11_shortest_81 : decode cX11_shortest 81 = .ok (.if_icmp .ne 20, 3) := by decide +kernel
theorem dX11_shortest_84 : decode cX11_shortest 84 = .ok (.aload_n 0, 1) := by decide +kernel
theorem dX11_shortest_85 : decode cX11_shortest 85 = .ok (.iconst 2, 1) := by decide +kernel
theorem dX11_shortest_86 : decode cX11_shortest 86 = .ok (.iload 4, 2) := by decide +kernel
theorem dX11_shortest_88 : decode cX11_shortest 88 = .ok (.invokestatic 358, 3) := by decide +kernel
theorem dX11_shortest_91 : decode cX11_shortest 91 = .ok (.iadd, 1) := by decide +kernel
theorem dX11_shortest_92 : decode cX11_shortest 92 = .ok (.iconst 0, 1) := by decide +kernel
theorem dX11_shortest_93 : decode cX11_shortest 93 = .ok (.iload_n 3, 1) := by decide +kernel
theorem dX11_shortest_94 : decode cX11_shortest 94 = .ok (.bipush (-2), 2) := by decide +kernel
theorem dX11_shortest_96 : decode cX11_shortest 96 = .ok (.iload 4, 2) := by decide +kernel
theorem dX11_shortest_98 : decode cX11_shortest 98 = .ok (.invokevirtual 361, 3) := by decide +kernel
theorem dX11_shortest_101 : decode cX11_shortest 101 = .ok (.iconst 0, 1) := by decide +kernel
theorem dX11_shortest_102 : decode cX11_shortest 102 = .ok (.istore 5, 2) := by decide +kernel
theorem dX11_shortest_104 : decode cX11_shortest 104 = .ok (.iload 5, 2) := by decide +kernel
theorem dX11_shortest_106 : decode cX11_shortest 106 = .ok (.bipush 6, 2) := by decide +kernel
theorem dX11_shortest_108 : decode cX11_shortest 108 = .ok (.if_icmp .ge 26, 3) := by decide +kernel
theorem dX11_shortest_111 : decode cX11_shortest 111 = .ok (.aload_n 0, 1) := by decide +kernel
theorem dX11_shortest_112 : decode cX11_shortest 112 = .ok (.iload_n 3, 1) := by decide +kernel
theorem dX11_shortest_113 : decode cX11_shortest 113 = .ok (.iload 5, 2) := by decide +kernel
theorem dX11_shortest_115 : decode cX11_shortest 115 = .ok (.invokevirtual 300, 3) := by decide +kernel
theorem dX11_shortest_118 : decode cX11_shortest 118 = .ok (.ifCond .eq 10, 3) := by decide +kernel
theorem dX11_shortest_121 : decode cX11_shortest 121 = .ok (.aload_n 0, 1) := by decide +kernel
theorem dX11_shortest_122 : decode cX11_shortest 122 = .ok (.iload_n 3, 1) := by decide +kernel
theorem dX11_shortest_123 : decode cX11_shortest 123 = .ok (.iload 5, 2) := by decide +kernel
theorem dX11_shortest_125 : decode cX11_shortest 125 = .ok (.invokevirtual 365, 3) := by decide +kernel
theorem dX11_shortest_128 : decode cX11_shortest 128 = .ok (.iinc 5 1, 3) := by decide +kernel
theorem dX11_shortest_131 : decode cX11_shortest 131 = .ok (.goto (-27), 3) := by decide +kernel
theorem dX11_shortest_134 : decode cX11_shortest 134 = .ok (.iinc 3 1, 3) := by decide +kernel
theorem dX11_shortest_137 : decode cX11_shortest 137 = .ok (.goto (-98), 3) := by decide +kernel
theorem dX11_shortest_140 : decode cX11_shortest 140 = .ok (.aload_n 0, 1) := by decide +kernel
theorem dX11_shortest_141 : decode cX11_shortest 141 = .ok (.getfield 336, 3) := by decide +kernel
theorem dX11_shortest_144 : decode cX11_shortest 144 = .ok (.ldc_w 303, 3) := by decide +kernel
theorem dX11_shortest_147 : decode cX11_shortest 147 = .ok (.if_icmp .ne 6, 3) := by decide +kernel
theorem dX11_shortest_150 : decode cX11_shortest 150 = .ok (.bipush (-2), 2) := by decide +kernel
theorem dX11_shortest_152 : decode cX11_shortest 152 = .ok (.ireturn, 1) := by decide +kernel
theorem dX11_shortest_153 : decode cX11_shortest 153 = .ok (.iload_n 2, 1) := by decide +kernel
theorem dX11_shortest_154 : decode cX11_shortest 154 = .ok (.ifCond .ne 10, 3) := by decide +kernel
theorem dX11_shortest_157 : decode cX11_shortest 157 = .ok (.aload_n 0, 1) := by decide +kernel
theorem dX11_shortest_158 : decode cX11_shortest 158 = .ok (.getfield 336, 3) := by decide +kernel
theorem dX11_shortest_161 : decode cX11_shortest 161 = .ok (.goto 43, 3) := by decide +kernel
theorem dX11_shortest_164 : decode cX11_shortest 164 = .ok (.iload_n 2, 1) := by decide +kernel
theorem dX11_shortest_165 : decode cX11_shortest 165 = .ok (.iconst 1, 1) := by decide +kernel
theorem dX11_shortest_166 : decode cX11_shortest 166 = .ok (.if_icmp .ne 10, 3) := by decide +kernel
theorem dX11_shortest_169 : decode cX11_shortest 169 = .ok (.aload_n 0, 1) := by decide +kernel
theorem dX11_shortest_170 : decode cX11_shortest 170 = .ok (.getfield 339, 3) := by decide +kernel
theorem dX11_shortest_173 : decode cX11_shortest 173 = .ok (.goto 31, 3) := by decide +kernel
theorem dX11_shortest_176 : decode cX11_shortest 176 = .ok (.iload_n 2, 1) := by decide +kernel
theorem dX11_shortest_177 : decode cX11_shortest 177 = .ok (.iconst 2, 1) := by decide +kernel
theorem dX11_shortest_178 : decode cX11_shortest 178 = .ok (.if_icmp .ne 10, 3) := by decide +kernel
theorem dX11_shortest_181 : decode cX11_shortest 181 = .ok (.aload_n 0, 1) := by decide +kernel
theorem dX11_shortest_182 : decode cX11_shortest 182 = .ok (.getfield 342, 3) := by decide +kernel
theorem dX11_shortest_185 : decode cX11_shortest 185 = .ok (.goto 19, 3) := by decide +kernel
theorem dX11_shortest_188 : decode cX11_shortest 188 = .ok (.iload_n 2, 1) := by decide +kernel
theorem dX11_shortest_189 : decode cX11_shortest 189 = .ok (.iconst 3, 1) := by decide +kernel
theorem dX11_shortest_190 : decode cX11_shortest 190 = .ok (.if_icmp .ne 10, 3) := by decide +kernel
theorem dX11_shortest_193 : decode cX11_shortest 193 = .ok (.aload_n 0, 1) := by decide +kernel
theorem dX11_shortest_194 : decode cX11_shortest 194 = .ok (.getfield 345, 3) := by decide +kernel
theorem dX11_shortest_197 : decode cX11_shortest 197 = .ok (.goto 7, 3) := by decide +kernel
theorem dX11_shortest_200 : decode cX11_shortest 200 = .ok (.aload_n 0, 1) := by decide +kernel
theorem dX11_shortest_201 : decode cX11_shortest 201 = .ok (.getfield 348, 3) := by decide +kernel
theorem dX11_shortest_204 : decode cX11_shortest 204 = .ok (.ireturn, 1) := by decide +kernel
theorem dX11_isTrue_0 : decode cX11_isTrue 0 = .ok (.aload_n 0, 1) := by decide +kernel
theorem dX11_isTrue_1 : decode cX11_isTrue 1 = .ok (.iload_n 1, 1) := by decide +kernel
theorem dX11_isTrue_2 : decode cX11_isTrue 2 = .ok (.invokevirtual 285, 3) := by decide +kernel
theorem dX11_isTrue_5 : decode cX11_isTrue 5 = .ok (.ifCond .eq 20, 3) := by decide +kernel
theorem dX11_isTrue_8 : decode cX11_isTrue 8 = .ok (.aload_n 0, 1) := by decide +kernel
theorem dX11_isTrue_9 : decode cX11_isTrue 9 = .ok (.iload_n 2, 1) := by decide +kernel
theorem dX11_isTrue_10 : decode cX11_isTrue 10 = .ok (.invokevirtual 263, 3) := by decide +kernel
theorem dX11_isTrue_13 : decode cX11_isTrue 13 = .ok (.ifCond .eq 12, 3) := by decide +kernel
theorem dX11_isTrue_16 : decode cX11_isTrue 16 = .ok (.iload_n 3, 1) := by decide +kernel
theorem dX11_isTrue_17 : decode cX11_isTrue 17 = .ok (.iconst 0, 1) := by decide +kernel
theorem dX11_isTrue_18 : decode cX11_isTrue 18 = .ok (.iconst 2, 1) := by decide +kernel
theorem dX11_isTrue_19 : decode cX11_isTrue 19 = .ok (.invokestatic 137, 3) := by decide +kernel
theorem dX11_isTrue_22 : decode cX11_isTrue 22 = .ok (.ifCond .ne 7, 3) := by decide +kernel
theorem dX11_isTrue_25 : decode cX11_isTrue 25 = .ok (.sipush (-204), 3) := by decide +kernel
theorem dX11_isTrue_28 : decode cX11_isTrue 28 = .ok (.ireturn, 1) := by decide +kernel
theorem dX11_isTrue_29 : decode cX11_isTrue 29 = .ok (.aload_n 0, 1) := by decide +kernel
theorem dX11_isTrue_30 : decode cX11_isTrue 30 = .ok (.invokevirtual 267, 3) := by decide +kernel
theorem dX11_isTrue_33 : decode cX11_isTrue 33 = .ok (.ldc_w 266, 3) := by decide +kernel
theorem dX11_isTrue_36 : decode cX11_isTrue 36 = .ok (.if_icmp .le 7, 3) := by decide +kernel
theorem dX11_isTrue_39 : decode cX11_isTrue 39 = .ok (.sipush (-203), 3) := by decide +kernel
theorem dX11_isTrue_42 : decode cX11_isTrue 42 = .ok (.ireturn, 1) := by decide +kernel
theorem dX11_isTrue_43 : decode cX11_isTrue 43 = .ok (.aload_n 0, 1) := by decide +kernel
theorem dX11_isTrue_44 : decode cX11_isTrue 44 = .ok (.iload_n 1, 1) := by decide +kernel
theorem dX11_isTrue_45 : decode cX11_isTrue 45 = .ok (.invokevirtual 288, 3) := by decide +kernel
theorem dX11_isTrue_48 : decode cX11_isTrue 48 = .ok (.ifCond .ne 7, 3) := by decide +kernel
theorem dX11_isTrue_51 : decode cX11_isTrue 51 = .ok (.sipush (-201), 3) := by decide +kernel
theorem dX11_isTrue_54 : decode cX11_isTrue 54 = .ok (.ireturn, 1) := by decide +kernel
theorem dX11_isTrue_55 : decode cX11_isTrue 55 = .ok (.iconst 0, 1) := by decide +kernel
theorem dX11_isTrue_56 : decode cX11_isTrue 56 = .ok (.istore 4, 2) := by decide +kernel
theorem dX11_isTrue_58 : decode cX11_isTrue 58 = .ok (.sipush (-200), 3) := by decide +kernel
theorem dX11_isTrue_61 : decode cX11_isTrue 61 = .ok (.istore 5, 2) := by decide +kernel
theorem dX11_isTrue_63 : decode cX11_isTrue 63 = .ok (.sipush (-200), 3) := by decide +kernel
theorem dX11_isTrue_66 : decode cX11_isTrue 66 = .ok (.istore 6, 2) := by decide +kernel
theorem dX11_isTrue_68 : decode cX11_isTrue 68 = .ok (.bipush (-99), 2) := by decide +kernel
theorem dX11_isTrue_70 : decode cX11_isTrue 70 = .ok (.istore 7, 2) := by decide +kernel
theorem dX11_isTrue_72 : decode cX11_isTrue 72 = .ok (.iload 7, 2) := by decide +kernel
theorem dX11_isTrue_74 : decode cX11_isTrue 74 = .ok (.bipush 99, 2) := by decide +kernel
theorem dX11_isTrue_76 : decode cX11_isTrue 76 = .ok (.if_icmp .gt 111, 3) := by decide +kernel
theorem dX11_isTrue_79 : decode cX11_isTrue 79 = .ok (.aload_n 0, 1) := by decide +kernel
theorem dX11_isTrue_80 : decode cX11_isTrue 80 = .ok (.getfield 25, 3) := by decide +kernel
theorem dX11_isTrue_83 : decode cX11_isTrue 83 = .ok (.iload_n 2, 1) := by decide +kernel
theorem dX11_isTrue_84 : decode cX11_isTrue 84 = .ok (.iaload, 1) := by decide +kernel
theorem dX11_isTrue_85 : decode cX11_isTrue 85 = .ok (.istore 8, 2) := by decide +kernel
theorem dX11_isTrue_87 : decode cX11_isTrue 87 = .ok (.iconst 0, 1) := by decide +kernel
theorem dX11_isTrue_88 : decode cX11_isTrue 88 = .ok (.istore 9, 2) := by decide +kernel
theorem dX11_isTrue_90 : decode cX11_isTrue 90 = .ok (.iload 9, 2) := by decide +kernel
theorem dX11_isTrue_92 : decode cX11_isTrue 92 = .ok (.bipush 6, 2) := by decide +kernel
theorem dX11_isTrue_94 : decode cX11_isTrue 94 = .ok (.if_icmp .ge 42, 3) := by decide +kernel
theorem dX11_isTrue_97 : decode cX11_isTrue 97 = .ok (.iload 8, 2) := by decide +kernel
theorem dX11_isTrue_99 : decode cX11_isTrue 99 = .ok (.aload_n 0, 1) := by decide +kernel
theorem dX11_isTrue_100 : decode cX11_isTrue 100 = .ok (.getfield 22, 3) := by decide +kernel
theorem dX11_isTrue_103 : decode cX11_isTrue 103 = .ok (.bipush 6, 2) := by decide +kernel
theorem dX11_isTrue_105 : decode cX11_isTrue 105 = .ok (.iload_n 2, 1) := by decide +kernel
theorem dX11_isTrue_106 : decode cX11_isTrue 106 = .ok (.imul, 1) := by decide +kernel
theorem dX11_isTrue_107 : decode cX11_isTrue 107 = .ok (.iload 9, 2) := by decide +kernel
theorem dX11_isTrue_109 : decode cX11_isTrue 109 = .ok (.iadd, 1) := by decide +kernel
theorem dX11_isTrue_110 : decode cX11_isTrue 110 = .ok (.iaload, 1) := by decide +kernel
theorem dX11_isTrue_111 : decode cX11_isTrue 111 = .ok (.aload_n 0, 1) := by decide +kernel
theorem dX11_isTrue_112 : decode cX11_isTrue 112 = .ok (.getfield 77, 3) := by decide +kernel
theorem dX11_isTrue_115 : decode cX11_isTrue 115 = .ok (.iload 9, 2) := by decide +kernel
theorem dX11_isTrue_117 : decode cX11_isTrue 117 = .ok (.iaload, 1) := by decide +kernel
theorem dX11_isTrue_118 : decode cX11_isTrue 118 = .ok (.aload_n 0, 1) := by decide +kernel
theorem dX11_isTrue_119 : decode cX11_isTrue 119 = .ok (.getfield 156, 3) := by decide +kernel
theorem dX11_isTrue_122 : decode cX11_isTrue 122 = .ok (.iadd, 1) := by decide +kernel
theorem dX11_isTrue_123 : decode cX11_isTrue 123 = .ok (.iload 7, 2) := by decide +kernel
theorem dX11_isTrue_125 : decode cX11_isTrue 125 = .ok (.iadd, 1) := by decide +kernel
theorem dX11_isTrue_126 : decode cX11_isTrue 126 = .ok (.imul, 1) := by decide +kernel
theorem dX11_isTrue_127 : decode cX11_isTrue 127 = .ok (.iadd, 1) := by decide +kernel
theorem dX11_isTrue_128 : decode cX11_isTrue 128 = .ok (.istore 8, 2) := by decide +kernel
theorem dX11_isTrue_130 : decode cX11_isTrue 130 = .ok (.iinc 9 1, 3) := by decide +kernel
theorem dX11_isTrue_133 : decode cX11_isTrue 133 = .ok (.goto (-43), 3) := by decide +kernel
theorem dX11_isTrue_136 : decode cX11_isTrue 136 = .ok (.aload_n 0, 1) := by decide +kernel
theorem dX11_isTrue_137 : decode cX11_isTrue 137 = .ok (.iload_n 2, 1) := by decide +kernel
theorem dX11_isTrue_138 : decode cX11_isTrue 138 = .ok (.iload 8, 2) := by decide +kernel
theorem dX11_isTrue_140 : decode cX11_isTrue 140 = .ok (.invokevirtual 273, 3) := by decide +kernel
theorem dX11_isTrue_143 : decode cX11_isTrue 143 = .ok (.ifCond .ne 6, 3) := by decide +kernel
theorem dX11_isTrue_146 : decode cX11_isTrue 146 = .ok (.goto 35, 3) := by decide +kernel
theorem dX11_isTrue_149 : decode cX11_isTrue 149 = .ok (.iload 4, 2) := by decide +kernel
theorem dX11_isTrue_151 : decode cX11_isTrue 151 = .ok (.iconst 1, 1) := by decide +kernel
theorem dX11_isTrue_152 : decode cX11_isTrue 152 = .ok (.iadd, 1) := by decide +kernel
theorem dX11_isTrue_153 : decode cX11_isTrue 153 = .ok (.istore 4, 2) := by decide +kernel
theorem dX11_isTrue_155 : decode cX11_isTrue 155 = .ok (.iload 7, 2) := by decide +kernel
theorem dX11_isTrue_157 : decode cX11_isTrue 157 = .ok (.ifCond .gt 7, 3) := by decide +kernel
theorem dX11_isTrue_160 : decode cX11_isTrue 160 = .ok (.iload 7, 2) := by decide +kernel
theorem dX11_isTrue_162 : decode cX11_isTrue 162 = .ok (.istore 5, 2) := by decide +kernel
theorem dX11_isTrue_164 : decode cX11_isTrue 164 = .ok (.iload 7, 2) := by decide +kernel
theorem dX11_isTrue_166 : decode cX11_isTrue 166 = .ok (.ifCond .le 15, 3) := by decide +kernel
theorem dX11_isTrue_169 : decode cX11_isTrue 169 = .ok (.iload 6, 2) := by decide +kernel
theorem dX11_isTrue_171 : decode cX11_isTrue 171 = .ok (.sipush (-200), 3) := by decide +kernel
theorem dX11_isTrue_174 : decode cX11_isTrue 174 = .ok (.if_icmp .ne 7, 3) := by decide +kernel
theorem dX11_isTrue_177 : decode cX11_isTrue 177 = .ok (.iload 7, 2) := by decide +kernel
theorem dX11_isTrue_179 : decode cX11_isTrue 179 = .ok (.istore 6, 2) := by decide +kernel
theorem dX11_isTrue_181 : decode cX11_isTrue 181 = .ok (.iinc 7 1, 3) := by decide +kernel
theorem dX11_isTrue_184 : decode cX11_isTrue 184 = .ok (.goto (-112), 3) := by decide +kernel
theorem dX11_isTrue_187 : decode cX11_isTrue 187 = .ok (.iload_n 3, 1) := by decide +kernel
theorem dX11_isTrue_188 : decode cX11_isTrue 188 = .ok (.ifCond .ne 8, 3) := by decide +kernel
theorem dX11_isTrue_191 : decode cX11_isTrue 191 = .ok (.iload 4, 2) := by decide +kernel
theorem dX11_isTrue_193 : decode cX11_isTrue 193 = .ok (.goto 15, 3) := by decide +kernel
theorem dX11_isTrue_196 : decode cX11_isTrue 196 = .ok (.iload_n 3, 1) := by decide +kernel
theorem dX11_isTrue_197 : decode cX11_isTrue 197 = .ok (.iconst 1, 1) := by decide +kernel
theorem dX11_isTrue_198 : decode cX11_isTrue 198 = .ok (.if_icmp .ne 8, 3) := by decide +kernel
theorem dX11_isTrue_201 : decode cX11_isTrue 201 = .ok (.iload 5, 2) := by decide +kernel
theorem dX11_isTrue_203 : decode cX11_isTrue 203 = .ok (.goto 5, 3) := by decide +kernel
theorem dX11_isTrue_206 : decode cX11_isTrue 206 = .ok (.iload 6, 2) := by decide +kernel
theorem dX11_isTrue_208 : decode cX11_isTrue 208 = .ok (.ireturn, 1) := by decide +kernel
theorem dX11_together_0 : decode cX11_together 0 = .ok (.aload_n 0, 1) := by decide +kernel
theorem dX11_together_1 : decode cX11_together 1 = .ok (.iload_n 1, 1) := by decide +kernel
theorem dX11_together_2 : decode cX11_together 2 = .ok (.invokevirtual 285, 3) := by decide +kernel
theorem dX11_together_5 : decode cX11_together 5 = .ok (.ifCond .eq 46, 3) := by decide +kernel
theorem dX11_together_8 : decode cX11_together 8 = .ok (.aload_n 0, 1) := by decide +kernel
theorem dX11_together_9 : decode cX11_together 9 = .ok (.iload_n 2, 1) := by decide +kernel
theorem dX11_together_10 : decode cX11_together 10 = .ok (.invokevirtual 145, 3) := by decide +kernel
theorem dX11_together_13 : decode cX11_together 13 = .ok (.ifCond .eq 38, 3) := by decide +kernel
theorem dX11_together_16 : decode cX11_together 16 = .ok (.iload_n 3, 1) := by decide +kernel
theorem dX11_together_17 : decode cX11_together 17 = .ok (.ifCond .lt 34, 3) := by decide +kernel
theorem dX11_together_20 : decode cX11_together 20 = .ok (.iload_n 3, 1) := by decide +kernel
theorem dX11_together_21 : decode cX11_together 21 = .ok (.aload_n 0, 1) := by decide +kernel
theorem dX11_together_22 : decode cX11_together 22 = .ok (.getfield 141, 3) := by decide +kernel
theorem dX11_together_25 : decode cX11_together 25 = .ok (.iconst (-1), 1) := by decide +kernel
theorem dX11_together_26 : decode cX11_together 26 = .ok (.ixor, 1) := by decide +kernel
theorem dX11_together_27 : decode cX11_together 27 = .ok (.iand, 1) := by decide +kernel
theorem dX11_together_28 : decode cX11_together 28 = .ok (.ifCond .ne 23, 3) := by decide +kernel
theorem dX11_together_31 : decode cX11_together 31 = .ok (.iload_n 3, 1) := by decide +kernel
theorem dX11_together_32 : decode cX11_together 32 = .ok (.iload_n 2, 1) := by decide +kernel
theorem dX11_together_33 : decode cX11_together 33 = .ok (.invokestatic 133, 3) := by decide +kernel
theorem dX11_together_36 : decode cX11_together 36 = .ok (.ifCond .ne 15, 3) := by decide +kernel
theorem dX11_together_39 : decode cX11_together 39 = .ok (.iload_n 3, 1) := by decide +kernel
theorem dX11_together_40 : decode cX11_together 40 = .ok (.invokestatic 256, 3) := by decide +kernel
theorem dX11_together_43 : decode cX11_together 43 = .ok (.iconst 2, 1) := by decide +kernel
theorem dX11_together_44 : decode cX11_together 44 = .ok (.iconst 5, 1) := by decide +kernel
theorem dX11_together_45 : decode cX11_together 45 = .ok (.invokestatic 137, 3) := by decide +kernel
theorem dX11_together_48 : decode cX11_together 48 = .ok (.ifCond .ne 7, 3) := by decide +kernel
theorem dX11_together_51 : decode cX11_together 51 = .ok (.sipush (-4000), 3) := by decide +kernel
theorem dX11_together_54 : decode cX11_together 54 = .ok (.ireturn, 1) := by decide +kernel
theorem dX11_together_55 : decode cX11_together 55 = .ok (.aload_n 0, 1) := by decide +kernel
theorem dX11_together_56 : decode cX11_together 56 = .ok (.invokevirtual 267, 3) := by decide +kernel
theorem dX11_together_59 : decode cX11_together 59 = .ok (.ldc_w 266, 3) := by decide +kernel
theorem dX11_together_62 : decode cX11_together 62 = .ok (.if_icmp .le 7, 3) := by decide +kernel
theorem dX11_together_65 : decode cX11_together 65 = .ok (.sipush (-3000), 3) := by decide +kernel
theorem dX11_together_68 : decode cX11_together 68 = .ok (.ireturn, 1) := by decide +kernel
theorem dX11_together_69 : decode cX11_together 69 = .ok (.aload_n 0, 1) := by decide +kernel
theorem dX11_together_70 : decode cX11_together 70 = .ok (.iload_n 1, 1) := by decide +kernel
theorem dX11_together_71 : decode cX11_together 71 = .ok (.invokevirtual 288, 3) := by decide +kernel
theorem dX11_together_74 : decode cX11_together 74 = .ok (.ifCond .ne 7, 3) := by decide +kernel
theorem dX11_together_77 : decode cX11_together 77 = .ok (.sipush (-2000), 3) := by decide +kernel
theorem dX11_together_80 : decode cX11_together 80 = .ok (.ireturn, 1) := by decide +kernel
theorem dX11_together_81 : decode cX11_together 81 = .ok (.aload_n 0, 1) := by decide +kernel
theorem dX11_together_82 : decode cX11_together 82 = .ok (.getfield 77, 3) := by decide +kernel
theorem dX11_together_85 : decode cX11_together 85 = .ok (.iload_n 2, 1) := by decide +kernel
theorem dX11_together_86 : decode cX11_together 86 = .ok (.iaload, 1) := by decide +kernel
theorem dX11_together_87 : decode cX11_together 87 = .ok (.aload_n 0, 1) := by decide +kernel
theorem dX11_together_88 : decode cX11_together 88 = .ok (.getfield 156, 3) := by decide +kernel
theorem dX11_together_91 : decode cX11_together 91 = .ok (.iadd, 1) := by decide +kernel
theorem dX11_together_92 : decode cX11_together 92 = .ok (.istore 4, 2) := by decide +kernel
theorem dX11_together_94 : decode cX11_together 94 = .ok (.iconst 0, 1) := by decide +kernel
theorem dX11_together_95 : decode cX11_together 95 = .ok (.istore 5, 2) := by decide +kernel
theorem dX11_together_97 : decode cX11_together 97 = .ok (.iload 5, 2) := by decide +kernel
theorem dX11_together_99 : decode cX11_together 99 = .ok (.bipush 6, 2) := by decide +kernel
theorem dX11_together_101 : decode cX11_together 101 = .ok (.if_icmp .ge 35, 3) := by decide +kernel
theorem dX11_together_104 : decode cX11_together 104 = .ok (.iload_n 3, 1) := by decide +kernel
theorem dX11_together_105 : decode cX11_together 105 = .ok (.iload 5, 2) := by decide +kernel
theorem dX11_together_107 : decode cX11_together 107 = .ok (.invokestatic 133, 3) := by decide +kernel
theorem dX11_together_110 : decode cX11_together 110 = .ok (.ifCond .eq 20, 3) := by decide +kernel
theorem dX11_together_113 : decode cX11_together 113 = .ok (.iload 4, 2) := by decide +kernel
theorem dX11_together_115 : decode cX11_together 115 = .ok (.aload_n 0, 1) := by decide +kernel
theorem dX11_together_116 : decode cX11_together 116 = .ok (.getfield 77, 3) := by decide +kernel
theorem dX11_together_119 : decode cX11_together 119 = .ok (.iload 5, 2) := by decide +kernel
theorem dX11_together_121 : decode cX11_together 121 = .ok (.iaload, 1) := by decide +kernel
theorem dX11_together_122 : decode cX11_together 122 = .ok (.isub, 1) := by decide +kernel
theorem dX11_together_123 : decode cX11_together 123 = .ok (.aload_n 0, 1) := by decide +kernel
theorem dX11_together_124 : decode cX11_together 124 = .ok (.getfield 156, 3) := by decide +kernel
theorem dX11_together_127 : decode cX11_together 127 = .ok (.isub, 1) := by decide +kernel
theorem dX11_together_128 : decode cX11_together 128 = .ok (.istore 4, 2) := by decide +kernel
theorem dX11_together_130 : decode cX11_together 130 = .ok (.iinc 5 1, 3) := by decide +kernel
theorem dX11_together_133 : decode cX11_together 133 = .ok (.goto (-36), 3) := by decide +kernel
theorem dX11_together_136 : decode cX11_together 136 = .ok (.iload_n 3, 1) := by decide +kernel
theorem dX11_together_137 : decode cX11_together 137 = .ok (.invokestatic 256, 3) := by decide +kernel
theorem dX11_together_140 : decode cX11_together 140 = .ok (.iconst 1, 1) := by decide +kernel
theorem dX11_together_141 : decode cX11_together 141 = .ok (.isub, 1) := by decide +kernel
theorem dX11_together_142 : decode cX11_together 142 = .ok (.istore 5, 2) := by decide +kernel
theorem dX11_together_144 : decode cX11_together 144 = .ok (.iload 4, 2) := by decide +kernel
theorem dX11_together_146 : decode cX11_together 146 = .ok (.iload 5, 2) := by decide +kernel
theorem dX11_together_148 : decode cX11_together 148 = .ok (.irem, 1) := by decide +kernel
theorem dX11_together_149 : decode cX11_together 149 = .ok (.ifCond .ne 11, 3) := by decide +kernel
theorem dX11_together_152 : decode cX11_together 152 = .ok (.iload 4, 2) := by decide +kernel
theorem dX11_together_154 : decode cX11_together 154 = .ok (.iload 5, 2) := by decide +kernel
theorem dX11_together_156 : decode cX11_together 156 = .ok (.idiv, 1) := by decide +kernel
theorem dX11_together_157 : decode cX11_together 157 = .ok (.goto 6, 3) := by decide +kernel
theorem dX11_together_160 : decode cX11_together 160 = .ok (.sipush (-1000), 3) := by decide +kernel
theorem dX11_together_163 : decode cX11_together 163 = .ok (.ireturn, 1) := by decide +kernel
theorem dX11_areTurned_0 : decode cX11_areTurned 0 = .ok (.iload_n 0, 1) := by decide +kernel
theorem dX11_areTurned_1 : decode cX11_areTurned 1 = .ok (.bipush 10, 2) := by decide +kernel
theorem dX11_areTurned_3 : decode cX11_areTurned 3 = .ok (.bipush 99, 2) := by decide +kernel
theorem dX11_areTurned_5 : decode cX11_areTurned 5 = .ok (.invokestatic 137, 3) := by decide +kernel
theorem dX11_areTurned_8 : decode cX11_areTurned 8 = .ok (.ifCond .eq 40, 3) := by decide +kernel
theorem dX11_areTurned_11 : decode cX11_areTurned 11 = .ok (.iload_n 1, 1) := by decide +kernel
theorem dX11_areTurned_12 : decode cX11_areTurned 12 = .ok (.bipush 10, 2) := by decide +kernel
theorem dX11_areTurned_14 : decode cX11_areTurned 14 = .ok (.bipush 99, 2) := by decide +kernel
theorem dX11_areTurned_16 : decode cX11_areTurned 16 = .ok (.invokestatic 137, 3) := by decide +kernel
theorem dX11_areTurned_19 : decode cX11_areTurned 19 = .ok (.ifCond .eq 29, 3) := by decide +kernel
theorem dX11_areTurned_22 : decode cX11_areTurned 22 = .ok (.iload_n 0, 1) := by decide +kernel
theorem dX11_areTurned_23 : decode cX11_areTurned 23 = .ok (.bipush 10, 2) := by decide +kernel
theorem dX11_areTurned_25 : decode cX11_areTurned 25 = .ok (.idiv, 1) := by decide +kernel
theorem dX11_areTurned_26 : decode cX11_areTurned 26 = .ok (.iload_n 1, 1) := by decide +kernel
theorem dX11_areTurned_27 : decode cX11_areTurned 27 = .ok (.bipush 10, 2) := by decide +kernel
theorem dX11_areTurned_29 : decode cX11_areTurned 29 = .ok (.irem, 1) := by decide +kernel
theorem dX11_areTurned_30 : decode cX11_areTurned 30 = .ok (.if_icmp .ne 18, 3) := by decide +kernel
theorem dX11_areTurned_33 : decode cX11_areTurned 33 = .ok (.iload_n 0, 1) := by decide +kernel
theorem dX11_areTurned_34 : decode cX11_areTurned 34 = .ok (.bipush 10, 2) := by decide +kernel
theorem dX11_areTurned_36 : decode cX11_areTurned 36 = .ok (.irem, 1) := by decide +kernel
theorem dX11_areTurned_37 : decode cX11_areTurned 37 = .ok (.iload_n 1, 1) := by decide +kernel
theorem dX11_areTurned_38 : decode cX11_areTurned 38 = .ok (.bipush 10, 2) := by decide +kernel
theorem dX11_areTurned_40 : decode cX11_areTurned 40 = .ok (.idiv, 1) := by decide +kernel
theorem dX11_areTurned_41 : decode cX11_areTurned 41 = .ok (.if_icmp .ne 7, 3) := by decide +kernel
theorem dX11_areTurned_44 : decode cX11_areTurned 44 = .ok (.iconst 1, 1) := by decide +kernel
theorem dX11_areTurned_45 : decode cX11_areTurned 45 = .ok (.goto 4, 3) := by decide +kernel
theorem dX11_areTurned_48 : decode cX11_areTurned 48 = .ok (.iconst 0, 1) := by decide +kernel
theorem dX11_areTurned_49 : decode cX11_areTurned 49 = .ok (.ireturn, 1) := by decide +kernel
theorem dX11_turned_0 : decode cX11_turned 0 = .ok (.aload_n 0, 1) := by decide +kernel
theorem dX11_turned_1 : decode cX11_turned 1 = .ok (.iload_n 1, 1) := by decide +kernel
theorem dX11_turned_2 : decode cX11_turned 2 = .ok (.invokevirtual 285, 3) := by decide +kernel
theorem dX11_turned_5 : decode cX11_turned 5 = .ok (.ifCond .eq 22, 3) := by decide +kernel
theorem dX11_turned_8 : decode cX11_turned 8 = .ok (.aload_n 0, 1) := by decide +kernel
theorem dX11_turned_9 : decode cX11_turned 9 = .ok (.iload_n 2, 1) := by decide +kernel
theorem dX11_turned_10 : decode cX11_turned 10 = .ok (.iload_n 3, 1) := by decide +kernel
theorem dX11_turned_11 : decode cX11_turned 11 = .ok (.invokevirtual 300, 3) := by decide +kernel
theorem dX11_turned_14 : decode cX11_turned 14 = .ok (.ifCond .eq 13, 3) := by decide +kernel
theorem dX11_turned_17 : decode cX11_turned 17 = .ok (.iload 4, 2) := by decide +kernel
theorem dX11_turned_19 : decode cX11_turned 19 = .ok (.iconst 0, 1) := by decide +kernel
theorem dX11_turned_20 : decode cX11_turned 20 = .ok (.iconst 1, 1) := by decide +kernel
theorem dX11_turned_21 : decode cX11_turned 21 = .ok (.invokestatic 137, 3) := by decide +kernel
theorem dX11_turned_24 : decode cX11_turned 24 = .ok (.ifCond .ne 5, 3) := by decide +kernel
theorem dX11_turned_27 : decode cX11_turned 27 = .ok (.iconst (-1), 1) := by decide +kernel
theorem dX11_turned_28 : decode cX11_turned 28 = .ok (.ireturn, 1) := by decide +kernel
theorem dX11_turned_29 : decode cX11_turned 29 = .ok (.aload_n 0, 1) := by decide +kernel
theorem dX11_turned_30 : decode cX11_turned 30 = .ok (.invokevirtual 267, 3) := by decide +kernel
theorem dX11_turned_33 : decode cX11_turned 33 = .ok (.ldc_w 266, 3) := by decide +kernel
theorem dX11_turned_36 : decode cX11_turned 36 = .ok (.if_icmp .le 6, 3) := by decide +kernel
theorem dX11_turned_39 : decode cX11_turned 39 = .ok (.bipush (-3), 2) := by decide +kernel
theorem dX11_turned_41 : decode cX11_turned 41 = .ok (.ireturn, 1) := by decide +kernel
theorem dX11_turned_42 : decode cX11_turned 42 = .ok (.aload_n 0, 1) := by decide +kernel
theorem dX11_turned_43 : decode cX11_turned 43 = .ok (.iload_n 1, 1) := by decide +kernel
theorem dX11_turned_44 : decode cX11_turned 44 = .ok (.invokevirtual 288, 3) := by decide +kernel
theorem dX11_turned_47 : decode cX11_turned 47 = .ok (.ifCond .ne 6, 3) := by decide +kernel
theorem dX11_turned_50 : decode cX11_turned 50 = .ok (.bipush (-2), 2) := by decide +kernel
theorem dX11_turned_52 : decode cX11_turned 52 = .ok (.ireturn, 1) := by decide +kernel
theorem dX11_turned_53 : decode cX11_turned 53 = .ok (.iconst 0, 1) := by decide +kernel
theorem dX11_turned_54 : decode cX11_turned 54 = .ok (.istore 5, 2) := by decide +kernel
theorem dX11_turned_56 : decode cX11_turned 56 = .ok (.bipush (-2), 2) := by decide +kernel
theorem dX11_turned_58 : decode cX11_turned 58 = .ok (.istore 6, 2) := by decide +kernel
theorem dX11_turned_60 : decode cX11_turned 60 = .ok (.iconst 0, 1) := by decide +kernel
theorem dX11_turned_61 : decode cX11_turned 61 = .ok (.istore 7, 2) := by decide +kernel
theorem dX11_turned_63 : decode cX11_turned 63 = .ok (.iload 7, 2) := by decide +kernel
theorem dX11_turned_65 : decode cX11_turned 65 = .ok (.bipush 100, 2) := by decide +kernel
theorem dX11_turned_67 : decode cX11_turned 67 = .ok (.if_icmp .ge 68, 3) := by decide +kernel
theorem dX11_turned_70 : decode cX11_turned 70 = .ok (.aload_n 0, 1) := by decide +kernel
theorem dX11_turned_71 : decode cX11_turned 71 = .ok (.getfield 77, 3) := by decide +kernel
theorem dX11_turned_74 : decode cX11_turned 74 = .ok (.iload_n 2, 1) := by decide +kernel
theorem dX11_turned_75 : decode cX11_turned 75 = .ok (.iaload, 1) := by decide +kernel
theorem dX11_turned_76 : decode cX11_turned 76 = .ok (.aload_n 0, 1) := by decide +kernel
theorem dX11_turned_77 : decode cX11_turned 77 = .ok (.getfield 156, 3) := by decide +kernel
theorem dX11_turned_80 : decode cX11_turned 80 = .ok (.iadd, 1) := by decide +kernel
theorem dX11_turned_81 : decode cX11_turned 81 = .ok (.iload 7, 2) := by decide +kernel
theorem dX11_turned_83 : decode cX11_turned 83 = .ok (.iadd, 1) := by decide +kernel
theorem dX11_turned_84 : decode cX11_turned 84 = .ok (.aload_n 0, 1) := by decide +kernel
theorem dX11_turned_85 : decode cX11_turned 85 = .ok (.getfield 77, 3) := by decide +kernel
theorem dX11_turned_88 : decode cX11_turned 88 = .ok (.iload_n 3, 1) := by decide +kernel
theorem dX11_turned_89 : decode cX11_turned 89 = .ok (.iaload, 1) := by decide +kernel
theorem dX11_turned_90 : decode cX11_turned 90 = .ok (.aload_n 0, 1) := by decide +kernel
theorem dX11_turned_91 : decode cX11_turned 91 = .ok (.getfield 156, 3) := by decide +kernel
theorem dX11_turned_94 : decode cX11_turned 94 = .ok (.iadd, 1) := by decide +kernel
theorem dX11_turned_95 : decode cX11_turned 95 = .ok (.iload 7, 2) := by decide +kernel
theorem dX11_turned_97 : decode cX11_turned 97 = .ok (.iadd, 1) := by decide +kernel
theorem dX11_turned_98 : decode cX11_turned 98 = .ok (.invokestatic 368, 3) := by decide +kernel
theorem dX11_turned_101 : decode cX11_turned 101 = .ok (.ifCond .ne 6, 3) := by decide +kernel
theorem dX11_turned_104 : decode cX11_turned 104 = .ok (.goto 25, 3) := by decide +kernel
theorem dX11_turned_107 : decode cX11_turned 107 = .ok (.iload 5, 2) := by decide +kernel
theorem dX11_turned_109 : decode cX11_turned 109 = .ok (.iconst 1, 1) := by decide +kernel
theorem dX11_turned_110 : decode cX11_turned 110 = .ok (.iadd, 1) := by decide +kernel
theorem dX11_turned_111 : decode cX11_turned 111 = .ok (.istore 5, 2) := by decide +kernel
theorem dX11_turned_113 : decode cX11_turned 113 = .ok (.iload 6, 2) := by decide +kernel
theorem dX11_turned_115 : decode cX11_turned 115 = .ok (.bipush (-2), 2) := by decide +kernel
theorem dX11_turned_117 : decode cX11_turned 117 = .ok (.if_icmp .ne 8, 3) := by decide +kernel
theorem dX11_turned_120 : decode cX11_turned 120 = .ok (.iload 7, 2) := by decide +kernel
theorem dX11_turned_122 : decode cX11_turned 122 = .ok (.goto 5, 3) := by decide +kernel
theorem dX11_turned_125 : decode cX11_turned 125 = .ok (.iload 6, 2) := by decide +kernel
theorem dX11_turned_127 : decode cX11_turned 127 = .ok (.istore 6, 2) := by decide +kernel
theorem dX11_turned_129 : decode cX11_turned 129 = .ok (.iinc 7 1, 3) := by decide +kernel
theorem dX11_turned_132 : decode cX11_turned 132 = .ok (.goto (-69), 3) := by decide +kernel
theorem dX11_turned_135 : decode cX11_turned 135 = .ok (.iload 4, 2) := by decide +kernel
theorem dX11_turned_137 : decode cX11_turned 137 = .ok (.ifCond .ne 8, 3) := by decide +kernel
theorem dX11_turned_140 : decode cX11_turned 140 = .ok (.iload 5, 2) := by decide +kernel
theorem dX11_turned_142 : decode cX11_turned 142 = .ok (.goto 5, 3) := by decide +kernel
theorem dX11_turned_145 : decode cX11_turned 145 = .ok (.iload 6, 2) := by decide +kernel
theorem dX11_turned_147 : decode cX11_turned 147 = .ok (.ireturn, 1) := by decide +kernel
theorem dX11_squaresIn_0 : decode cX11_squaresIn 0 = .ok (.iconst 0, 1) := by decide +kernel
theorem dX11_squaresIn_1 : decode cX11_squaresIn 1 = .ok (.istore_n 2, 1) := by decide +kernel
theorem dX11_squaresIn_2 : decode cX11_squaresIn 2 = .ok (.iconst 0, 1) := by decide +kernel
theorem dX11_squaresIn_3 : decode cX11_squaresIn 3 = .ok (.istore_n 3, 1) := by decide +kernel
theorem dX11_squaresIn_4 : decode cX11_squaresIn 4 = .ok (.iload_n 3, 1) := by decide +kernel
theorem dX11_squaresIn_5 : decode cX11_squaresIn 5 = .ok (.bipush 6, 2) := by decide +kernel
theorem dX11_squaresIn_7 : decode cX11_squaresIn 7 = .ok (.if_icmp .ge 87, 3) := by decide +kernel
theorem dX11_squaresIn_10 : decode cX11_squaresIn 10 = .ok (.iconst 0, 1) := by decide +kernel
theorem dX11_squaresIn_11 : decode cX11_squaresIn 11 = .ok (.istore 4, 2) := by decide +kernel
theorem dX11_squaresIn_13 : decode cX11_squaresIn 13 = .ok (.aload_n 0, 1) := by decide +kernel
theorem dX11_squaresIn_14 : decode cX11_squaresIn 14 = .ok (.iload_n 3, 1) := by decide +kernel
theorem dX11_squaresIn_15 : decode cX11_squaresIn 15 = .ok (.invokevirtual 145, 3) := by decide +kernel
theorem dX11_squaresIn_18 : decode cX11_squaresIn 18 = .ok (.ifCond .eq 33, 3) := by decide +kernel
theorem dX11_squaresIn_21 : decode cX11_squaresIn 21 = .ok (.iload 4, 2) := by decide +kernel
theorem dX11_squaresIn_23 : decode cX11_squaresIn 23 = .ok (.iload 4, 2) := by decide +kernel
theorem dX11_squaresIn_25 : decode cX11_squaresIn 25 = .ok (.imul, 1) := by decide +kernel
theorem dX11_squaresIn_26 : decode cX11_squaresIn 26 = .ok (.aload_n 0, 1) := by decide +kernel
theorem dX11_squaresIn_27 : decode cX11_squaresIn 27 = .ok (.getfield 77, 3) := by decide +kernel
theorem dX11_squaresIn_30 : decode cX11_squaresIn 30 = .ok (.iload_n 3, 1) := by decide +kernel
theorem dX11_squaresIn_31 : decode cX11_squaresIn 31 = .ok (.iaload, 1) := by decide +kernel
theorem dX11_squaresIn_32 : decode cX11_squaresIn 32 = .ok (.aload_n 0, 1) := by decide +kernel
theorem dX11_squaresIn_33 : decode cX11_squaresIn 33 = .ok (.getfield 156, 3) := by decide +kernel
theorem dX11_squaresIn_36 : decode cX11_squaresIn 36 = .ok (.iadd, 1) := by decide +kernel
theorem dX11_squaresIn_37 : decode cX11_squaresIn 37 = .ok (.iload_n 1, 1) := by decide +kernel
theorem dX11_squaresIn_38 : decode cX11_squaresIn 38 = .ok (.iadd, 1) := by decide +kernel
theorem dX11_squaresIn_39 : decode cX11_squaresIn 39 = .ok (.if_icmp .ge 12, 3) := by decide +kernel
theorem dX11_squaresIn_42 : decode cX11_squaresIn 42 = .ok (.iload 4, 2) := by decide +kernel
theorem dX11_squaresIn_44 : decode cX11_squaresIn 44 = .ok (.iconst 1, 1) := by decide +kernel
theorem dX11_squaresIn_45 : decode cX11_squaresIn 45 = .ok (.iadd, 1) := by decide +kernel
theorem dX11_squaresIn_46 : decode cX11_squaresIn 46 = .ok (.istore 4, 2) := by decide +kernel
theorem dX11_squaresIn_48 : decode cX11_squaresIn 48 = .ok (.goto (-35), 3) := by decide +kernel
theorem dX11_squaresIn_51 : decode cX11_squaresIn 51 = .ok (.iload_n 2, 1) := by decide +kernel
theorem dX11_squaresIn_52 : decode cX11_squaresIn 52 = .ok (.aload_n 0, 1) := by decide +kernel
theorem dX11_squaresIn_53 : decode cX11_squaresIn 53 = .ok (.iload_n 3, 1) := by decide +kernel
theorem dX11_squaresIn_54 : decode cX11_squaresIn 54 = .ok (.invokevirtual 145, 3) := by decide +kernel
theorem dX11_squaresIn_57 : decode cX11_squaresIn 57 = .ok (.ifCond .eq 28, 3) := by decide +kernel
theorem dX11_squaresIn_60 : decode cX11_squaresIn 60 = .ok (.iload 4, 2) := by decide +kernel
theorem dX11_squaresIn_62 : decode cX11_squaresIn 62 = .ok (.iload 4, 2) := by decide +kernel
theorem dX11_squaresIn_64 : decode cX11_squaresIn 64 = .ok (.imul, 1) := by decide +kernel
theorem dX11_squaresIn_65 : decode cX11_squaresIn 65 = .ok (.aload_n 0, 1) := by decide +kernel
theorem dX11_squaresIn_66 : decode cX11_squaresIn 66 = .ok (.getfield 77, 3) := by decide +kernel
theorem dX11_squaresIn_69 : decode cX11_squaresIn 69 = .ok (.iload_n 3, 1) := by decide +kernel
theorem dX11_squaresIn_70 : decode cX11_squaresIn 70 = .ok (.iaload, 1) := by decide +kernel
theorem dX11_squaresIn_71 : decode cX11_squaresIn 71 = .ok (.aload_n 0, 1) := by decide +kernel
theorem dX11_squaresIn_72 : decode cX11_squaresIn 72 = .ok (.getfield 156, 3) := by decide +kernel
theorem dX11_squaresIn_75 : decode cX11_squaresIn 75 = .ok (.iadd, 1) := by decide +kernel
theorem dX11_squaresIn_76 : decode cX11_squaresIn 76 = .ok (.iload_n 1, 1) := by decide +kernel
theorem dX11_squaresIn_77 : decode cX11_squaresIn 77 = .ok (.iadd, 1) := by decide +kernel
theorem dX11_squaresIn_78 : decode cX11_squaresIn 78 = .ok (.if_icmp .ne 7, 3) := by decide +kernel
theorem dX11_squaresIn_81 : decode cX11_squaresIn 81 = .ok (.iconst 1, 1) := by decide +kernel
theorem dX11_squaresIn_82 : decode cX11_squaresIn 82 = .ok (.goto 4, 3) := by decide +kernel
theorem dX11_squaresIn_85 : decode cX11_squaresIn 85 = .ok (.iconst 0, 1) := by decide +kernel
theorem dX11_squaresIn_86 : decode cX11_squaresIn 86 = .ok (.iadd, 1) := by decide +kernel
theorem dX11_squaresIn_87 : decode cX11_squaresIn 87 = .ok (.istore_n 2, 1) := by decide +kernel
theorem dX11_squaresIn_88 : decode cX11_squaresIn 88 = .ok (.iinc 3 1, 3) := by decide +kernel
theorem dX11_squaresIn_91 : decode cX11_squaresIn 91 = .ok (.goto (-87), 3) := by decide +kernel
theorem dX11_squaresIn_94 : decode cX11_squaresIn 94 = .ok (.iload_n 2, 1) := by decide +kernel
theorem dX11_squaresIn_95 : decode cX11_squaresIn 95 = .ok (.ireturn, 1) := by decide +kernel
theorem dX11_squares_0 : decode cX11_squares 0 = .ok (.aload_n 0, 1) := by decide +kernel
theorem dX11_squares_1 : decode cX11_squares 1 = .ok (.iload_n 1, 1) := by decide +kernel
theorem dX11_squares_2 : decode cX11_squares 2 = .ok (.invokevirtual 285, 3) := by decide +kernel
theorem dX11_squares_5 : decode cX11_squares 5 = .ok (.ifCond .eq 13, 3) := by decide +kernel
theorem dX11_squares_8 : decode cX11_squares 8 = .ok (.iload_n 2, 1) := by decide +kernel
theorem dX11_squares_9 : decode cX11_squares 9 = .ok (.iconst 0, 1) := by decide +kernel
theorem dX11_squares_10 : decode cX11_squares 10 = .ok (.bipush 100, 2) := by decide +kernel
theorem dX11_squares_12 : decode cX11_squares 12 = .ok (.invokestatic 137, 3) := by decide +kernel
theorem dX11_squares_15 : decode cX11_squares 15 = .ok (.ifCond .ne 5, 3) := by decide +kernel
theorem dX11_squares_18 : decode cX11_squares 18 = .ok (.iconst (-1), 1) := by decide +kernel
theorem dX11_squares_19 : decode cX11_squares 19 = .ok (.ireturn, 1) := by decide +kernel
theorem dX11_squares_20 : decode cX11_squares 20 = .ok (.aload_n 0, 1) := by decide +kernel
theorem dX11_squares_21 : decode cX11_squares 21 = .ok (.invokevirtual 267, 3) := by decide +kernel
theorem dX11_squares_24 : decode cX11_squares 24 = .ok (.ldc_w 266, 3) := by decide +kernel
theorem dX11_squares_27 : decode cX11_squares 27 = .ok (.if_icmp .le 6, 3) := by decide +kernel
theorem dX11_squares_30 : decode cX11_squares 30 = .ok (.bipush (-3), 2) := by decide +kernel
theorem dX11_squares_32 : decode cX11_squares 32 = .ok (.ireturn, 1) := by decide +kernel
theorem dX11_squares_33 : decode cX11_squares 33 = .ok (.aload_n 0, 1) := by decide +kernel
theorem dX11_squares_34 : decode cX11_squares 34 = .ok (.iload_n 1, 1) := by decide +kernel
theorem dX11_squares_35 : decode cX11_squares 35 = .ok (.invokevirtual 288, 3) := by decide +kernel
theorem dX11_squares_38 : decode cX11_squares 38 = .ok (.ifCond .ne 6, 3) := by decide +kernel
theorem dX11_squares_41 : decode cX11_squares 41 = .ok (.bipush (-2), 2) := by decide +kernel
theorem dX11_squares_43 : decode cX11_squares 43 = .ok (.ireturn, 1) := by decide +kernel
theorem dX11_squares_44 : decode cX11_squares 44 = .ok (.iload_n 2, 1) := by decide +kernel
theorem dX11_squares_45 : decode cX11_squares 45 = .ok (.bipush 100, 2) := by decide +kernel
theorem dX11_squares_47 : decode cX11_squares 47 = .ok (.if_icmp .ge 9, 3) := by decide +kernel
theorem dX11_squares_50 : decode cX11_squares 50 = .ok (.aload_n 0, 1) := by decide +kernel
theorem dX11_squares_51 : decode cX11_squares 51 = .ok (.iload_n 2, 1) := by decide +kernel
theorem dX11_squares_52 : decode cX11_squares 52 = .ok (.invokevirtual 371, 3) := by decide +kernel
theorem dX11_squares_55 : decode cX11_squares 55 = .ok (.ireturn, 1) := by decide +kernel
theorem dX11_squares_56 : decode cX11_squares 56 = .ok (.iconst 0, 1) := by decide +kernel
theorem dX11_squares_57 : decode cX11_squares 57 = .ok (.istore_n 3, 1) := by decide +kernel
theorem dX11_squares_58 : decode cX11_squares 58 = .ok (.iconst 1, 1) := by decide +kernel
theorem dX11_squares_59 : decode cX11_squares 59 = .ok (.istore 4, 2) := by decide +kernel
theorem dX11_squares_61 : decode cX11_squares 61 = .ok (.iload 4, 2) := by decide +kernel
theorem dX11_squares_63 : decode cX11_squares 63 = .ok (.bipush 100, 2) := by decide +kernel
theorem dX11_squares_65 : decode cX11_squares 65 = .ok (.if_icmp .ge 26, 3) := by decide +kernel
theorem dX11_squares_68 : decode cX11_squares 68 = .ok (.aload_n 0, 1) := by decide +kernel
theorem dX11_squares_69 : decode cX11_squares 69 = .ok (.iload 4, 2) := by decide +kernel
theorem dX11_squares_71 : decode cX11_squares 71 = .ok (.invokevirtual 371, 3) := by decide +kernel
theorem dX11_squares_74 : decode cX11_squares 74 = .ok (.aload_n 0, 1) := by decide +kernel
theorem dX11_squares_75 : decode cX11_squares 75 = .ok (.iload_n 3, 1) := by decide +kernel
theorem dX11_squares_76 : decode cX11_squares 76 = .ok (.invokevirtual 371, 3) := by decide +kernel
theorem dX11_squares_79 : decode cX11_squares 79 = .ok (.if_icmp .le 6, 3) := by decide +kernel
theorem dX11_squares_82 : decode cX11_squares 82 = .ok (.iload 4, 2) := by decide +kernel
theorem dX11_squares_84 : decode cX11_squares 84 = .ok (.istore_n 3, 1) := by decide +kernel
theorem dX11_squares_85 : decode cX11_squares 85 = .ok (.iinc 4 1, 3) := by decide +kernel
theorem dX11_squares_88 : decode cX11_squares 88 = .ok (.goto (-27), 3) := by decide +kernel
theorem dX11_squares_91 : decode cX11_squares 91 = .ok (.iload_n 3, 1) := by decide +kernel
theorem dX11_squares_92 : decode cX11_squares 92 = .ok (.ireturn, 1) := by decide +kernel
theorem dX11_when_0 : decode cX11_when 0 = .ok (.aload_n 0, 1) := by decide +kernel
theorem dX11_when_1 : decode cX11_when 1 = .ok (.iload_n 1, 1) := by decide +kernel
theorem dX11_when_2 : decode cX11_when 2 = .ok (.invokevirtual 285, 3) := by decide +kernel
theorem dX11_when_5 : decode cX11_when 5 = .ok (.ifCond .eq 31, 3) := by decide +kernel
theorem dX11_when_8 : decode cX11_when 8 = .ok (.aload_n 0, 1) := by decide +kernel
theorem dX11_when_9 : decode cX11_when 9 = .ok (.iload_n 2, 1) := by decide +kernel
theorem dX11_when_10 : decode cX11_when 10 = .ok (.invokevirtual 145, 3) := by decide +kernel
theorem dX11_when_13 : decode cX11_when 13 = .ok (.ifCond .eq 23, 3) := by decide +kernel
theorem dX11_when_16 : decode cX11_when 16 = .ok (.aload_n 0, 1) := by decide +kernel
theorem dX11_when_17 : decode cX11_when 17 = .ok (.iload_n 3, 1) := by decide +kernel
theorem dX11_when_18 : decode cX11_when 18 = .ok (.invokevirtual 145, 3) := by decide +kernel
theorem dX11_when_21 : decode cX11_when 21 = .ok (.ifCond .eq 15, 3) := by decide +kernel
theorem dX11_when_24 : decode cX11_when 24 = .ok (.iload 4, 2) := by decide +kernel
theorem dX11_when_26 : decode cX11_when 26 = .ok (.iconst 0, 1) := by decide +kernel
theorem dX11_when_27 : decode cX11_when 27 = .ok (.sipush 199, 3) := by decide +kernel
theorem dX11_when_30 : decode cX11_when 30 = .ok (.invokestatic 137, 3) := by decide +kernel
theorem dX11_when_33 : decode cX11_when 33 = .ok (.ifCond .ne 7, 3) := by decide +kernel
theorem dX11_when_36 : decode cX11_when 36 = .ok (.sipush (-4000), 3) := by decide +kernel
theorem dX11_when_39 : decode cX11_when 39 = .ok (.ireturn, 1) := by decide +kernel
theorem dX11_when_40 : decode cX11_when 40 = .ok (.aload_n 0, 1) := by decide +kernel
theorem dX11_when_41 : decode cX11_when 41 = .ok (.invokevirtual 267, 3) := by decide +kernel
theorem dX11_when_44 : decode cX11_when 44 = .ok (.ldc_w 266, 3) := by decide +kernel
theorem dX11_when_47 : decode cX11_when 47 = .ok (.if_icmp .le 7, 3) := by decide +kernel
theorem dX11_when_50 : decode cX11_when 50 = .ok (.sipush (-3000), 3) := by decide +kernel
theorem dX11_when_53 : decode cX11_when 53 = .ok (.ireturn, 1) := by decide +kernel
theorem dX11_when_54 : decode cX11_when 54 = .ok (.aload_n 0, 1) := by decide +kernel
theorem dX11_when_55 : decode cX11_when 55 = .ok (.iload_n 1, 1) := by decide +kernel
theorem dX11_when_56 : decode cX11_when 56 = .ok (.invokevirtual 288, 3) := by decide +kernel
theorem dX11_when_59 : decode cX11_when 59 = .ok (.ifCond .eq 22, 3) := by decide +kernel
theorem dX11_when_62 : decode cX11_when 62 = .ok (.aload_n 0, 1) := by decide +kernel
theorem dX11_when_63 : decode cX11_when 63 = .ok (.getfield 77, 3) := by decide +kernel
theorem dX11_when_66 : decode cX11_when 66 = .ok (.iload_n 2, 1) := by decide +kernel
theorem dX11_when_67 : decode cX11_when 67 = .ok (.iaload, 1) := by decide +kernel
theorem dX11_when_68 : decode cX11_when 68 = .ok (.aload_n 0, 1) := by decide +kernel
theorem dX11_when_69 : decode cX11_when 69 = .ok (.getfield 77, 3) := by decide +kernel
theorem dX11_when_72 : decode cX11_when 72 = .ok (.iload_n 3, 1) := by decide +kernel
theorem dX11_when_73 : decode cX11_when 73 = .ok (.iaload, 1) := by decide +kernel
theorem dX11_when_74 : decode cX11_when 74 = .ok (.isub, 1) := by decide +kernel
theorem dX11_when_75 : decode cX11_when 75 = .ok (.iload 4, 2) := by decide +kernel
theorem dX11_when_77 : decode cX11_when 77 = .ok (.iadd, 1) := by decide +kernel
theorem dX11_when_78 : decode cX11_when 78 = .ok (.goto 6, 3) := by decide +kernel
theorem dX11_when_81 : decode cX11_when 81 = .ok (.sipush (-1000), 3) := by decide +kernel
theorem dX11_when_84 : decode cX11_when 84 = .ok (.ireturn, 1) := by decide +kernel
theorem dX11_worth_0 : decode cX11_worth 0 = .ok (.aload_n 0, 1) := by decide +kernel
theorem dX11_worth_1 : decode cX11_worth 1 = .ok (.iload_n 1, 1) := by decide +kernel
theorem dX11_worth_2 : decode cX11_worth 2 = .ok (.invokevirtual 285, 3) := by decide +kernel
theorem dX11_worth_5 : decode cX11_worth 5 = .ok (.ifCond .eq 21, 3) := by decide +kernel
theorem dX11_worth_8 : decode cX11_worth 8 = .ok (.aload_n 0, 1) := by decide +kernel
theorem dX11_worth_9 : decode cX11_worth 9 = .ok (.iload_n 2, 1) := by decide +kernel
theorem dX11_worth_10 : decode cX11_worth 10 = .ok (.invokevirtual 317, 3) := by decide +kernel
theorem dX11_worth_13 : decode cX11_worth 13 = .ok (.ifCond .eq 13, 3) := by decide +kernel
theorem dX11_worth_16 : decode cX11_worth 16 = .ok (.aload_n 0, 1) := by decide +kernel
theorem dX11_worth_17 : decode cX11_worth 17 = .ok (.invokevirtual 267, 3) := by decide +kernel
theorem dX11_worth_20 : decode cX11_worth 20 = .ok (.ldc_w 266, 3) := by decide +kernel
theorem dX11_worth_23 : decode cX11_worth 23 = .ok (.if_icmp .le 5, 3) := by decide +kernel
theorem dX11_worth_26 : decode cX11_worth 26 = .ok (.iconst 0, 1) := by decide +kernel
theorem dX11_worth_27 : decode cX11_worth 27 = .ok (.ireturn, 1) := by decide +kernel
theorem dX11_worth_28 : decode cX11_worth 28 = .ok (.aload_n 0, 1) := by decide +kernel
theorem dX11_worth_29 : decode cX11_worth 29 = .ok (.iload_n 1, 1) := by decide +kernel
theorem dX11_worth_30 : decode cX11_worth 30 = .ok (.invokevirtual 288, 3) := by decide +kernel
theorem dX11_worth_33 : decode cX11_worth 33 = .ok (.ifCond .eq 14, 3) := by decide +kernel
theorem dX11_worth_36 : decode cX11_worth 36 = .ok (.aload_n 0, 1) := by decide +kernel
theorem dX11_worth_37 : decode cX11_worth 37 = .ok (.bipush 10, 2) := by decide +kernel
theorem dX11_worth_39 : decode cX11_worth 39 = .ok (.iload_n 2, 1) := by decide +kernel
theorem dX11_worth_40 : decode cX11_worth 40 = .ok (.iadd, 1) := by decide +kernel
theorem dX11_worth_41 : decode cX11_worth 41 = .ok (.invokevirtual 270, 3) := by decide +kernel
theorem dX11_worth_44 : decode cX11_worth 44 = .ok (.goto 4, 3) := by decide +kernel
theorem dX11_worth_47 : decode cX11_worth 47 = .ok (.iconst 0, 1) := by decide +kernel
theorem dX11_worth_48 : decode cX11_worth 48 = .ok (.ireturn, 1) := by decide +kernel
theorem dX11_between_0 : decode cX11_between 0 = .ok (.aload_n 0, 1) := by decide +kernel
theorem dX11_between_1 : decode cX11_between 1 = .ok (.iload_n 1, 1) := by decide +kernel
theorem dX11_between_2 : decode cX11_between 2 = .ok (.invokevirtual 285, 3) := by decide +kernel
theorem dX11_between_5 : decode cX11_between 5 = .ok (.ifCond .eq 30, 3) := by decide +kernel
theorem dX11_between_8 : decode cX11_between 8 = .ok (.aload_n 0, 1) := by decide +kernel
theorem dX11_between_9 : decode cX11_between 9 = .ok (.iload_n 2, 1) := by decide +kernel
theorem dX11_between_10 : decode cX11_between 10 = .ok (.invokevirtual 317, 3) := by decide +kernel
theorem dX11_between_13 : decode cX11_between 13 = .ok (.ifCond .eq 22, 3) := by decide +kernel
theorem dX11_between_16 : decode cX11_between 16 = .ok (.iload_n 3, 1) := by decide +kernel
theorem dX11_between_17 : decode cX11_between 17 = .ok (.iconst 0, 1) := by decide +kernel
theorem dX11_between_18 : decode cX11_between 18 = .ok (.iconst 1, 1) := by decide +kernel
theorem dX11_between_19 : decode cX11_between 19 = .ok (.invokestatic 137, 3) := by decide +kernel
theorem dX11_between_22 : decode cX11_between 22 = .ok (.ifCond .eq 13, 3) := by decide +kernel
theorem dX11_between_25 : decode cX11_between 25 = .ok (.aload_n 0, 1) := by decide +kernel
theorem dX11_between_26 : decode cX11_between 26 = .ok (.invokevirtual 267, 3) := by decide +kernel
theorem dX11_between_29 : decode cX11_between 29 = .ok (.ldc_w 266, 3) := by decide +kernel
theorem dX11_between_32 : decode cX11_between 32 = .ok (.if_icmp .le 5, 3) := by decide +kernel
theorem dX11_between_35 : decode cX11_between 35 = .ok (.iconst 0, 1) := by decide +kernel
theorem dX11_between_36 : decode cX11_between 36 = .ok (.ireturn, 1) := by decide +kernel
theorem dX11_between_37 : decode cX11_between 37 = .ok (.iconst 0, 1) := by decide +kernel
theorem dX11_between_38 : decode cX11_between 38 = .ok (.istore 4, 2) := by decide +kernel
theorem dX11_between_40 : decode cX11_between 40 = .ok (.iconst 0, 1) := by decide +kernel
theorem dX11_between_41 : decode cX11_between 41 = .ok (.istore 5, 2) := by decide +kernel
theorem dX11_between_43 : decode cX11_between 43 = .ok (.aload_n 0, 1) := by decide +kernel

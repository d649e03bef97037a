theorem dX11_between_44 : decode cX11_between 44 = .ok (.invokevirtual 276, 3) := by decide +kernel
theorem dX11_between_47 : decode cX11_between 47 = .ok (.iconst 1, 1) := by decide +kernel
theorem dX11_between_48 : decode cX11_between 48 = .ok (.istore 6, 2) := by decide +kernel
theorem dX11_between_50 : decode cX11_between 50 = .ok (.iload 6, 2) := by decide +kernel
theorem dX11_between_52 : decode cX11_between 52 = .ok (.ifCond .eq 63, 3) := by decide +kernel
theorem dX11_between_55 : decode cX11_between 55 = .ok (.aload_n 0, 1) := by decide +kernel
theorem dX11_between_56 : decode cX11_between 56 = .ok (.iload_n 1, 1) := by decide +kernel
theorem dX11_between_57 : decode cX11_between 57 = .ok (.invokevirtual 282, 3) := by decide +kernel
theorem dX11_between_60 : decode cX11_between 60 = .ok (.ifCond .eq 46, 3) := by decide +kernel
theorem dX11_between_63 : decode cX11_between 63 = .ok (.aload_n 0, 1) := by decide +kernel
theorem dX11_between_64 : decode cX11_between 64 = .ok (.bipush 10, 2) := by decide +kernel
theorem dX11_between_66 : decode cX11_between 66 = .ok (.iload_n 2, 1) := by decide +kernel
theorem dX11_between_67 : decode cX11_between 67 = .ok (.iadd, 1) := by decide +kernel
theorem dX11_between_68 : decode cX11_between 68 = .ok (.invokevirtual 270, 3) := by decide +kernel
theorem dX11_between_71 : decode cX11_between 71 = .ok (.istore 7, 2) := by decide +kernel
theorem dX11_between_73 : decode cX11_between 73 = .ok (.iload 5, 2) := by decide +kernel
theorem dX11_between_75 : decode cX11_between 75 = .ok (.ifCond .eq 24, 3) := by decide +kernel
theorem dX11_between_78 : decode cX11_between 78 = .ok (.iload_n 3, 1) := by decide +kernel
theorem dX11_between_79 : decode cX11_between 79 = .ok (.ifCond .ne 13, 3) := by decide +kernel
theorem dX11_between_82 : decode cX11_between 82 = .ok (.iload 7, 2) := by decide +kernel
theorem dX11_between_84 : decode cX11_between 84 = .ok (.iload 4, 2) := by decide +kernel
theorem dX11_between_86 : decode cX11_between 86 = .ok (.if_icmp .ge 17, 3) := by decide +kernel
theorem dX11_between_89 : decode cX11_between 89 = .ok (.goto 10, 3) := by decide +kernel
theorem dX11_between_92 : decode cX11_between 92 = .ok (.iload 7, 2) := by decide +kernel
theorem dX11_between_94 : decode cX11_between 94 = .ok (.iload 4, 2) := by decide +kernel
theorem dX11_between_96 : decode cX11_between 96 = .ok (.if_icmp .le 7, 3) := by decide +kernel
theorem dX11_between_99 : decode cX11_between 99 = .ok (.iload 7, 2) := by decide +kernel
theorem dX11_between_101 : decode cX11_between 101 = .ok (.istore 4, 2) := by decide +kernel
theorem dX11_between_103 : decode cX11_between 103 = .ok (.iconst 1, 1) := by decide +kernel
theorem dX11_between_104 : decode cX11_between 104 = .ok (.istore 5, 2) := by decide +kernel
theorem dX11_between_106 : decode cX11_between 106 = .ok (.aload_n 0, 1) := by decide +kernel
theorem dX11_between_107 : decode cX11_between 107 = .ok (.invokevirtual 279, 3) := by decide +kernel
theorem dX11_between_110 : decode cX11_between 110 = .ok (.istore 6, 2) := by decide +kernel
theorem dX11_between_112 : decode cX11_between 112 = .ok (.goto (-62), 3) := by decide +kernel
theorem dX11_between_115 : decode cX11_between 115 = .ok (.iload 4, 2) := by decide +kernel
theorem dX11_between_117 : decode cX11_between 117 = .ok (.ireturn, 1) := by decide +kernel
theorem dX11_readsPlaces_0 : decode cX11_readsPlaces 0 = .ok (.iload_n 1, 1) := by decide +kernel
theorem dX11_readsPlaces_1 : decode cX11_readsPlaces 1 = .ok (.istore_n 3, 1) := by decide +kernel
theorem dX11_readsPlaces_2 : decode cX11_readsPlaces 2 = .ok (.iconst 0, 1) := by decide +kernel
theorem dX11_readsPlaces_3 : decode cX11_readsPlaces 3 = .ok (.istore 4, 2) := by decide +kernel
theorem dX11_readsPlaces_5 : decode cX11_readsPlaces 5 = .ok (.iload_n 2, 1) := by decide +kernel
theorem dX11_readsPlaces_6 : decode cX11_readsPlaces 6 = .ok (.iconst 1, 1) := by decide +kernel
theorem dX11_readsPlaces_7 : decode cX11_readsPlaces 7 = .ok (.isub, 1) := by decide +kernel
theorem dX11_readsPlaces_8 : decode cX11_readsPlaces 8 = .ok (.istore 5, 2) := by decide +kernel
theorem dX11_readsPlaces_10 : decode cX11_readsPlaces 10 = .ok (.iload 5, 2) := by decide +kernel
theorem dX11_readsPlaces_12 : decode cX11_readsPlaces 12 = .ok (.ifCond .lt 54, 3) := by decide +kernel
theorem dX11_readsPlaces_15 : decode cX11_readsPlaces 15 = .ok (.aload_n 0, 1) := by decide +kernel
theorem dX11_readsPlaces_16 : decode cX11_readsPlaces 16 = .ok (.getfield 99, 3) := by decide +kernel
theorem dX11_readsPlaces_19 : decode cX11_readsPlaces 19 = .ok (.iload 5, 2) := by decide +kernel
theorem dX11_readsPlaces_21 : decode cX11_readsPlaces 21 = .ok (.iload_n 3, 1) := by decide +kernel
theorem dX11_readsPlaces_22 : decode cX11_readsPlaces 22 = .ok (.iload_n 2, 1) := by decide +kernel
theorem dX11_readsPlaces_23 : decode cX11_readsPlaces 23 = .ok (.irem, 1) := by decide +kernel
theorem dX11_readsPlaces_24 : decode cX11_readsPlaces 24 = .ok (.iastore, 1) := by decide +kernel
theorem dX11_readsPlaces_25 : decode cX11_readsPlaces 25 = .ok (.iload_n 3, 1) := by decide +kernel
theorem dX11_readsPlaces_26 : decode cX11_readsPlaces 26 = .ok (.iload_n 2, 1) := by decide +kernel
theorem dX11_readsPlaces_27 : decode cX11_readsPlaces 27 = .ok (.idiv, 1) := by decide +kernel
theorem dX11_readsPlaces_28 : decode cX11_readsPlaces 28 = .ok (.istore_n 3, 1) := by decide +kernel
theorem dX11_readsPlaces_29 : decode cX11_readsPlaces 29 = .ok (.iload 4, 2) := by decide +kernel
theorem dX11_readsPlaces_31 : decode cX11_readsPlaces 31 = .ok (.aload_n 0, 1) := by decide +kernel
theorem dX11_readsPlaces_32 : decode cX11_readsPlaces 32 = .ok (.getfield 99, 3) := by decide +kernel
theorem dX11_readsPlaces_35 : decode cX11_readsPlaces 35 = .ok (.iload 5, 2) := by decide +kernel
theorem dX11_readsPlaces_37 : decode cX11_readsPlaces 37 = .ok (.iaload, 1) := by decide +kernel
theorem dX11_readsPlaces_38 : decode cX11_readsPlaces 38 = .ok (.invokestatic 133, 3) := by decide +kernel
theorem dX11_readsPlaces_41 : decode cX11_readsPlaces 41 = .ok (.ifCond .eq 5, 3) := by decide +kernel
theorem dX11_readsPlaces_44 : decode cX11_readsPlaces 44 = .ok (.iconst 0, 1) := by decide +kernel
theorem dX11_readsPlaces_45 : decode cX11_readsPlaces 45 = .ok (.ireturn, 1) := by decide +kernel
theorem dX11_readsPlaces_46 : decode cX11_readsPlaces 46 = .ok (.iload 4, 2) := by decide +kernel
theorem dX11_readsPlaces_48 : decode cX11_readsPlaces 48 = .ok (.iconst 1, 1) := by decide +kernel
theorem dX11_readsPlaces_49 : decode cX11_readsPlaces 49 = .ok (.aload_n 0, 1) := by decide +kernel
theorem dX11_readsPlaces_50 : decode cX11_readsPlaces 50 = .ok (.getfield 99, 3) := by decide +kernel
theorem dX11_readsPlaces_53 : decode cX11_readsPlaces 53 = .ok (.iload 5, 2) := by decide +kernel
theorem dX11_readsPlaces_55 : decode cX11_readsPlaces 55 = .ok (.iaload, 1) := by decide +kernel
theorem dX11_readsPlaces_56 : decode cX11_readsPlaces 56 = .ok (.ishl, 1) := by decide +kernel
theorem dX11_readsPlaces_57 : decode cX11_readsPlaces 57 = .ok (.ior, 1) := by decide +kernel
theorem dX11_readsPlaces_58 : decode cX11_readsPlaces 58 = .ok (.istore 4, 2) := by decide +kernel
theorem dX11_readsPlaces_60 : decode cX11_readsPlaces 60 = .ok (.iinc 5 (-1), 3) := by decide +kernel
theorem dX11_readsPlaces_63 : decode cX11_readsPlaces 63 = .ok (.goto (-53), 3) := by decide +kernel
theorem dX11_readsPlaces_66 : decode cX11_readsPlaces 66 = .ok (.iconst 1, 1) := by decide +kernel
theorem dX11_readsPlaces_67 : decode cX11_readsPlaces 67 = .ok (.ireturn, 1) := by decide +kernel
theorem dX11_holdsAsTold_0 : decode cX11_holdsAsTold 0 = .ok (.aload_n 0, 1) := by decide +kernel
theorem dX11_holdsAsTold_1 : decode cX11_holdsAsTold 1 = .ok (.getfield 25, 3) := by decide +kernel
theorem dX11_holdsAsTold_4 : decode cX11_holdsAsTold 4 = .ok (.iload_n 1, 1) := by decide +kernel
theorem dX11_holdsAsTold_5 : decode cX11_holdsAsTold 5 = .ok (.iaload, 1) := by decide +kernel
theorem dX11_holdsAsTold_6 : decode cX11_holdsAsTold 6 = .ok (.istore_n 3, 1) := by decide +kernel
theorem dX11_holdsAsTold_7 : decode cX11_holdsAsTold 7 = .ok (.iconst 0, 1) := by decide +kernel
theorem dX11_holdsAsTold_8 : decode cX11_holdsAsTold 8 = .ok (.istore 4, 2) := by decide +kernel
theorem dX11_holdsAsTold_10 : decode cX11_holdsAsTold 10 = .ok (.iload 4, 2) := by decide +kernel
theorem dX11_holdsAsTold_12 : decode cX11_holdsAsTold 12 = .ok (.iload_n 2, 1) := by decide +kernel
theorem dX11_holdsAsTold_13 : decode cX11_holdsAsTold 13 = .ok (.if_icmp .ge 42, 3) := by decide +kernel
theorem dX11_holdsAsTold_16 : decode cX11_holdsAsTold 16 = .ok (.iload_n 3, 1) := by decide +kernel
theorem dX11_holdsAsTold_17 : decode cX11_holdsAsTold 17 = .ok (.aload_n 0, 1) := by decide +kernel
theorem dX11_holdsAsTold_18 : decode cX11_holdsAsTold 18 = .ok (.getfield 22, 3) := by decide +kernel
theorem dX11_holdsAsTold_21 : decode cX11_holdsAsTold 21 = .ok (.bipush 6, 2) := by decide +kernel
theorem dX11_holdsAsTold_23 : decode cX11_holdsAsTold 23 = .ok (.iload_n 1, 1) := by decide +kernel
theorem dX11_holdsAsTold_24 : decode cX11_holdsAsTold 24 = .ok (.imul, 1) := by decide +kernel
theorem dX11_holdsAsTold_25 : decode cX11_holdsAsTold 25 = .ok (.aload_n 0, 1) := by decide +kernel
theorem dX11_holdsAsTold_26 : decode cX11_holdsAsTold 26 = .ok (.getfield 105, 3) := by decide +kernel
theorem dX11_holdsAsTold_29 : decode cX11_holdsAsTold 29 = .ok (.iload 4, 2) := by decide +kernel
theorem dX11_holdsAsTold_31 : decode cX11_holdsAsTold 31 = .ok (.iaload, 1) := by decide +kernel
theorem dX11_holdsAsTold_32 : decode cX11_holdsAsTold 32 = .ok (.iadd, 1) := by decide +kernel
theorem dX11_holdsAsTold_33 : decode cX11_holdsAsTold 33 = .ok (.iaload, 1) := by decide +kernel
theorem dX11_holdsAsTold_34 : decode cX11_holdsAsTold 34 = .ok (.aload_n 0, 1) := by decide +kernel
theorem dX11_holdsAsTold_35 : decode cX11_holdsAsTold 35 = .ok (.getfield 96, 3) := by decide +kernel
theorem dX11_holdsAsTold_38 : decode cX11_holdsAsTold 38 = .ok (.aload_n 0, 1) := by decide +kernel
theorem dX11_holdsAsTold_39 : decode cX11_holdsAsTold 39 = .ok (.getfield 99, 3) := by decide +kernel
theorem dX11_holdsAsTold_42 : decode cX11_holdsAsTold 42 = .ok (.iload 4, 2) := by decide +kernel
theorem dX11_holdsAsTold_44 : decode cX11_holdsAsTold 44 = .ok (.iaload, 1) := by decide +kernel
theorem dX11_holdsAsTold_45 : decode cX11_holdsAsTold 45 = .ok (.iaload, 1) := by decide +kernel
theorem dX11_holdsAsTold_46 : decode cX11_holdsAsTold 46 = .ok (.imul, 1) := by decide +kernel
theorem dX11_holdsAsTold_47 : decode cX11_holdsAsTold 47 = .ok (.iadd, 1) := by decide +kernel
theorem dX11_holdsAsTold_48 : decode cX11_holdsAsTold 48 = .ok (.istore_n 3, 1) := by decide +kernel
theorem dX11_holdsAsTold_49 : decode cX11_holdsAsTold 49 = .ok (.iinc 4 1, 3) := by decide +kernel
theorem dX11_holdsAsTold_52 : decode cX11_holdsAsTold 52 = .ok (.goto (-42), 3) := by decide +kernel
theorem dX11_holdsAsTold_55 : decode cX11_holdsAsTold 55 = .ok (.aload_n 0, 1) := by decide +kernel
theorem dX11_holdsAsTold_56 : decode cX11_holdsAsTold 56 = .ok (.iload_n 1, 1) := by decide +kernel
theorem dX11_holdsAsTold_57 : decode cX11_holdsAsTold 57 = .ok (.iload_n 3, 1) := by decide +kernel
theorem dX11_holdsAsTold_58 : decode cX11_holdsAsTold 58 = .ok (.invokevirtual 273, 3) := by decide +kernel
theorem dX11_holdsAsTold_61 : decode cX11_holdsAsTold 61 = .ok (.ireturn, 1) := by decide +kernel
theorem dX11_holdAllAsTold_0 : decode cX11_holdAllAsTold 0 = .ok (.iconst 0, 1) := by decide +kernel
theorem dX11_holdAllAsTold_1 : decode cX11_holdAllAsTold 1 = .ok (.istore_n 3, 1) := by decide +kernel
theorem dX11_holdAllAsTold_2 : decode cX11_holdAllAsTold 2 = .ok (.iload_n 3, 1) := by decide +kernel
theorem dX11_holdAllAsTold_3 : decode cX11_holdAllAsTold 3 = .ok (.bipush 10, 2) := by decide +kernel
theorem dX11_holdAllAsTold_5 : decode cX11_holdAllAsTold 5 = .ok (.if_icmp .ge 28, 3) := by decide +kernel
theorem dX11_holdAllAsTold_8 : decode cX11_holdAllAsTold 8 = .ok (.iload_n 1, 1) := by decide +kernel
theorem dX11_holdAllAsTold_9 : decode cX11_holdAllAsTold 9 = .ok (.iload_n 3, 1) := by decide +kernel
theorem dX11_holdAllAsTold_10 : decode cX11_holdAllAsTold 10 = .ok (.invokestatic 133, 3) := by decide +kernel
theorem dX11_holdAllAsTold_13 : decode cX11_holdAllAsTold 13 = .ok (.ifCond .eq 14, 3) := by decide +kernel
theorem dX11_holdAllAsTold_16 : decode cX11_holdAllAsTold 16 = .ok (.aload_n 0, 1) := by decide +kernel
theorem dX11_holdAllAsTold_17 : decode cX11_holdAllAsTold 17 = .ok (.iload_n 3, 1) := by decide +kernel
theorem dX11_holdAllAsTold_18 : decode cX11_holdAllAsTold 18 = .ok (.iload_n 2, 1) := by decide +kernel
theorem dX11_holdAllAsTold_19 : decode cX11_holdAllAsTold 19 = .ok (.invokevirtual 374, 3) := by decide +kernel
theorem dX11_holdAllAsTold_22 : decode cX11_holdAllAsTold 22 = .ok (.ifCond .ne 5, 3) := by decide +kernel
theorem dX11_holdAllAsTold_25 : decode cX11_holdAllAsTold 25 = .ok (.iconst 0, 1) := by decide +kernel
theorem dX11_holdAllAsTold_26 : decode cX11_holdAllAsTold 26 = .ok (.ireturn, 1) := by decide +kernel
theorem dX11_holdAllAsTold_27 : decode cX11_holdAllAsTold 27 = .ok (.iinc 3 1, 3) := by decide +kernel
theorem dX11_holdAllAsTold_30 : decode cX11_holdAllAsTold 30 = .ok (.goto (-28), 3) := by decide +kernel
theorem dX11_holdAllAsTold_33 : decode cX11_holdAllAsTold 33 = .ok (.iconst 1, 1) := by decide +kernel
theorem dX11_holdAllAsTold_34 : decode cX11_holdAllAsTold 34 = .ok (.ireturn, 1) := by decide +kernel
theorem dX11_whoIsWho_0 : decode cX11_whoIsWho 0 = .ok (.iload_n 1, 1) := by decide +kernel
theorem dX11_whoIsWho_1 : decode cX11_whoIsWho 1 = .ok (.iconst 2, 1) := by decide +kernel
theorem dX11_whoIsWho_2 : decode cX11_whoIsWho 2 = .ok (.bipush 6, 2) := by decide +kernel
theorem dX11_whoIsWho_4 : decode cX11_whoIsWho 4 = .ok (.invokestatic 137, 3) := by decide +kernel
theorem dX11_whoIsWho_7 : decode cX11_whoIsWho 7 = .ok (.ifCond .eq 68, 3) := by decide +kernel
theorem dX11_whoIsWho_10 : decode cX11_whoIsWho 10 = .ok (.iload_n 2, 1) := by decide +kernel
theorem dX11_whoIsWho_11 : decode cX11_whoIsWho 11 = .ok (.ifCond .lt 64, 3) := by decide +kernel
theorem dX11_whoIsWho_14 : decode cX11_whoIsWho 14 = .ok (.iload_n 2, 1) := by decide +kernel
theorem dX11_whoIsWho_15 : decode cX11_whoIsWho 15 = .ok (.aload_n 0, 1) := by decide +kernel
theorem dX11_whoIsWho_16 : decode cX11_whoIsWho 16 = .ok (.getfield 141, 3) := by decide +kernel
theorem dX11_whoIsWho_19 : decode cX11_whoIsWho 19 = .ok (.iconst (-1), 1) := by decide +kernel
theorem dX11_whoIsWho_20 : decode cX11_whoIsWho 20 = .ok (.ixor, 1) := by decide +kernel
theorem dX11_whoIsWho_21 : decode cX11_whoIsWho 21 = .ok (.iand, 1) := by decide +kernel
theorem dX11_whoIsWho_22 : decode cX11_whoIsWho 22 = .ok (.ifCond .ne 53, 3) := by decide +kernel
theorem dX11_whoIsWho_25 : decode cX11_whoIsWho 25 = .ok (.iload_n 2, 1) := by decide +kernel
theorem dX11_whoIsWho_26 : decode cX11_whoIsWho 26 = .ok (.invokestatic 256, 3) := by decide +kernel
theorem dX11_whoIsWho_29 : decode cX11_whoIsWho 29 = .ok (.iload_n 1, 1) := by decide +kernel
theorem dX11_whoIsWho_30 : decode cX11_whoIsWho 30 = .ok (.if_icmp .ne 45, 3) := by decide +kernel
theorem dX11_whoIsWho_33 : decode cX11_whoIsWho 33 = .ok (.aload_n 0, 1) := by decide +kernel
theorem dX11_whoIsWho_34 : decode cX11_whoIsWho 34 = .ok (.iload_n 3, 1) := by decide +kernel
theorem dX11_whoIsWho_35 : decode cX11_whoIsWho 35 = .ok (.invokevirtual 285, 3) := by decide +kernel
theorem dX11_whoIsWho_38 : decode cX11_whoIsWho 38 = .ok (.ifCond .eq 37, 3) := by decide +kernel
theorem dX11_whoIsWho_41 : decode cX11_whoIsWho 41 = .ok (.iload 4, 2) := by decide +kernel
theorem dX11_whoIsWho_43 : decode cX11_whoIsWho 43 = .ok (.bipush 100, 2) := by decide +kernel
theorem dX11_whoIsWho_45 : decode cX11_whoIsWho 45 = .ok (.if_icmp .eq 22, 3) := by decide +kernel
theorem dX11_whoIsWho_48 : decode cX11_whoIsWho 48 = .ok (.iload 4, 2) := by decide +kernel
theorem dX11_whoIsWho_50 : decode cX11_whoIsWho 50 = .ok (.iconst 0, 1) := by decide +kernel
theorem dX11_whoIsWho_51 : decode cX11_whoIsWho 51 = .ok (.iconst 5, 1) := by decide +kernel
theorem dX11_whoIsWho_52 : decode cX11_whoIsWho 52 = .ok (.invokestatic 137, 3) := by decide +kernel
theorem dX11_whoIsWho_55 : decode cX11_whoIsWho 55 = .ok (.ifCond .eq 20, 3) := by decide +kernel
theorem dX11_whoIsWho_58 : decode cX11_whoIsWho 58 = .ok (.iload_n 2, 1) := by decide +kernel
theorem dX11_whoIsWho_59 : decode cX11_whoIsWho 59 = .ok (.iload 4, 2) := by decide +kernel
theorem dX11_whoIsWho_61 : decode cX11_whoIsWho 61 = .ok (.invokestatic 133, 3) := by decide +kernel
theorem dX11_whoIsWho_64 : decode cX11_whoIsWho 64 = .ok (.ifCond .eq 11, 3) := by decide +kernel
theorem dX11_whoIsWho_67 : decode cX11_whoIsWho 67 = .ok (.iload_n 1, 1) := by decide +kernel
theorem dX11_whoIsWho_68 : decode cX11_whoIsWho 68 = .ok (.aload_n 0, 1) := by decide +kernel
theorem dX11_whoIsWho_69 : decode cX11_whoIsWho 69 = .ok (.getfield 159, 3) := by decide +kernel
theorem dX11_whoIsWho_72 : decode cX11_whoIsWho 72 = .ok (.if_icmp .le 5, 3) := by decide +kernel
theorem dX11_whoIsWho_75 : decode cX11_whoIsWho 75 = .ok (.iconst (-1), 1) := by decide +kernel
theorem dX11_whoIsWho_76 : decode cX11_whoIsWho 76 = .ok (.ireturn, 1) := by decide +kernel
theorem dX11_whoIsWho_77 : decode cX11_whoIsWho 77 = .ok (.aload_n 0, 1) := by decide +kernel
theorem dX11_whoIsWho_78 : decode cX11_whoIsWho 78 = .ok (.iconst 0, 1) := by decide +kernel
theorem dX11_whoIsWho_79 : decode cX11_whoIsWho 79 = .ok (.putfield 159, 3) := by decide +kernel
theorem dX11_whoIsWho_82 : decode cX11_whoIsWho 82 = .ok (.iconst 1, 1) := by decide +kernel
theorem dX11_whoIsWho_83 : decode cX11_whoIsWho 83 = .ok (.istore 5, 2) := by decide +kernel
theorem dX11_whoIsWho_85 : decode cX11_whoIsWho 85 = .ok (.iconst 0, 1) := by decide +kernel
theorem dX11_whoIsWho_86 : decode cX11_whoIsWho 86 = .ok (.istore 6, 2) := by decide +kernel
theorem dX11_whoIsWho_88 : decode cX11_whoIsWho 88 = .ok (.iload 6, 2) := by decide +kernel
theorem dX11_whoIsWho_90 : decode cX11_whoIsWho 90 = .ok (.iload_n 1, 1) := by decide +kernel
theorem dX11_whoIsWho_91 : decode cX11_whoIsWho 91 = .ok (.if_icmp .ge 46, 3) := by decide +kernel
theorem dX11_whoIsWho_94 : decode cX11_whoIsWho 94 = .ok (.aload_n 0, 1) := by decide +kernel
theorem dX11_whoIsWho_95 : decode cX11_whoIsWho 95 = .ok (.getfield 96, 3) := by decide +kernel
theorem dX11_whoIsWho_98 : decode cX11_whoIsWho 98 = .ok (.iload 6, 2) := by decide +kernel
theorem dX11_whoIsWho_100 : decode cX11_whoIsWho 100 = .ok (.aload_n 0, 1) := by decide +kernel
theorem dX11_whoIsWho_101 : decode cX11_whoIsWho 101 = .ok (.iload 6, 2) := by decide +kernel
theorem dX11_whoIsWho_103 : decode cX11_whoIsWho 103 = .ok (.invokevirtual 172, 3) := by decide +kernel
theorem dX11_whoIsWho_106 : decode cX11_whoIsWho 106 = .ok (.iastore, 1) := by decide +kernel
theorem dX11_whoIsWho_107 : decode cX11_whoIsWho 107 = .ok (.iload 5, 2) := by decide +kernel
theorem dX11_whoIsWho_109 : decode cX11_whoIsWho 109 = .ok (.ifCond .eq 19, 3) := by decide +kernel
theorem dX11_whoIsWho_112 : decode cX11_whoIsWho 112 = .ok (.aload_n 0, 1) := by decide +kernel
theorem dX11_whoIsWho_113 : decode cX11_whoIsWho 113 = .ok (.getfield 96, 3) := by decide +kernel
theorem dX11_whoIsWho_116 : decode cX11_whoIsWho 116 = .ok (.iload 6, 2) := by decide +kernel
theorem dX11_whoIsWho_118 : decode cX11_whoIsWho 118 = .ok (.iaload, 1) := by decide +kernel
theorem dX11_whoIsWho_119 : decode cX11_whoIsWho 119 = .ok (.bipush 99, 2) := by decide +kernel
theorem dX11_whoIsWho_121 : decode cX11_whoIsWho 121 = .ok (.if_icmp .gt 7, 3) := by decide +kernel
theorem dX11_whoIsWho_124 : decode cX11_whoIsWho 124 = .ok (.iconst 1, 1) := by decide +kernel
theorem dX11_whoIsWho_125 : decode cX11_whoIsWho 125 = .ok (.goto 4, 3) := by decide +kernel
theorem dX11_whoIsWho_128 : decode cX11_whoIsWho 128 = .ok (.iconst 0, 1) := by decide +kernel
theorem dX11_whoIsWho_129 : decode cX11_whoIsWho 129 = .ok (.istore 5, 2) := by decide +kernel
theorem dX11_whoIsWho_131 : decode cX11_whoIsWho 131 = .ok (.iinc 6 1, 3) := by decide +kernel
theorem dX11_whoIsWho_134 : decode cX11_whoIsWho 134 = .ok (.goto (-46), 3) := by decide +kernel
theorem dX11_whoIsWho_137 : decode cX11_whoIsWho 137 = .ok (.iconst 0, 1) := by decide +kernel
theorem dX11_whoIsWho_138 : decode cX11_whoIsWho 138 = .ok (.istore 6, 2) := by decide +kernel
theorem dX11_whoIsWho_140 : decode cX11_whoIsWho 140 = .ok (.iload 6, 2) := by decide +kernel
theorem dX11_whoIsWho_142 : decode cX11_whoIsWho 142 = .ok (.bipush 10, 2) := by decide +kernel
theorem dX11_whoIsWho_144 : decode cX11_whoIsWho 144 = .ok (.if_icmp .ge 44, 3) := by decide +kernel
theorem dX11_whoIsWho_147 : decode cX11_whoIsWho 147 = .ok (.iload 5, 2) := by decide +kernel
theorem dX11_whoIsWho_149 : decode cX11_whoIsWho 149 = .ok (.ifCond .eq 30, 3) := by decide +kernel
theorem dX11_whoIsWho_152 : decode cX11_whoIsWho 152 = .ok (.iload_n 3, 1) := by decide +kernel
theorem dX11_whoIsWho_153 : decode cX11_whoIsWho 153 = .ok (.iload 6, 2) := by decide +kernel
theorem dX11_whoIsWho_155 : decode cX11_whoIsWho 155 = .ok (.invokestatic 133, 3) := by decide +kernel
theorem dX11_whoIsWho_158 : decode cX11_whoIsWho 158 = .ok (.ifCond .eq 17, 3) := by decide +kernel
theorem dX11_whoIsWho_161 : decode cX11_whoIsWho 161 = .ok (.aload_n 0, 1) := by decide +kernel
theorem dX11_whoIsWho_162 : decode cX11_whoIsWho 162 = .ok (.getfield 40, 3) := by decide +kernel
theorem dX11_whoIsWho_165 : decode cX11_whoIsWho 165 = .ok (.iload 6, 2) := by decide +kernel
theorem dX11_whoIsWho_167 : decode cX11_whoIsWho 167 = .ok (.iaload, 1) := by decide +kernel
theorem dX11_whoIsWho_168 : decode cX11_whoIsWho 168 = .ok (.iload_n 2, 1) := by decide +kernel
theorem dX11_whoIsWho_169 : decode cX11_whoIsWho 169 = .ok (.iconst (-1), 1) := by decide +kernel
theorem dX11_whoIsWho_170 : decode cX11_whoIsWho 170 = .ok (.ixor, 1) := by decide +kernel
theorem dX11_whoIsWho_171 : decode cX11_whoIsWho 171 = .ok (.iand, 1) := by decide +kernel
theorem dX11_whoIsWho_172 : decode cX11_whoIsWho 172 = .ok (.ifCond .ne 7, 3) := by decide +kernel
theorem dX11_whoIsWho_175 : decode cX11_whoIsWho 175 = .ok (.iconst 1, 1) := by decide +kernel
theorem dX11_whoIsWho_176 : decode cX11_whoIsWho 176 = .ok (.goto 4, 3) := by decide +kernel
theorem dX11_whoIsWho_179 : decode cX11_whoIsWho 179 = .ok (.iconst 0, 1) := by decide +kernel
theorem dX11_whoIsWho_180 : decode cX11_whoIsWho 180 = .ok (.istore 5, 2) := by decide +kernel
theorem dX11_whoIsWho_182 : decode cX11_whoIsWho 182 = .ok (.iinc 6 1, 3) := by decide +kernel
theorem dX11_whoIsWho_185 : decode cX11_whoIsWho 185 = .ok (.goto (-45), 3) := by decide +kernel
theorem dX11_whoIsWho_188 : decode cX11_whoIsWho 188 = .ok (.iload 5, 2) := by decide +kernel
theorem dX11_whoIsWho_190 : decode cX11_whoIsWho 190 = .ok (.ifCond .ne 6, 3) := by decide +kernel
theorem dX11_whoIsWho_193 : decode cX11_whoIsWho 193 = .ok (.bipush (-3), 2) := by decide +kernel
theorem dX11_whoIsWho_195 : decode cX11_whoIsWho 195 = .ok (.ireturn, 1) := by decide +kernel
theorem dX11_whoIsWho_196 : decode cX11_whoIsWho 196 = .ok (.iconst 1, 1) := by decide +kernel
theorem dX11_whoIsWho_197 : decode cX11_whoIsWho 197 = .ok (.istore 6, 2) := by decide +kernel
theorem dX11_whoIsWho_199 : decode cX11_whoIsWho 199 = .ok (.iconst 0, 1) := by decide +kernel
theorem dX11_whoIsWho_200 : decode cX11_whoIsWho 200 = .ok (.istore 7, 2) := by decide +kernel
theorem dX11_whoIsWho_202 : decode cX11_whoIsWho 202 = .ok (.iconst 0, 1) := by decide +kernel
theorem dX11_whoIsWho_203 : decode cX11_whoIsWho 203 = .ok (.istore 8, 2) := by decide +kernel
theorem dX11_whoIsWho_205 : decode cX11_whoIsWho 205 = .ok (.iconst 0, 1) := by decide +kernel
theorem dX11_whoIsWho_206 : decode cX11_whoIsWho 206 = .ok (.istore 9, 2) := by decide +kernel
theorem dX11_whoIsWho_208 : decode cX11_whoIsWho 208 = .ok (.iload 9, 2) := by decide +kernel
theorem dX11_whoIsWho_210 : decode cX11_whoIsWho 210 = .ok (.bipush 6, 2) := by decide +kernel
theorem dX11_whoIsWho_212 : decode cX11_whoIsWho 212 = .ok (.if_icmp .ge 53, 3) := by decide +kernel
theorem dX11_whoIsWho_215 : decode cX11_whoIsWho 215 = .ok (.iload_n 2, 1) := by decide +kernel
theorem dX11_whoIsWho_216 : decode cX11_whoIsWho 216 = .ok (.iload 9, 2) := by decide +kernel
theorem dX11_whoIsWho_218 : decode cX11_whoIsWho 218 = .ok (.invokestatic 133, 3) := by decide +kernel
theorem dX11_whoIsWho_221 : decode cX11_whoIsWho 221 = .ok (.ifCond .ne 6, 3) := by decide +kernel
theorem dX11_whoIsWho_224 : decode cX11_whoIsWho 224 = .ok (.goto 35, 3) := by decide +kernel
theorem dX11_whoIsWho_227 : decode cX11_whoIsWho 227 = .ok (.iload 9, 2) := by decide +kernel
theorem dX11_whoIsWho_229 : decode cX11_whoIsWho 229 = .ok (.iload 4, 2) := by decide +kernel
theorem dX11_whoIsWho_231 : decode cX11_whoIsWho 231 = .ok (.if_icmp .ne 7, 3) := by decide +kernel
theorem dX11_whoIsWho_234 : decode cX11_whoIsWho 234 = .ok (.iload 8, 2) := by decide +kernel
theorem dX11_whoIsWho_236 : decode cX11_whoIsWho 236 = .ok (.istore 7, 2) := by decide +kernel
theorem dX11_whoIsWho_238 : decode cX11_whoIsWho 238 = .ok (.aload_n 0, 1) := by decide +kernel
theorem dX11_whoIsWho_239 : decode cX11_whoIsWho 239 = .ok (.getfield 105, 3) := by decide +kernel
theorem dX11_whoIsWho_242 : decode cX11_whoIsWho 242 = .ok (.iload 8, 2) := by decide +kernel
theorem dX11_whoIsWho_244 : decode cX11_whoIsWho 244 = .ok (.iload 9, 2) := by decide +kernel
theorem dX11_whoIsWho_246 : decode cX11_whoIsWho 246 = .ok (.iastore, 1) := by decide +kernel
theorem dX11_whoIsWho_247 : decode cX11_whoIsWho 247 = .ok (.iload 8, 2) := by decide +kernel
theorem dX11_whoIsWho_249 : decode cX11_whoIsWho 249 = .ok (.iconst 1, 1) := by decide +kernel
theorem dX11_whoIsWho_250 : decode cX11_whoIsWho 250 = .ok (.iadd, 1) := by decide +kernel
theorem dX11_whoIsWho_251 : decode cX11_whoIsWho 251 = .ok (.istore 8, 2) := by decide +kernel
theorem dX11_whoIsWho_253 : decode cX11_whoIsWho 253 = .ok (.iload 6, 2) := by decide +kernel
theorem dX11_whoIsWho_255 : decode cX11_whoIsWho 255 = .ok (.iload_n 1, 1) := by decide +kernel
theorem dX11_whoIsWho_256 : decode cX11_whoIsWho 256 = .ok (.imul, 1) := by decide +kernel
theorem dX11_whoIsWho_257 : decode cX11_whoIsWho 257 = .ok (.istore 6, 2) := by decide +kernel
theorem dX11_whoIsWho_259 : decode cX11_whoIsWho 259 = .ok (.iinc 9 1, 3) := by decide +kernel
theorem dX11_whoIsWho_262 : decode cX11_whoIsWho 262 = .ok (.goto (-54), 3) := by decide +kernel
theorem dX11_whoIsWho_265 : decode cX11_whoIsWho 265 = .ok (.iconst 0, 1) := by decide +kernel
theorem dX11_whoIsWho_266 : decode cX11_whoIsWho 266 = .ok (.istore 9, 2) := by decide +kernel
theorem dX11_whoIsWho_268 : decode cX11_whoIsWho 268 = .ok (.iconst 0, 1) := by decide +kernel
theorem dX11_whoIsWho_269 : decode cX11_whoIsWho 269 = .ok (.istore 10, 2) := by decide +kernel
theorem dX11_whoIsWho_271 : decode cX11_whoIsWho 271 = .ok (.iload 10, 2) := by decide +kernel
theorem dX11_whoIsWho_273 : decode cX11_whoIsWho 273 = .ok (.iload 6, 2) := by decide +kernel
theorem dX11_whoIsWho_275 : decode cX11_whoIsWho 275 = .ok (.if_icmp .ge 71, 3) := by decide +kernel
theorem dX11_whoIsWho_278 : decode cX11_whoIsWho 278 = .ok (.aload_n 0, 1) := by decide +kernel
theorem dX11_whoIsWho_279 : decode cX11_whoIsWho 279 = .ok (.iload 10, 2) := by decide +kernel
theorem dX11_whoIsWho_281 : decode cX11_whoIsWho 281 = .ok (.iload_n 1, 1) := by decide +kernel
theorem dX11_whoIsWho_282 : decode cX11_whoIsWho 282 = .ok (.invokevirtual 377, 3) := by decide +kernel
theorem dX11_whoIsWho_285 : decode cX11_whoIsWho 285 = .ok (.ifCond .eq 55, 3) := by decide +kernel
theorem dX11_whoIsWho_288 : decode cX11_whoIsWho 288 = .ok (.aload_n 0, 1) := by decide +kernel
theorem dX11_whoIsWho_289 : decode cX11_whoIsWho 289 = .ok (.iload_n 3, 1) := by decide +kernel
theorem dX11_whoIsWho_290 : decode cX11_whoIsWho 290 = .ok (.iload_n 1, 1) := by decide +kernel
theorem dX11_whoIsWho_291 : decode cX11_whoIsWho 291 = .ok (.invokevirtual 380, 3) := by decide +kernel
theorem dX11_whoIsWho_294 : decode cX11_whoIsWho 294 = .ok (.ifCond .ne 6, 3) := by decide +kernel
theorem dX11_whoIsWho_297 : decode cX11_whoIsWho 297 = .ok (.goto 43, 3) := by decide +kernel
theorem dX11_whoIsWho_300 : decode cX11_whoIsWho 300 = .ok (.iload 9, 2) := by decide +kernel
theorem dX11_whoIsWho_302 : decode cX11_whoIsWho 302 = .ok (.ifCond .ne 32, 3) := by decide +kernel
theorem dX11_whoIsWho_305 : decode cX11_whoIsWho 305 = .ok (.iconst 0, 1) := by decide +kernel
theorem dX11_whoIsWho_306 : decode cX11_whoIsWho 306 = .ok (.istore 11, 2) := by decide +kernel
theorem dX11_whoIsWho_308 : decode cX11_whoIsWho 308 = .ok (.iload 11, 2) := by decide +kernel
theorem dX11_whoIsWho_310 : decode cX11_whoIsWho 310 = .ok (.iload_n 1, 1) := by decide +kernel
theorem dX11_whoIsWho_311 : decode cX11_whoIsWho 311 = .ok (.if_icmp .ge 23, 3) := by decide +kernel
theorem dX11_whoIsWho_314 : decode cX11_whoIsWho 314 = .ok (.aload_n 0, 1) := by decide +kernel
theorem dX11_whoIsWho_315 : decode cX11_whoIsWho 315 = .ok (.getfield 102, 3) := by decide +kernel
theorem dX11_whoIsWho_318 : decode cX11_whoIsWho 318 = .ok (.iload 11, 2) := by decide +kernel
theorem dX11_whoIsWho_320 : decode cX11_whoIsWho 320 = .ok (.aload_n 0, 1) := by decide +kernel
theorem dX11_whoIsWho_321 : decode cX11_whoIsWho 321 = .ok (.getfield 99, 3) := by decide +kernel
theorem dX11_whoIsWho_324 : decode cX11_whoIsWho 324 = .ok (.iload 11, 2) := by decide +kernel
theorem dX11_whoIsWho_326 : decode cX11_whoIsWho 326 = .ok (.iaload, 1) := by decide +kernel
theorem dX11_whoIsWho_327 : decode cX11_whoIsWho 327 = .ok (.iastore, 1) := by decide +kernel
theorem dX11_whoIsWho_328 : decode cX11_whoIsWho 328 = .ok (.iinc 11 1, 3) := by decide +kernel
theorem dX11_whoIsWho_331 : decode cX11_whoIsWho 331 = .ok (.goto (-23), 3) := by decide +kernel
theorem dX11_whoIsWho_334 : decode cX11_whoIsWho 334 = .ok (.iload 9, 2) := by decide +kernel
theorem dX11_whoIsWho_336 : decode cX11_whoIsWho 336 = .ok (.iconst 1, 1) := by decide +kernel
theorem dX11_whoIsWho_337 : decode cX11_whoIsWho 337 = .ok (.iadd, 1) := by decide +kernel
theorem dX11_whoIsWho_338 : decode cX11_whoIsWho 338 = .ok (.istore 9, 2) := by decide +kernel
theorem dX11_whoIsWho_340 : decode cX11_whoIsWho 340 = .ok (.iinc 10 1, 3) := by decide +kernel
theorem dX11_whoIsWho_343 : decode cX11_whoIsWho 343 = .ok (.goto (-72), 3) := by decide +kernel
theorem dX11_whoIsWho_346 : decode cX11_whoIsWho 346 = .ok (.iload 4, 2) := by decide +kernel
theorem dX11_whoIsWho_348 : decode cX11_whoIsWho 348 = .ok (.bipush 100, 2) := by decide +kernel
theorem dX11_whoIsWho_350 : decode cX11_whoIsWho 350 = .ok (.if_icmp .ne 8, 3) := by decide +kernel
theorem dX11_whoIsWho_353 : decode cX11_whoIsWho 353 = .ok (.iload 9, 2) := by decide +kernel
theorem dX11_whoIsWho_355 : decode cX11_whoIsWho 355 = .ok (.goto 20, 3) := by decide +kernel
theorem dX11_whoIsWho_358 : decode cX11_whoIsWho 358 = .ok (.iload 9, 2) := by decide +kernel
theorem dX11_whoIsWho_360 : decode cX11_whoIsWho 360 = .ok (.ifCond .ne 8, 3) := by decide +kernel
theorem dX11_whoIsWho_363 : decode cX11_whoIsWho 363 = .ok (.bipush (-2), 2) := by decide +kernel
theorem dX11_whoIsWho_365 : decode cX11_whoIsWho 365 = .ok (.goto 10, 3) := by decide +kernel
theorem dX11_whoIsWho_368 : decode cX11_whoIsWho 368 = .ok (.aload_n 0, 1) := by decide +kernel
theorem dX11_whoIsWho_369 : decode cX11_whoIsWho 369 = .ok (.getfield 102, 3) := by decide +kernel
theorem dX11_whoIsWho_372 : decode cX11_whoIsWho 372 = .ok (.iload 7, 2) := by decide +kernel
theorem dX11_whoIsWho_374 : decode cX11_whoIsWho 374 = .ok (.iaload, 1) := by decide +kernel
theorem dX11_whoIsWho_375 : decode cX11_whoIsWho 375 = .ok (.ireturn, 1) := by decide +kernel
theorem dX11_parent_0 : decode cX11_parent 0 = .ok (.aload_n 0, 1) := by decide +kernel
theorem dX11_parent_1 : decode cX11_parent 1 = .ok (.iload_n 1, 1) := by decide +kernel
theorem dX11_parent_2 : decode cX11_parent 2 = .ok (.iload_n 2, 1) := by decide +kernel
theorem dX11_parent_3 : decode cX11_parent 3 = .ok (.invokevirtual 300, 3) := by decide +kernel
theorem dX11_parent_6 : decode cX11_parent 6 = .ok (.ifCond .eq 13, 3) := by decide +kernel
theorem dX11_parent_9 : decode cX11_parent 9 = .ok (.iload_n 3, 1) := by decide +kernel
theorem dX11_parent_10 : decode cX11_parent 10 = .ok (.iconst (-1), 1) := by decide +kernel
theorem dX11_parent_11 : decode cX11_parent 11 = .ok (.bipush 99, 2) := by decide +kernel
theorem dX11_parent_13 : decode cX11_parent 13 = .ok (.invokestatic 137, 3) := by decide +kernel
theorem dX11_parent_16 : decode cX11_parent 16 = .ok (.ifCond .ne 5, 3) := by decide +kernel
theorem dX11_parent_19 : decode cX11_parent 19 = .ok (.iconst 0, 1) := by decide +kernel
theorem dX11_parent_20 : decode cX11_parent 20 = .ok (.ireturn, 1) := by decide +kernel
theorem dX11_parent_21 : decode cX11_parent 21 = .ok (.aload_n 0, 1) := by decide +kernel
theorem dX11_parent_22 : decode cX11_parent 22 = .ok (.getfield 19, 3) := by decide +kernel
theorem dX11_parent_25 : decode cX11_parent 25 = .ok (.bipush 6, 2) := by decide +kernel
theorem dX11_parent_27 : decode cX11_parent 27 = .ok (.iload_n 1, 1) := by decide +kernel
theorem dX11_parent_28 : decode cX11_parent 28 = .ok (.imul, 1) := by decide +kernel
theorem dX11_parent_29 : decode cX11_parent 29 = .ok (.iload_n 2, 1) := by decide +kernel
theorem dX11_parent_30 : decode cX11_parent 30 = .ok (.iadd, 1) := by decide +kernel
theorem dX11_parent_31 : decode cX11_parent 31 = .ok (.iload_n 3, 1) := by decide +kernel
theorem dX11_parent_32 : decode cX11_parent 32 = .ok (.iastore, 1) := by decide +kernel
theorem dX11_parent_33 : decode cX11_parent 33 = .ok (.iconst 1, 1) := by decide +kernel
theorem dX11_parent_34 : decode cX11_parent 34 = .ok (.ireturn, 1) := by decide +kernel
theorem dX11_laysTree_0 : decode cX11_laysTree 0 = .ok (.iconst 0, 1) := by decide +kernel
theorem dX11_laysTree_1 : decode cX11_laysTree 1 = .ok (.istore_n 1, 1) := by decide +kernel
theorem dX11_laysTree_2 : decode cX11_laysTree 2 = .ok (.iload_n 1, 1) := by decide +kernel
theorem dX11_laysTree_3 : decode cX11_laysTree 3 = .ok (.bipush 6, 2) := by decide +kernel
theorem dX11_laysTree_5 : decode cX11_laysTree 5 = .ok (.if_icmp .ge 33, 3) := by decide +kernel
theorem dX11_laysTree_8 : decode cX11_laysTree 8 = .ok (.aload_n 0, 1) := by decide +kernel
theorem dX11_laysTree_9 : decode cX11_laysTree 9 = .ok (.getfield 108, 3) := by decide +kernel
theorem dX11_laysTree_12 : decode cX11_laysTree 12 = .ok (.iload_n 1, 1) := by decide +kernel
theorem dX11_laysTree_13 : decode cX11_laysTree 13 = .ok (.aload_n 0, 1) := by decide +kernel
theorem dX11_laysTree_14 : decode cX11_laysTree 14 = .ok (.getfield 7, 3) := by decide +kernel
theorem dX11_laysTree_17 : decode cX11_laysTree 17 = .ok (.iload_n 1, 1) := by decide +kernel
theorem dX11_laysTree_18 : decode cX11_laysTree 18 = .ok (.iaload, 1) := by decide +kernel
theorem dX11_laysTree_19 : decode cX11_laysTree 19 = .ok (.iastore, 1) := by decide +kernel
theorem dX11_laysTree_20 : decode cX11_laysTree 20 = .ok (.aload_n 0, 1) := by decide +kernel
theorem dX11_laysTree_21 : decode cX11_laysTree 21 = .ok (.getfield 111, 3) := by decide +kernel
theorem dX11_laysTree_24 : decode cX11_laysTree 24 = .ok (.iload_n 1, 1) := by decide +kernel
theorem dX11_laysTree_25 : decode cX11_laysTree 25 = .ok (.aload_n 0, 1) := by decide +kernel
theorem dX11_laysTree_26 : decode cX11_laysTree 26 = .ok (.getfield 13, 3) := by decide +kernel
theorem dX11_laysTree_29 : decode cX11_laysTree 29 = .ok (.iload_n 1, 1) := by decide +kernel
theorem dX11_laysTree_30 : decode cX11_laysTree 30 = .ok (.iaload, 1) := by decide +kernel
theorem dX11_laysTree_31 : decode cX11_laysTree 31 = .ok (.iastore, 1) := by decide +kernel
theorem dX11_laysTree_32 : decode cX11_laysTree 32 = .ok (.iinc 1 1, 3) := by decide +kernel
theorem dX11_laysTree_35 : decode cX11_laysTree 35 = .ok (.goto (-33), 3) := by decide +kernel
theorem dX11_laysTree_38 : decode cX11_laysTree 38 = .ok (.iconst 0, 1) := by decide +kernel
theorem dX11_laysTree_39 : decode cX11_laysTree 39 = .ok (.istore_n 1, 1) := by decide +kernel
theorem dX11_laysTree_40 : decode cX11_laysTree 40 = .ok (.iload_n 1, 1) := by decide +kernel
theorem dX11_laysTree_41 : decode cX11_laysTree 41 = .ok (.sipush 700, 3) := by decide +kernel
theorem dX11_laysTree_44 : decode cX11_laysTree 44 = .ok (.if_icmp .ge 139, 3) := by decide +kernel
theorem dX11_laysTree_47 : decode cX11_laysTree 47 = .ok (.iconst 0, 1) := by decide +kernel
theorem dX11_laysTree_48 : decode cX11_laysTree 48 = .ok (.istore_n 2, 1) := by decide +kernel
theorem dX11_laysTree_49 : decode cX11_laysTree 49 = .ok (.iload_n 2, 1) := by decide +kernel
theorem dX11_laysTree_50 : decode cX11_laysTree 50 = .ok (.bipush 6, 2) := by decide +kernel
theorem dX11_laysTree_52 : decode cX11_laysTree 52 = .ok (.if_icmp .ge 125, 3) := by decide +kernel
theorem dX11_laysTree_55 : decode cX11_laysTree 55 = .ok (.iconst 0, 1) := by decide +kernel
theorem dX11_laysTree_56 : decode cX11_laysTree 56 = .ok (.istore_n 3, 1) := by decide +kernel
theorem dX11_laysTree_57 : decode cX11_laysTree 57 = .ok (.iload_n 3, 1) := by decide +kernel
theorem dX11_laysTree_58 : decode cX11_laysTree 58 = .ok (.bipush 6, 2) := by decide +kernel
theorem dX11_laysTree_60 : decode cX11_laysTree 60 = .ok (.if_icmp .ge 111, 3) := by decide +kernel
theorem dX11_laysTree_63 : decode cX11_laysTree 63 = .ok (.aload_n 0, 1) := by decide +kernel
theorem dX11_laysTree_64 : decode cX11_laysTree 64 = .ok (.getfield 19, 3) := by decide +kernel
theorem dX11_laysTree_67 : decode cX11_laysTree 67 = .ok (.bipush 6, 2) := by decide +kernel
theorem dX11_laysTree_69 : decode cX11_laysTree 69 = .ok (.iload_n 2, 1) := by decide +kernel
theorem dX11_laysTree_70 : decode cX11_laysTree 70 = .ok (.imul, 1) := by decide +kernel
theorem dX11_laysTree_71 : decode cX11_laysTree 71 = .ok (.iload_n 3, 1) := by decide +kernel
theorem dX11_laysTree_72 : decode cX11_laysTree 72 = .ok (.iadd, 1) := by decide +kernel
theorem dX11_laysTree_73 : decode cX11_laysTree 73 = .ok (.iaload, 1) := by decide +kernel
theorem dX11_laysTree_74 : decode cX11_laysTree 74 = .ok (.istore 4, 2) := by decide +kernel
theorem dX11_laysTree_76 : decode cX11_laysTree 76 = .ok (.iload 4, 2) := by decide +kernel
theorem dX11_laysTree_78 : decode cX11_laysTree 78 = .ok (.iconst (-1), 1) := by decide +kernel
theorem dX11_laysTree_79 : decode cX11_laysTree 79 = .ok (.if_icmp .ne 6, 3) := by decide +kernel
theorem dX11_laysTree_82 : decode cX11_laysTree 82 = .ok (.goto 83, 3) := by decide +kernel
theorem dX11_laysTree_85 : decode cX11_laysTree 85 = .ok (.aload_n 0, 1) := by decide +kernel
theorem dX11_laysTree_86 : decode cX11_laysTree 86 = .ok (.getfield 108, 3) := by decide +kernel
theorem dX11_laysTree_89 : decode cX11_laysTree 89 = .ok (.iload_n 2, 1) := by decide +kernel
theorem dX11_laysTree_90 : decode cX11_laysTree 90 = .ok (.aload_n 0, 1) := by decide +kernel
theorem dX11_laysTree_91 : decode cX11_laysTree 91 = .ok (.getfield 108, 3) := by decide +kernel
theorem dX11_laysTree_94 : decode cX11_laysTree 94 = .ok (.iload_n 2, 1) := by decide +kernel
theorem dX11_laysTree_95 : decode cX11_laysTree 95 = .ok (.iaload, 1) := by decide +kernel
theorem dX11_laysTree_96 : decode cX11_laysTree 96 = .ok (.aload_n 0, 1) := by decide +kernel
theorem dX11_laysTree_97 : decode cX11_laysTree 97 = .ok (.getfield 108, 3) := by decide +kernel
theorem dX11_laysTree_100 : decode cX11_laysTree 100 = .ok (.iload_n 3, 1) := by decide +kernel
theorem dX11_laysTree_101 : decode cX11_laysTree 101 = .ok (.iaload, 1) := by decide +kernel
theorem dX11_laysTree_102 : decode cX11_laysTree 102 = .ok (.iload 4, 2) := by decide +kernel
theorem dX11_laysTree_104 : decode cX11_laysTree 104 = .ok (.iadd, 1) := by decide +kernel
theorem dX11_laysTree_105 : decode cX11_laysTree 105 = .ok (.invokestatic 209, 3) := by decide +kernel
theorem dX11_laysTree_108 : decode cX11_laysTree 108 = .ok (.iastore, 1) := by decide +kernel
theorem dX11_laysTree_109 : decode cX11_laysTree 109 = .ok (.aload_n 0, 1) := by decide +kernel
theorem dX11_laysTree_110 : decode cX11_laysTree 110 = .ok (.getfield 111, 3) := by decide +kernel
theorem dX11_laysTree_113 : decode cX11_laysTree 113 = .ok (.iload_n 3, 1) := by decide +kernel
theorem dX11_laysTree_114 : decode cX11_laysTree 114 = .ok (.aload_n 0, 1) := by decide +kernel
theorem dX11_laysTree_115 : decode cX11_laysTree 115 = .ok (.getfield 111, 3) := by decide +kernel
theorem dX11_laysTree_118 : decode cX11_laysTree 118 = .ok (.iload_n 3, 1) := by decide +kernel
theorem dX11_laysTree_119 : decode cX11_laysTree 119 = .ok (.iaload, 1) := by decide +kernel
theorem dX11_laysTree_120 : decode cX11_laysTree 120 = .ok (.aload_n 0, 1) := by decide +kernel
theorem dX11_laysTree_121 : decode cX11_laysTree 121 = .ok (.getfield 111, 3) := by decide +kernel
theorem dX11_laysTree_124 : decode cX11_laysTree 124 = .ok (.iload_n 2, 1) := by decide +kernel
theorem dX11_laysTree_125 : decode cX11_laysTree 125 = .ok (.iaload, 1) := by decide +kernel
theorem dX11_laysTree_126 : decode cX11_laysTree 126 = .ok (.iload 4, 2) := by decide +kernel
theorem dX11_laysTree_128 : decode cX11_laysTree 128 = .ok (.isub, 1) := by decide +kernel
theorem dX11_laysTree_129 : decode cX11_laysTree 129 = .ok (.invokestatic 305, 3) := by decide +kernel
theorem dX11_laysTree_132 : decode cX11_laysTree 132 = .ok (.iastore, 1) := by decide +kernel
theorem dX11_laysTree_133 : decode cX11_laysTree 133 = .ok (.aload_n 0, 1) := by decide +kernel
theorem dX11_laysTree_134 : decode cX11_laysTree 134 = .ok (.getfield 108, 3) := by decide +kernel
theorem dX11_laysTree_137 : decode cX11_laysTree 137 = .ok (.iload_n 2, 1) := by decide +kernel
theorem dX11_laysTree_138 : decode cX11_laysTree 138 = .ok (.iaload, 1) := by decide +kernel
theorem dX11_laysTree_139 : decode cX11_laysTree 139 = .ok (.aload_n 0, 1) := by decide +kernel
theorem dX11_laysTree_140 : decode cX11_laysTree 140 = .ok (.getfield 13, 3) := by decide +kernel
theorem dX11_laysTree_143 : decode cX11_laysTree 143 = .ok (.iload_n 2, 1) := by decide +kernel
theorem dX11_laysTree_144 : decode cX11_laysTree 144 = .ok (.iaload, 1) := by decide +kernel
theorem dX11_laysTree_145 : decode cX11_laysTree 145 = .ok (.if_icmp .gt 18, 3) := by decide +kernel
theorem dX11_laysTree_148 : decode cX11_laysTree 148 = .ok (.aload_n 0, 1) := by decide +kernel
theorem dX11_laysTree_149 : decode cX11_laysTree 149 = .ok (.getfield 111, 3) := by decide +kernel
theorem dX11_laysTree_152 : decode cX11_laysTree 152 = .ok (.iload_n 3, 1) := by decide +kernel
theorem dX11_laysTree_153 : decode cX11_laysTree 153 = .ok (.iaload, 1) := by decide +kernel
theorem dX11_laysTree_154 : decode cX11_laysTree 154 = .ok (.aload_n 0, 1) := by decide +kernel
theorem dX11_laysTree_155 : decode cX11_laysTree 155 = .ok (.getfield 7, 3) := by decide +kernel
theorem dX11_laysTree_158 : decode cX11_laysTree 158 = .ok (.iload_n 3, 1) := by decide +kernel
theorem dX11_laysTree_159 : decode cX11_laysTree 159 = .ok (.iaload, 1) := by decide +kernel
theorem dX11_laysTree_160 : decode cX11_laysTree 160 = .ok (.if_icmp .ge 5, 3) := by decide +kernel
theorem dX11_laysTree_163 : decode cX11_laysTree 163 = .ok (.iconst 0, 1) := by decide +kernel
theorem dX11_laysTree_164 : decode cX11_laysTree 164 = .ok (.ireturn, 1) := by decide +kernel
theorem dX11_laysTree_165 : decode cX11_laysTree 165 = .ok (.iinc 3 1, 3) := by decide +kernel
theorem dX11_laysTree_168 : decode cX11_laysTree 168 = .ok (.goto (-111), 3) := by decide +kernel
theorem dX11_laysTree_171 : decode cX11_laysTree 171 = .ok (.iinc 2 1, 3) := by decide +kernel
theorem dX11_laysTree_174 : decode cX11_laysTree 174 = .ok (.goto (-125), 3) := by decide +kernel
theorem dX11_laysTree_177 : decode cX11_laysTree 177 = .ok (.iinc 1 1, 3) := by decide +kernel
theorem dX11_laysTree_180 : decode cX11_laysTree 180 = .ok (.goto (-140), 3) := by decide +kernel
theorem dX11_laysTree_183 : decode cX11_laysTree 183 = .ok (.iconst 0, 1) := by decide +kernel
theorem dX11_laysTree_184 : decode cX11_laysTree 184 = .ok (.istore_n 1, 1) := by decide +kernel
theorem dX11_laysTree_185 : decode cX11_laysTree 185 = .ok (.iload_n 1, 1) := by decide +kernel
theorem dX11_laysTree_186 : decode cX11_laysTree 186 = .ok (.bipush 6, 2) := by decide +kernel
theorem dX11_laysTree_188 : decode cX11_laysTree 188 = .ok (.if_icmp .ge 34, 3) := by decide +kernel
theorem dX11_laysTree_191 : decode cX11_laysTree 191 = .ok (.aload_n 0, 1) := by decide +kernel
theorem dX11_laysTree_192 : decode cX11_laysTree 192 = .ok (.iload_n 1, 1) := by decide +kernel
theorem dX11_laysTree_193 : decode cX11_laysTree 193 = .ok (.invokevirtual 145, 3) := by decide +kernel
theorem dX11_laysTree_196 : decode cX11_laysTree 196 = .ok (.ifCond .eq 20, 3) := by decide +kernel
theorem dX11_laysTree_199 : decode cX11_laysTree 199 = .ok (.aload_n 0, 1) := by decide +kernel
theorem dX11_laysTree_200 : decode cX11_laysTree 200 = .ok (.getfield 108, 3) := by decide +kernel
theorem dX11_laysTree_203 : decode cX11_laysTree 203 = .ok (.iload_n 1, 1) := by decide +kernel
theorem dX11_laysTree_204 : decode cX11_laysTree 204 = .ok (.iaload, 1) := by decide +kernel
theorem dX11_laysTree_205 : decode cX11_laysTree 205 = .ok (.aload_n 0, 1) := by decide +kernel
theorem dX11_laysTree_206 : decode cX11_laysTree 206 = .ok (.getfield 111, 3) := by decide +kernel
theorem dX11_laysTree_209 : decode cX11_laysTree 209 = .ok (.iload_n 1, 1) := by decide +kernel
theorem dX11_laysTree_210 : decode cX11_laysTree 210 = .ok (.iaload, 1) := by decide +kernel
theorem dX11_laysTree_211 : decode cX11_laysTree 211 = .ok (.if_icmp .le 5, 3) := by decide +kernel
theorem dX11_laysTree_214 : decode cX11_laysTree 214 = .ok (.iconst 0, 1) := by decide +kernel
theorem dX11_laysTree_215 : decode cX11_laysTree 215 = .ok (.ireturn, 1) := by decide +kernel
theorem dX11_laysTree_216 : decode cX11_laysTree 216 = .ok (.iinc 1 1, 3) := by decide +kernel
theorem dX11_laysTree_219 : decode cX11_laysTree 219 = .ok (.goto (-34), 3) := by decide +kernel
theorem dX11_laysTree_222 : decode cX11_laysTree 222 = .ok (.iconst 1, 1) := by decide +kernel
theorem dX11_laysTree_223 : decode cX11_laysTree 223 = .ok (.ireturn, 1) := by decide +kernel
theorem dX11_tree_0 : decode cX11_tree 0 = .ok (.aload_n 0, 1) := by decide +kernel
theorem dX11_tree_1 : decode cX11_tree 1 = .ok (.iload_n 1, 1) := by decide +kernel
theorem dX11_tree_2 : decode cX11_tree 2 = .ok (.invokevirtual 145, 3) := by decide +kernel
theorem dX11_tree_5 : decode cX11_tree 5 = .ok (.ifCond .eq 12, 3) := by decide +kernel
theorem dX11_tree_8 : decode cX11_tree 8 = .ok (.iload_n 2, 1) := by decide +kernel
theorem dX11_tree_9 : decode cX11_tree 9 = .ok (.iconst 0, 1) := by decide +kernel
theorem dX11_tree_10 : decode cX11_tree 10 = .ok (.iconst 1, 1) := by decide +kernel
theorem dX11_tree_11 : decode cX11_tree 11 = .ok (.invokestatic 137, 3) := by decide +kernel
theorem dX11_tree_14 : decode cX11_tree 14 = .ok (.ifCond .ne 5, 3) := by decide +kernel
theorem dX11_tree_17 : decode cX11_tree 17 = .ok (.iconst (-1), 1) := by decide +kernel
theorem dX11_tree_18 : decode cX11_tree 18 = .ok (.ireturn, 1) := by decide +kernel
theorem dX11_tree_19 : decode cX11_tree 19 = .ok (.aload_n 0, 1) := by decide +kernel
theorem dX11_tree_20 : decode cX11_tree 20 = .ok (.invokevirtual 383, 3) := by decide +kernel
theorem dX11_tree_23 : decode cX11_tree 23 = .ok (.ifCond .ne 6, 3) := by decide +kernel
theorem dX11_tree_26 : decode cX11_tree 26 = .ok (.bipush (-2), 2) := by decide +kernel
theorem dX11_tree_28 : decode cX11_tree 28 = .ok (.ireturn, 1) := by decide +kernel
theorem dX11_tree_29 : decode cX11_tree 29 = .ok (.iload_n 2, 1) := by decide +kernel
theorem dX11_tree_30 : decode cX11_tree 30 = .ok (.ifCond .ne 12, 3) := by decide +kernel
theorem dX11_tree_33 : decode cX11_tree 33 = .ok (.aload_n 0, 1) := by decide +kernel
theorem dX11_tree_34 : decode cX11_tree 34 = .ok (.getfield 108, 3) := by decide +kernel
theorem dX11_tree_37 : decode cX11_tree 37 = .ok (.iload_n 1, 1) := by decide +kernel
theorem dX11_tree_38 : decode cX11_tree 38 = .ok (.iaload, 1) := by decide +kernel
theorem dX11_tree_39 : decode cX11_tree 39 = .ok (.goto 9, 3) := by decide +kernel
theorem dX11_tree_42 : decode cX11_tree 42 = .ok (.aload_n 0, 1) := by decide +kernel
theorem dX11_tree_43 : decode cX11_tree 43 = .ok (.getfield 111, 3) := by decide +kernel
theorem dX11_tree_46 : decode cX11_tree 46 = .ok (.iload_n 1, 1) := by decide +kernel
theorem dX11_tree_47 : decode cX11_tree 47 = .ok (.iaload, 1) := by decide +kernel
theorem dX11_tree_48 : decode cX11_tree 48 = .ok (.ireturn, 1) := by decide +kernel
theorem dX11_tyres_0 : decode cX11_tyres 0 = .ok (.iload_n 1, 1) := by decide +kernel
theorem dX11_tyres_1 : decode cX11_tyres 1 = .ok (.iconst 1, 1) := by decide +kernel
theorem dX11_tyres_2 : decode cX11_tyres 2 = .ok (.bipush 8, 2) := by decide +kernel
theorem dX11_tyres_4 : decode cX11_tyres 4 = .ok (.invokestatic 137, 3) := by decide +kernel
theorem dX11_tyres_7 : decode cX11_tyres 7 = .ok (.ifCond .eq 21, 3) := by decide +kernel
theorem dX11_tyres_10 : decode cX11_tyres 10 = .ok (.iload_n 2, 1) := by decide +kernel
theorem dX11_tyres_11 : decode cX11_tyres 11 = .ok (.iconst 1, 1) := by decide +kernel
theorem dX11_tyres_12 : decode cX11_tyres 12 = .ok (.bipush 8, 2) := by decide +kernel
theorem dX11_tyres_14 : decode cX11_tyres 14 = .ok (.invokestatic 137, 3) := by decide +kernel
theorem dX11_tyres_17 : decode cX11_tyres 17 = .ok (.ifCond .eq 11, 3) := by decide +kernel
theorem dX11_tyres_20 : decode cX11_tyres 20 = .ok (.iload_n 1, 1) := by decide +kernel
theorem dX11_tyres_21 : decode cX11_tyres 21 = .ok (.aload_n 0, 1) := by decide +kernel
theorem dX11_tyres_22 : decode cX11_tyres 22 = .ok (.getfield 159, 3) := by decide +kernel
theorem dX11_tyres_25 : decode cX11_tyres 25 = .ok (.if_icmp .le 5, 3) := by decide +kernel
theorem dX11_tyres_28 : decode cX11_tyres 28 = .ok (.iconst (-1), 1) := by decide +kernel
theorem dX11_tyres_29 : decode cX11_tyres 29 = .ok (.ireturn, 1) := by decide +kernel
theorem dX11_tyres_30 : decode cX11_tyres 30 = .ok (.aload_n 0, 1) := by decide +kernel
theorem dX11_tyres_31 : decode cX11_tyres 31 = .ok (.iconst 0, 1) := by decide +kernel
theorem dX11_tyres_32 : decode cX11_tyres 32 = .ok (.putfield 159, 3) := by decide +kernel
theorem dX11_tyres_35 : decode cX11_tyres 35 = .ok (.iconst 0, 1) := by decide +kernel
theorem dX11_tyres_36 : decode cX11_tyres 36 = .ok (.istore_n 3, 1) := by decide +kernel
theorem dX11_tyres_37 : decode cX11_tyres 37 = .ok (.iconst 0, 1) := by decide +kernel
theorem dX11_tyres_38 : decode cX11_tyres 38 = .ok (.istore 4, 2) := by decide +kernel
theorem dX11_tyres_40 : decode cX11_tyres 40 = .ok (.iload 4, 2) := by decide +kernel
theorem dX11_tyres_42 : decode cX11_tyres 42 = .ok (.iload_n 1, 1) := by decide +kernel
theorem dX11_tyres_43 : decode cX11_tyres 43 = .ok (.if_icmp .ge 30, 3) := by decide +kernel
theorem dX11_tyres_46 : decode cX11_tyres 46 = .ok (.aload_n 0, 1) := by decide +kernel
theorem dX11_tyres_47 : decode cX11_tyres 47 = .ok (.iload 4, 2) := by decide +kernel
theorem dX11_tyres_49 : decode cX11_tyres 49 = .ok (.invokevirtual 172, 3) := by decide +kernel
theorem dX11_tyres_52 : decode cX11_tyres 52 = .ok (.ifCond .ne 6, 3) := by decide +kernel
theorem dX11_tyres_55 : decode cX11_tyres 55 = .ok (.bipush (-2), 2) := by decide +kernel
theorem dX11_tyres_57 : decode cX11_tyres 57 = .ok (.ireturn, 1) := by decide +kernel
theorem dX11_tyres_58 : decode cX11_tyres 58 = .ok (.iload_n 3, 1) := by decide +kernel
theorem dX11_tyres_59 : decode cX11_tyres 59 = .ok (.aload_n 0, 1) := by decide +kernel
theorem dX11_tyres_60 : decode cX11_tyres 60 = .ok (.iload 4, 2) := by decide +kernel
theorem dX11_tyres_62 : decode cX11_tyres 62 = .ok (.invokevirtual 172, 3) := by decide +kernel
theorem dX11_tyres_65 : decode cX11_tyres 65 = .ok (.iadd, 1) := by decide +kernel
theorem dX11_tyres_66 : decode cX11_tyres 66 = .ok (.istore_n 3, 1) := by decide +kernel
theorem dX11_tyres_67 : decode cX11_tyres 67 = .ok (.iinc 4 1, 3) := by decide +kernel
theorem dX11_tyres_70 : decode cX11_tyres 70 = .ok (.goto (-30), 3) := by decide +kernel
theorem dX11_tyres_73 : decode cX11_tyres 73 = .ok (.iload_n 1, 1) := by decide +kernel
theorem dX11_tyres_74 : decode cX11_tyres 74 = .ok (.iload_n 2, 1) := by decide +kernel
theorem dX11_tyres_75 : decode cX11_tyres 75 = .ok (.if_icmp .ge 6, 3) := by decide +kernel
theorem dX11_tyres_78 : decode cX11_tyres 78 = .ok (.bipush (-3), 2) := by decide +kernel
theorem dX11_tyres_80 : decode cX11_tyres 80 = .ok (.ireturn, 1) := by decide +kernel
theorem dX11_tyres_81 : decode cX11_tyres 81 = .ok (.iload_n 3, 1) := by decide +kernel
theorem dX11_tyres_82 : decode cX11_tyres 82 = .ok (.istore 4, 2) := by decide +kernel
theorem dX11_tyres_84 : decode cX11_tyres 84 = .ok (.aload_n 0, 1) := by decide +kernel
theorem dX11_tyres_85 : decode cX11_tyres 85 = .ok (.iload_n 1, 1) := by decide +kernel
theorem dX11_tyres_86 : decode cX11_tyres 86 = .ok (.iload 4, 2) := by decide +kernel
theorem dX11_tyres_88 : decode cX11_tyres 88 = .ok (.invokevirtual 386, 3) := by decide +kernel
theorem dX11_tyres_91 : decode cX11_tyres 91 = .ok (.iload_n 2, 1) := by decide +kernel
theorem dX11_tyres_92 : decode cX11_tyres 92 = .ok (.iload 4, 2) := by decide +kernel
theorem dX11_tyres_94 : decode cX11_tyres 94 = .ok (.imul, 1) := by decide +kernel
theorem dX11_tyres_95 : decode cX11_tyres 95 = .ok (.if_icmp .ge 12, 3) := by decide +kernel
theorem dX11_tyres_98 : decode cX11_tyres 98 = .ok (.iload 4, 2) := by decide +kernel
theorem dX11_tyres_100 : decode cX11_tyres 100 = .ok (.iconst 1, 1) := by decide +kernel
theorem dX11_tyres_101 : decode cX11_tyres 101 = .ok (.isub, 1) := by decide +kernel
theorem dX11_tyres_102 : decode cX11_tyres 102 = .ok (.istore 4, 2) := by decide +kernel
theorem dX11_tyres_104 : decode cX11_tyres 104 = .ok (.goto (-20), 3) := by decide +kernel
theorem dX11_tyres_107 : decode cX11_tyres 107 = .ok (.iload 4, 2) := by decide +kernel
theorem dX11_tyres_109 : decode cX11_tyres 109 = .ok (.ireturn, 1) := by decide +kernel
theorem dX11_lasting_0 : decode cX11_lasting 0 = .ok (.iconst 0, 1) := by decide +kernel
theorem dX11_lasting_1 : decode cX11_lasting 1 = .ok (.istore_n 3, 1) := by decide +kernel
theorem dX11_lasting_2 : decode cX11_lasting 2 = .ok (.iconst 0, 1) := by decide +kernel
theorem dX11_lasting_3 : decode cX11_lasting 3 = .ok (.istore 4, 2) := by decide +kernel
theorem dX11_lasting_5 : decode cX11_lasting 5 = .ok (.iload 4, 2) := by decide +kernel
theorem dX11_lasting_7 : decode cX11_lasting 7 = .ok (.iload_n 1, 1) := by decide +kernel
theorem dX11_lasting_8 : decode cX11_lasting 8 = .ok (.if_icmp .ge 22, 3) := by decide +kernel
theorem dX11_lasting_11 : decode cX11_lasting 11 = .ok (.iload_n 3, 1) := by decide +kernel
theorem dX11_lasting_12 : decode cX11_lasting 12 = .ok (.iload_n 2, 1) := by decide +kernel
theorem dX11_lasting_13 : decode cX11_lasting 13 = .ok (.aload_n 0, 1) := by decide +kernel
theorem dX11_lasting_14 : decode cX11_lasting 14 = .ok (.iload 4, 2) := by decide +kernel
theorem dX11_lasting_16 : decode cX11_lasting 16 = .ok (.invokevirtual 172, 3) := by decide +kernel
theorem dX11_lasting_19 : decode cX11_lasting 19 = .ok (.invokestatic 305, 3) := by decide +kernel
theorem dX11_lasting_22 : decode cX11_lasting 22 = .ok (.iadd, 1) := by decide +kernel
theorem dX11_lasting_23 : decode cX11_lasting 23 = .ok (.istore_n 3, 1) := by decide +kernel
theorem dX11_lasting_24 : decode cX11_lasting 24 = .ok (.iinc 4 1, 3) := by decide +kernel
theorem dX11_lasting_27 : decode cX11_lasting 27 = .ok (.goto (-22), 3) := by decide +kernel
theorem dX11_lasting_30 : decode cX11_lasting 30 = .ok (.iload_n 3, 1) := by decide +kernel
theorem dX11_lasting_31 : decode cX11_lasting 31 = .ok (.ireturn, 1) := by decide +kernel
theorem dX11_reaches_0 : decode cX11_reaches 0 = .ok (.aload_n 0, 1) := by decide +kernel
theorem dX11_reaches_1 : decode cX11_reaches 1 = .ok (.getfield 123, 3) := by decide +kernel
theorem dX11_reaches_4 : decode cX11_reaches 4 = .ok (.iload_n 1, 1) := by decide +kernel
theorem dX11_reaches_5 : decode cX11_reaches 5 = .ok (.iaload, 1) := by decide +kernel
theorem dX11_reaches_6 : decode cX11_reaches 6 = .ok (.iconst (-1), 1) := by decide +kernel
theorem dX11_reaches_7 : decode cX11_reaches 7 = .ok (.if_icmp .eq 4, 3) := by decide +kernel
theorem dX11_reaches_10 : decode cX11_reaches 10 = .ok (.return_, 1) := by decide +kernel
theorem dX11_reaches_11 : decode cX11_reaches 11 = .ok (.aload_n 0, 1) := by decide +kernel
theorem dX11_reaches_12 : decode cX11_reaches 12 = .ok (.getfield 123, 3) := by decide +kernel
theorem dX11_reaches_15 : decode cX11_reaches 15 = .ok (.iload_n 1, 1) := by decide +kernel
theorem dX11_reaches_16 : decode cX11_reaches 16 = .ok (.iload_n 2, 1) := by decide +kernel
theorem dX11_reaches_17 : decode cX11_reaches 17 = .ok (.iastore, 1) := by decide +kernel
theorem dX11_reaches_18 : decode cX11_reaches 18 = .ok (.aload_n 0, 1) := by decide +kernel
theorem dX11_reaches_19 : decode cX11_reaches 19 = .ok (.getfield 120, 3) := by decide +kernel
theorem dX11_reaches_22 : decode cX11_reaches 22 = .ok (.aload_n 0, 1) := by decide +kernel
theorem dX11_reaches_23 : decode cX11_reaches 23 = .ok (.getfield 389, 3) := by decide +kernel
theorem dX11_reaches_26 : decode cX11_reaches 26 = .ok (.iload_n 1, 1) := by decide +kernel
theorem dX11_reaches_27 : decode cX11_reaches 27 = .ok (.iastore, 1) := by decide +kernel
theorem dX11_reaches_28 : decode cX11_reaches 28 = .ok (.aload_n 0, 1) := by decide +kernel
theorem dX11_reaches_29 : decode cX11_reaches 29 = .ok (.aload_n 0, 1) := by decide +kernel
theorem dX11_reaches_30 : decode cX11_reaches 30 = .ok (.getfield 389, 3) := by decide +kernel
theorem dX11_reaches_33 : decode cX11_reaches 33 = .ok (.iconst 1, 1) := by decide +kernel
theorem dX11_reaches_34 : decode cX11_reaches 34 = .ok (.iadd, 1) := by decide +kernel
theorem dX11_reaches_35 : decode cX11_reaches 35 = .ok (.putfield 389, 3) := by decide +kernel
theorem dX11_reaches_38 : decode cX11_reaches 38 = .ok (.return_, 1) := by decide +kernel
theorem dX11_stateOf_0 : decode cX11_stateOf 0 = .ok (.iload_n 0, 1) := by decide +kernel
theorem dX11_stateOf_1 : decode cX11_stateOf 1 = .ok (.bipush 21, 2) := by decide +kernel
theorem dX11_stateOf_3 : decode cX11_stateOf 3 = .ok (.iload_n 1, 1) := by decide +kernel
theorem dX11_stateOf_4 : decode cX11_stateOf 4 = .ok (.imul, 1) := by decide +kernel
theorem dX11_stateOf_5 : decode cX11_stateOf 5 = .ok (.iadd, 1) := by decide +kernel
theorem dX11_stateOf_6 : decode cX11_stateOf 6 = .ok (.sipush 441, 3) := by decide +kernel
theorem dX11_stateOf_9 : decode cX11_stateOf 9 = .ok (.iload_n 2, 1) := by decide +kernel
theorem dX11_stateOf_10 : decode cX11_stateOf 10 = .ok (.imul, 1) := by decide +kernel
theorem dX11_stateOf_11 : decode cX11_stateOf 11 = .ok (.iadd, 1) := by decide +kernel
theorem dX11_stateOf_12 : decode cX11_stateOf 12 = .ok (.ireturn, 1) := by decide +kernel
theorem dX11_pours_0 : decode cX11_pours 0 = .ok (.aload_n 0, 1) := by decide +kernel
theorem dX11_pours_1 : decode cX11_pours 1 = .ok (.getfield 117, 3) := by decide +kernel
theorem dX11_pours_4 : decode cX11_pours 4 = .ok (.iconst 0, 1) := by decide +kernel
theorem dX11_pours_5 : decode cX11_pours 5 = .ok (.iload_n 1, 1) := by decide +kernel
theorem dX11_pours_6 : decode cX11_pours 6 = .ok (.bipush 21, 2) := by decide +kernel
theorem dX11_pours_8 : decode cX11_pours 8 = .ok (.irem, 1) := by decide +kernel
theorem dX11_pours_9 : decode cX11_pours 9 = .ok (.iastore, 1) := by decide +kernel
theorem dX11_pours_10 : decode cX11_pours 10 = .ok (.aload_n 0, 1) := by decide +kernel
theorem dX11_pours_11 : decode cX11_pours 11 = .ok (.getfield 117, 3) := by decide +kernel
theorem dX11_pours_14 : decode cX11_pours 14 = .ok (.iconst 1, 1) := by decide +kernel
theorem dX11_pours_15 : decode cX11_pours 15 = .ok (.iload_n 1, 1) := by decide +kernel
theorem dX11_pours_16 : decode cX11_pours 16 = .ok (.bipush 21, 2) := by decide +kernel
theorem dX11_pours_18 : decode cX11_pours 18 = .ok (.idiv, 1) := by decide +kernel
theorem dX11_pours_19 : decode cX11_pours 19 = .ok (.bipush 21, 2) := by decide +kernel
theorem dX11_pours_21 : decode cX11_pours 21 = .ok (.irem, 1) := by decide +kernel
theorem dX11_pours_22 : decode cX11_pours 22 = .ok (.iastore, 1) := by decide +kernel
theorem dX11_pours_23 : decode cX11_pours 23 = .ok (.aload_n 0, 1) := by decide +kernel
theorem dX11_pours_24 : decode cX11_pours 24 = .ok (.getfield 117, 3) := by decide +kernel
theorem dX11_pours_27 : decode cX11_pours 27 = .ok (.iconst 2, 1) := by decide +kernel
theorem dX11_pours_28 : decode cX11_pours 28 = .ok (.iload_n 1, 1) := by decide +kernel
theorem dX11_pours_29 : decode cX11_pours 29 = .ok (.sipush 441, 3) := by decide +kernel
theorem dX11_pours_32 : decode cX11_pours 32 = .ok (.idiv, 1) := by decide +kernel
theorem dX11_pours_33 : decode cX11_pours 33 = .ok (.iastore, 1) := by decide +kernel
theorem dX11_pours_34 : decode cX11_pours 34 = .ok (.aload_n 0, 1) := by decide +kernel
theorem dX11_pours_35 : decode cX11_pours 35 = .ok (.getfield 117, 3) := by decide +kernel
theorem dX11_pours_38 : decode cX11_pours 38 = .ok (.iload_n 2, 1) := by decide +kernel
theorem dX11_pours_39 : decode cX11_pours 39 = .ok (.iaload, 1) := by decide +kernel
theorem dX11_pours_40 : decode cX11_pours 40 = .ok (.aload_n 0, 1) := by decide +kernel
theorem dX11_pours_41 : decode cX11_pours 41 = .ok (.getfield 114, 3) := by decide +kernel
theorem dX11_pours_44 : decode cX11_pours 44 = .ok (.iload_n 3, 1) := by decide +kernel
theorem dX11_pours_45 : decode cX11_pours 45 = .ok (.iaload, 1) := by decide +kernel
theorem dX11_pours_46 : decode cX11_pours 46 = .ok (.aload_n 0, 1) := by decide +kernel
theorem dX11_pours_47 : decode cX11_pours 47 = .ok (.getfield 117, 3) := by decide +kernel
theorem dX11_pours_50 : decode cX11_pours 50 = .ok (.iload_n 3, 1) := by decide +kernel
theorem dX11_pours_51 : decode cX11_pours 51 = .ok (.iaload, 1) := by decide +kernel
theorem dX11_pours_52 : decode cX11_pours 52 = .ok (.isub, 1) := by decide +kernel
theorem dX11_pours_53 : decode cX11_pours 53 = .ok (.invokestatic 305, 3) := by decide +kernel
theorem dX11_pours_56 : decode cX11_pours 56 = .ok (.istore 4, 2) := by decide +kernel
theorem dX11_pours_58 : decode cX11_pours 58 = .ok (.aload_n 0, 1) := by decide +kernel
theorem dX11_pours_59 : decode cX11_pours 59 = .ok (.getfield 117, 3) := by decide +kernel
theorem dX11_pours_62 : decode cX11_pours 62 = .ok (.iload_n 2, 1) := by decide +kernel
theorem dX11_pours_63 : decode cX11_pours 63 = .ok (.aload_n 0, 1) := by decide +kernel
theorem dX11_pours_64 : decode cX11_pours 64 = .ok (.getfield 117, 3) := by decide +kernel
theorem dX11_pours_67 : decode cX11_pours 67 = .ok (.iload_n 2, 1) := by decide +kernel
theorem dX11_pours_68 : decode cX11_pours 68 = .ok (.iaload, 1) := by decide +kernel
theorem dX11_pours_69 : decode cX11_pours 69 = .ok (.iload 4, 2) := by decide +kernel
theorem dX11_pours_71 : decode cX11_pours 71 = .ok (.isub, 1) := by decide +kernel
theorem dX11_pours_72 : decode cX11_pours 72 = .ok (.iastore, 1) := by decide +kernel
theorem dX11_pours_73 : decode cX11_pours 73 = .ok (.aload_n 0, 1) := by decide +kernel
theorem dX11_pours_74 : decode cX11_pours 74 = .ok (.getfield 117, 3) := by decide +kernel
theorem dX11_pours_77 : decode cX11_pours 77 = .ok (.iload_n 3, 1) := by decide +kernel
theorem dX11_pours_78 : decode cX11_pours 78 = .ok (.aload_n 0, 1) := by decide +kernel
theorem dX11_pours_79 : decode cX11_pours 79 = .ok (.getfield 117, 3) := by decide +kernel
theorem dX11_pours_82 : decode cX11_pours 82 = .ok (.iload_n 3, 1) := by decide +kernel
theorem dX11_pours_83 : decode cX11_pours 83 = .ok (.iaload, 1) := by decide +kernel
theorem dX11_pours_84 : decode cX11_pours 84 = .ok (.iload 4, 2) := by decide +kernel
theorem dX11_pours_86 : decode cX11_pours 86 = .ok (.iadd, 1) := by decide +kernel
theorem dX11_pours_87 : decode cX11_pours 87 = .ok (.iastore, 1) := by decide +kernel
theorem dX11_pours_88 : decode cX11_pours 88 = .ok (.aload_n 0, 1) := by decide +kernel
theorem dX11_pours_89 : decode cX11_pours 89 = .ok (.aload_n 0, 1) := by decide +kernel
theorem dX11_pours_90 : decode cX11_pours 90 = .ok (.getfield 117, 3) := by decide +kernel
theorem dX11_pours_93 : decode cX11_pours 93 = .ok (.iconst 0, 1) := by decide +kernel
theorem dX11_pours_94 : decode cX11_pours 94 = .ok (.iaload, 1) := by decide +kernel
theorem dX11_pours_95 : decode cX11_pours 95 = .ok (.aload_n 0, 1) := by decide +kernel
theorem dX11_pours_96 : decode cX11_pours 96 = .ok (.getfield 117, 3) := by decide +kernel
theorem dX11_pours_99 : decode cX11_pours 99 = .ok (.iconst 1, 1) := by decide +kernel
theorem dX11_pours_100 : decode cX11_pours 100 = .ok (.iaload, 1) := by decide +kernel
theorem dX11_pours_101 : decode cX11_pours 101 = .ok (.aload_n 0, 1) := by decide +kernel
theorem dX11_pours_102 : decode cX11_pours 102 = .ok (.getfield 117, 3) := by decide +kernel
theorem dX11_pours_105 : decode cX11_pours 105 = .ok (.iconst 2, 1) := by decide +kernel
theorem dX11_pours_106 : decode cX11_pours 106 = .ok (.iaload, 1) := by decide +kernel
theorem dX11_pours_107 : decode cX11_pours 107 = .ok (.invokestatic 392, 3) := by decide +kernel
theorem dX11_pours_110 : decode cX11_pours 110 = .ok (.aload_n 0, 1) := by decide +kernel
theorem dX11_pours_111 : decode cX11_pours 111 = .ok (.getfield 123, 3) := by decide +kernel
theorem dX11_pours_114 : decode cX11_pours 114 = .ok (.iload_n 1, 1) := by decide +kernel
theorem dX11_pours_115 : decode cX11_pours 115 = .ok (.iaload, 1) := by decide +kernel
theorem dX11_pours_116 : decode cX11_pours 116 = .ok (.iconst 1, 1) := by decide +kernel
theorem dX11_pours_117 : decode cX11_pours 117 = .ok (.iadd, 1) := by decide +kernel
theorem dX11_pours_118 : decode cX11_pours 118 = .ok (.invokevirtual 396, 3) := by decide +kernel
theorem dX11_pours_121 : decode cX11_pours 121 = .ok (.return_, 1) := by decide +kernel
theorem dX11_butts_0 : decode cX11_butts 0 = .ok (.iload_n 1, 1) := by decide +kernel
theorem dX11_butts_1 : decode cX11_butts 1 = .ok (.iconst 0, 1) := by decide +kernel
theorem dX11_butts_2 : decode cX11_butts 2 = .ok (.bipush 20, 2) := by decide +kernel
theorem dX11_butts_4 : decode cX11_butts 4 = .ok (.invokestatic 137, 3) := by decide +kernel
theorem dX11_butts_7 : decode cX11_butts 7 = .ok (.ifCond .eq 12, 3) := by decide +kernel
theorem dX11_butts_10 : decode cX11_butts 10 = .ok (.aload_n 0, 1) := by decide +kernel
theorem dX11_butts_11 : decode cX11_butts 11 = .ok (.getfield 159, 3) := by decide +kernel
theorem dX11_butts_14 : decode cX11_butts 14 = .ok (.bipush 6, 2) := by decide +kernel
theorem dX11_butts_16 : decode cX11_butts 16 = .ok (.if_icmp .ge 5, 3) := by decide +kernel
theorem dX11_butts_19 : decode cX11_butts 19 = .ok (.iconst (-1), 1) := by decide +kernel
theorem dX11_butts_20 : decode cX11_butts 20 = .ok (.ireturn, 1) := by decide +kernel
theorem dX11_butts_21 : decode cX11_butts 21 = .ok (.aload_n 0, 1) := by decide +kernel
theorem dX11_butts_22 : decode cX11_butts 22 = .ok (.iconst 0, 1) := by decide +kernel
theorem dX11_butts_23 : decode cX11_butts 23 = .ok (.putfield 159, 3) := by decide +kernel
theorem dX11_butts_26 : decode cX11_butts 26 = .ok (.iconst 0, 1) := by decide +kernel
theorem dX11_butts_27 : decode cX11_butts 27 = .ok (.istore_n 2, 1) := by decide +kernel
theorem dX11_butts_28 : decode cX11_butts 28 = .ok (.iload_n 2, 1) := by decide +kernel
theorem dX11_butts_29 : decode cX11_butts 29 = .ok (.iconst 3, 1) := by decide +kernel
theorem dX11_butts_30 : decode cX11_butts 30 = .ok (.if_icmp .ge 50, 3) := by decide +kernel
theorem dX11_butts_33 : decode cX11_butts 33 = .ok (.aload_n 0, 1) := by decide +kernel
theorem dX11_butts_34 : decode cX11_butts 34 = .ok (.getfield 114, 3) := by decide +kernel
theorem dX11_butts_37 : decode cX11_butts 37 = .ok (.iload_n 2, 1) := by decide +kernel
theorem dX11_butts_38 : decode cX11_butts 38 = .ok (.aload_n 0, 1) := by decide +kernel
theorem dX11_butts_39 : decode cX11_butts 39 = .ok (.iload_n 2, 1) := by decide +kernel
theorem dX11_butts_40 : decode cX11_butts 40 = .ok (.invokevirtual 172, 3) := by decide +kernel
theorem dX11_butts_43 : decode cX11_butts 43 = .ok (.iastore, 1) := by decide +kernel
theorem dX11_butts_44 : decode cX11_butts 44 = .ok (.aload_n 0, 1) := by decide +kernel
theorem dX11_butts_45 : decode cX11_butts 45 = .ok (.getfield 114, 3) := by decide +kernel
theorem dX11_butts_48 : decode cX11_butts 48 = .ok (.iload_n 2, 1) := by decide +kernel
theorem dX11_butts_49 : decode cX11_butts 49 = .ok (.iaload, 1) := by decide +kernel
theorem dX11_butts_50 : decode cX11_butts 50 = .ok (.bipush 20, 2) := by decide +kernel
theorem dX11_butts_52 : decode cX11_butts 52 = .ok (.if_icmp .gt 19, 3) := by decide +kernel
theorem dX11_butts_55 : decode cX11_butts 55 = .ok (.aload_n 0, 1) := by decide +kernel
theorem dX11_butts_56 : decode cX11_butts 56 = .ok (.iconst 3, 1) := by decide +kernel
theorem dX11_butts_57 : decode cX11_butts 57 = .ok (.iload_n 2, 1) := by decide +kernel
theorem dX11_butts_58 : decode cX11_butts 58 = .ok (.iadd, 1) := by decide +kernel
theorem dX11_butts_59 : decode cX11_butts 59 = .ok (.invokevirtual 172, 3) := by decide +kernel
theorem dX11_butts_62 : decode cX11_butts 62 = .ok (.aload_n 0, 1) := by decide +kernel
theorem dX11_butts_63 : decode cX11_butts 63 = .ok (.getfield 114, 3) := by decide +kernel
theorem dX11_butts_66 : decode cX11_butts 66 = .ok (.iload_n 2, 1) := by decide +kernel
theorem dX11_butts_67 : decode cX11_butts 67 = .ok (.iaload, 1) := by decide +kernel
theorem dX11_butts_68 : decode cX11_butts 68 = .ok (.if_icmp .le 6, 3) := by decide +kernel
theorem dX11_butts_71 : decode cX11_butts 71 = .ok (.bipush (-3), 2) := by decide +kernel
theorem dX11_butts_73 : decode cX11_butts 73 = .ok (.ireturn, 1) := by decide +kernel
theorem dX11_butts_74 : decode cX11_butts 74 = .ok (.iinc 2 1, 3) := by decide +kernel
theorem dX11_butts_77 : decode cX11_butts 77 = .ok (.goto (-49), 3) := by decide +kernel
theorem dX11_butts_80 : decode cX11_butts 80 = .ok (.iconst 0, 1) := by decide +kernel
theorem dX11_butts_81 : decode cX11_butts 81 = .ok (.istore_n 2, 1) := by decide +kernel
theorem dX11_butts_82 : decode cX11_butts 82 = .ok (.iload_n 2, 1) := by decide +kernel
theorem dX11_butts_83 : decode cX11_butts 83 = .ok (.sipush 9261, 3) := by decide +kernel
theorem dX11_butts_86 : decode cX11_butts 86 = .ok (.if_icmp .ge 16, 3) := by decide +kernel
theorem dX11_butts_89 : decode cX11_butts 89 = .ok (.aload_n 0, 1) := by decide +kernel
theorem dX11_butts_90 : decode cX11_butts 90 = .ok (.getfield 123, 3) := by decide +kernel
theorem dX11_butts_93 : decode cX11_butts 93 = .ok (.iload_n 2, 1) := by decide +kernel
theorem dX11_butts_94 : decode cX11_butts 94 = .ok (.iconst (-1), 1) := by decide +kernel
theorem dX11_butts_95 : decode cX11_butts 95 = .ok (.iastore, 1) := by decide +kernel
theorem dX11_butts_96 : decode cX11_butts 96 = .ok (.iinc 2 1, 3) := by decide +kernel
theorem dX11_butts_99 : decode cX11_butts 99 = .ok (.goto (-17), 3) := by decide +kernel
theorem dX11_butts_102 : decode cX11_butts 102 = .ok (.aload_n 0, 1) := by decide +kernel
theorem dX11_butts_103 : decode cX11_butts 103 = .ok (.iconst 0, 1) := by decide +kernel
theorem dX11_butts_104 : decode cX11_butts 104 = .ok (.putfield 389, 3) := by decide +kernel
theorem dX11_butts_107 : decode cX11_butts 107 = .ok (.aload_n 0, 1) := by decide +kernel
theorem dX11_butts_108 : decode cX11_butts 108 = .ok (.aload_n 0, 1) := by decide +kernel
theorem dX11_butts_109 : decode cX11_butts 109 = .ok (.iconst 3, 1) := by decide +kernel
theorem dX11_butts_110 : decode cX11_butts 110 = .ok (.invokevirtual 172, 3) := by decide +kernel
theorem dX11_butts_113 : decode cX11_butts 113 = .ok (.aload_n 0, 1) := by decide +kernel
theorem dX11_butts_114 : decode cX11_butts 114 = .ok (.iconst 4, 1) := by decide +kernel
theorem dX11_butts_115 : decode cX11_butts 115 = .ok (.invokevirtual 172, 3) := by decide +kernel
theorem dX11_butts_118 : decode cX11_butts 118 = .ok (.aload_n 0, 1) := by decide +kernel
theorem dX11_butts_119 : decode cX11_butts 119 = .ok (.iconst 5, 1) := by decide +kernel
theorem dX11_butts_120 : decode cX11_butts 120 = .ok (.invokevirtual 172, 3) := by decide +kernel
theorem dX11_butts_123 : decode cX11_butts 123 = .ok (.invokestatic 392, 3) := by decide +kernel
theorem dX11_butts_126 : decode cX11_butts 126 = .ok (.iconst 0, 1) := by decide +kernel
theorem dX11_butts_127 : decode cX11_butts 127 = .ok (.invokevirtual 396, 3) := by decide +kernel
theorem dX11_butts_130 : decode cX11_butts 130 = .ok (.iconst 0, 1) := by decide +kernel
theorem dX11_butts_131 : decode cX11_butts 131 = .ok (.istore_n 2, 1) := by decide +kernel
theorem dX11_butts_132 : decode cX11_butts 132 = .ok (.iload_n 2, 1) := by decide +kernel
theorem dX11_butts_133 : decode cX11_butts 133 = .ok (.aload_n 0, 1) := by decide +kernel
theorem dX11_butts_134 : decode cX11_butts 134 = .ok (.getfield 389, 3) := by decide +kernel
theorem dX11_butts_137 : decode cX11_butts 137 = .ok (.if_icmp .ge 97, 3) := by decide +kernel
theorem dX11_butts_140 : decode cX11_butts 140 = .ok (.aload_n 0, 1) := by decide +kernel
theorem dX11_butts_141 : decode cX11_butts 141 = .ok (.getfield 120, 3) := by decide +kernel
theorem dX11_butts_144 : decode cX11_butts 144 = .ok (.iload_n 2, 1) := by decide +kernel
theorem dX11_butts_145 : decode cX11_butts 145 = .ok (.iaload, 1) := by decide +kernel
theorem dX11_butts_146 : decode cX11_butts 146 = .ok (.istore_n 3, 1) := by decide +kernel
theorem dX11_butts_147 : decode cX11_butts 147 = .ok (.iload_n 3, 1) := by decide +kernel
theorem dX11_butts_148 : decode cX11_butts 148 = .ok (.bipush 21, 2) := by decide +kernel
theorem dX11_butts_150 : decode cX11_butts 150 = .ok (.irem, 1) := by decide +kernel
theorem dX11_butts_151 : decode cX11_butts 151 = .ok (.iload_n 1, 1) := by decide +kernel
theorem dX11_butts_152 : decode cX11_butts 152 = .ok (.if_icmp .eq 23, 3) := by decide +kernel
theorem dX11_butts_155 : decode cX11_butts 155 = .ok (.iload_n 3, 1) := by decide +kernel
theorem dX11_butts_156 : decode cX11_butts 156 = .ok (.bipush 21, 2) := by decide +kernel
theorem dX11_butts_158 : decode cX11_butts 158 = .ok (.idiv, 1) := by decide +kernel
theorem dX11_butts_159 : decode cX11_butts 159 = .ok (.bipush 21, 2) := by decide +kernel
theorem dX11_butts_161 : decode cX11_butts 161 = .ok (.irem, 1) := by decide +kernel
theorem dX11_butts_162 : decode cX11_butts 162 = .ok (.iload_n 1, 1) := by decide +kernel
theorem dX11_butts_163 : decode cX11_butts 163 = .ok (.if_icmp .eq 12, 3) := by decide +kernel
theorem dX11_butts_166 : decode cX11_butts 166 = .ok (.iload_n 3, 1) := by decide +kernel
theorem dX11_butts_167 : decode cX11_butts 167 = .ok (.sipush 441, 3) := by decide +kernel
theorem dX11_butts_170 : decode cX11_butts 170 = .ok (.idiv, 1) := by decide +kernel
theorem dX11_butts_171 : decode cX11_butts 171 = .ok (.iload_n 1, 1) := by decide +kernel
theorem dX11_butts_172 : decode cX11_butts 172 = .ok (.if_icmp .ne 10, 3) := by decide +kernel
theorem dX11_butts_175 : decode cX11_butts 175 = .ok (.aload_n 0, 1) := by decide +kernel
theorem dX11_butts_176 : decode cX11_butts 176 = .ok (.getfield 123, 3) := by decide +kernel
theorem dX11_butts_179 : decode cX11_butts 179 = .ok (.iload_n 3, 1) := by decide +kernel
theorem dX11_butts_180 : decode cX11_butts 180 = .ok (.iaload, 1) := by decide +kernel
theorem dX11_butts_181 : decode cX11_butts 181 = .ok (.ireturn, 1) := by decide +kernel
theorem dX11_butts_182 : decode cX11_butts 182 = .ok (.iconst 0, 1) := by decide +kernel
theorem dX11_butts_183 : decode cX11_butts 183 = .ok (.istore 4, 2) := by decide +kernel
theorem dX11_butts_185 : decode cX11_butts 185 = .ok (.iload 4, 2) := by decide +kernel
theorem dX11_butts_187 : decode cX11_butts 187 = .ok (.iconst 3, 1) := by decide +kernel
theorem dX11_butts_188 : decode cX11_butts 188 = .ok (.if_icmp .ge 40, 3) := by decide +kernel
theorem dX11_butts_191 : decode cX11_butts 191 = .ok (.iconst 0, 1) := by decide +kernel
theorem dX11_butts_192 : decode cX11_butts 192 = .ok (.istore 5, 2) := by decide +kernel
theorem dX11_butts_194 : decode cX11_butts 194 = .ok (.iload 5, 2) := by decide +kernel
theorem dX11_butts_196 : decode cX11_butts 196 = .ok (.iconst 3, 1) := by decide +kernel
theorem dX11_butts_197 : decode cX11_butts 197 = .ok (.if_icmp .ge 25, 3) := by decide +kernel
theorem dX11_butts_200 : decode cX11_butts 200 = .ok (.iload 4, 2) := by decide +kernel
theorem dX11_butts_202 : decode cX11_butts 202 = .ok (.iload 5, 2) := by decide +kernel
theorem dX11_butts_204 : decode cX11_butts 204 = .ok (.if_icmp .eq 12, 3) := by decide +kernel
theorem dX11_butts_207 : decode cX11_butts 207 = .ok (.aload_n 0, 1) := by decide +kernel
theorem dX11_butts_208 : decode cX11_butts 208 = .ok (.iload_n 3, 1) := by decide +kernel
theorem dX11_butts_209 : decode cX11_butts 209 = .ok (.iload 4, 2) := by decide +kernel
theorem dX11_butts_211 : decode cX11_butts 211 = .ok (.iload 5, 2) := by decide +kernel
theorem dX11_butts_213 : decode cX11_butts 213 = .ok (.invokevirtual 399, 3) := by decide +kernel
theorem dX11_butts_216 : decode cX11_butts 216 = .ok (.iinc 5 1, 3) := by decide +kernel
theorem dX11_butts_219 : decode cX11_butts 219 = .ok (.goto (-25), 3) := by decide +kernel
theorem dX11_butts_222 : decode cX11_butts 222 = .ok (.iinc 4 1, 3) := by decide +kernel
theorem dX11_butts_225 : decode cX11_butts 225 = .ok (.goto (-40), 3) := by decide +kernel
theorem dX11_butts_228 : decode cX11_butts 228 = .ok (.iinc 2 1, 3) := by decide +kernel
theorem dX11_butts_231 : decode cX11_butts 231 = .ok (.goto (-99), 3) := by decide +kernel
theorem dX11_butts_234 : decode cX11_butts 234 = .ok (.bipush (-2), 2) := by decide +kernel
theorem dX11_butts_236 : decode cX11_butts 236 = .ok (.ireturn, 1) := by decide +kernel
theorem dX11_howOld_0 : decode cX11_howOld 0 = .ok (.iload_n 1, 1) := by decide +kernel
theorem dX11_howOld_1 : decode cX11_howOld 1 = .ok (.iconst 1, 1) := by decide +kernel
theorem dX11_howOld_2 : decode cX11_howOld 2 = .ok (.bipush 6, 2) := by decide +kernel
theorem dX11_howOld_4 : decode cX11_howOld 4 = .ok (.invokestatic 137, 3) := by decide +kernel
theorem dX11_howOld_7 : decode cX11_howOld 7 = .ok (.ifCond .eq 35, 3) := by decide +kernel
theorem dX11_howOld_10 : decode cX11_howOld 10 = .ok (.iload_n 2, 1) := by decide +kernel
theorem dX11_howOld_11 : decode cX11_howOld 11 = .ok (.iconst 0, 1) := by decide +kernel
theorem dX11_howOld_12 : decode cX11_howOld 12 = .ok (.sipush 400, 3) := by decide +kernel
theorem dX11_howOld_15 : decode cX11_howOld 15 = .ok (.invokestatic 137, 3) := by decide +kernel
theorem dX11_howOld_18 : decode cX11_howOld 18 = .ok (.ifCond .eq 24, 3) := by decide +kernel
theorem dX11_howOld_21 : decode cX11_howOld 21 = .ok (.iload_n 3, 1) := by decide +kernel
theorem dX11_howOld_22 : decode cX11_howOld 22 = .ok (.iconst 0, 1) := by decide +kernel
theorem dX11_howOld_23 : decode cX11_howOld 23 = .ok (.bipush 99, 2) := by decide +kernel
theorem dX11_howOld_25 : decode cX11_howOld 25 = .ok (.invokestatic 137, 3) := by decide +kernel
theorem dX11_howOld_28 : decode cX11_howOld 28 = .ok (.ifCond .eq 14, 3) := by decide +kernel
theorem dX11_howOld_31 : decode cX11_howOld 31 = .ok (.iload 4, 2) := by decide +kernel
theorem dX11_howOld_33 : decode cX11_howOld 33 = .ok (.iload_n 3, 1) := by decide +kernel
theorem dX11_howOld_34 : decode cX11_howOld 34 = .ok (.bipush 99, 2) := by decide +kernel
theorem dX11_howOld_36 : decode cX11_howOld 36 = .ok (.invokestatic 137, 3) := by decide +kernel
theorem dX11_howOld_39 : decode cX11_howOld 39 = .ok (.ifCond .ne 7, 3) := by decide +kernel
theorem dX11_howOld_42 : decode cX11_howOld 42 = .ok (.ldc2_w 403, 3) := by decide +kernel
theorem dX11_howOld_45 : decode cX11_howOld 45 = .ok (.lreturn, 1) := by decide +kernel
theorem dX11_howOld_46 : decode cX11_howOld 46 = .ok (.iconst 0, 1) := by decide +kernel
theorem dX11_howOld_47 : decode cX11_howOld 47 = .ok (.istore 5, 2) := by decide +kernel
theorem dX11_howOld_49 : decode cX11_howOld 49 = .ok (.iload 5, 2) := by decide +kernel
theorem dX11_howOld_51 : decode cX11_howOld 51 = .ok (.sipush 2807, 3) := by decide +kernel
theorem dX11_howOld_54 : decode cX11_howOld 54 = .ok (.if_icmp .ge 17, 3) := by decide +kernel
theorem dX11_howOld_57 : decode cX11_howOld 57 = .ok (.aload_n 0, 1) := by decide +kernel
theorem dX11_howOld_58 : decode cX11_howOld 58 = .ok (.getfield 126, 3) := by decide +kernel
theorem dX11_howOld_61 : decode cX11_howOld 61 = .ok (.iload 5, 2) := by decide +kernel
theorem dX11_howOld_63 : decode cX11_howOld 63 = .ok (.lconst 0, 1) := by decide +kernel
theorem dX11_howOld_64 : decode cX11_howOld 64 = .ok (.lastore, 1) := by decide +kernel
theorem dX11_howOld_65 : decode cX11_howOld 65 = .ok (.iinc 5 1, 3) := by decide +kernel
theorem dX11_howOld_68 : decode cX11_howOld 68 = .ok (.goto (-19), 3) := by decide +kernel
theorem dX11_howOld_71 : decode cX11_howOld 71 = .ok (.aload_n 0, 1) := by decide +kernel
theorem dX11_howOld_72 : decode cX11_howOld 72 = .ok (.getfield 126, 3) := by decide +kernel
theorem dX11_howOld_75 : decode cX11_howOld 75 = .ok (.iconst 0, 1) := by decide +kernel
theorem dX11_howOld_76 : decode cX11_howOld 76 = .ok (.lconst 1, 1) := by decide +kernel
theorem dX11_howOld_77 : decode cX11_howOld 77 = .ok (.lastore, 1) := by decide +kernel
theorem dX11_howOld_78 : decode cX11_howOld 78 = .ok (.iload_n 3, 1) := by decide +kernel
theorem dX11_howOld_79 : decode cX11_howOld 79 = .ok (.istore 5, 2) := by decide +kernel
theorem dX11_howOld_81 : decode cX11_howOld 81 = .ok (.iload 5, 2) := by decide +kernel
theorem dX11_howOld_83 : decode cX11_howOld 83 = .ok (.iload 4, 2) := by decide +kernel
theorem dX11_howOld_85 : decode cX11_howOld 85 = .ok (.if_icmp .gt 88, 3) := by decide +kernel
theorem dX11_howOld_88 : decode cX11_howOld 88 = .ok (.iconst 1, 1) := by decide +kernel
theorem dX11_howOld_89 : decode cX11_howOld 89 = .ok (.istore 6, 2) := by decide +kernel
theorem dX11_howOld_91 : decode cX11_howOld 91 = .ok (.iload 6, 2) := by decide +kernel
theorem dX11_howOld_93 : decode cX11_howOld 93 = .ok (.iload_n 1, 1) := by decide +kernel
theorem dX11_howOld_94 : decode cX11_howOld 94 = .ok (.if_icmp .gt 73, 3) := by decide +kernel
theorem dX11_howOld_97 : decode cX11_howOld 97 = .ok (.iload 5, 2) := by decide +kernel
theorem dX11_howOld_99 : decode cX11_howOld 99 = .ok (.istore 7, 2) := by decide +kernel
theorem dX11_howOld_101 : decode cX11_howOld 101 = .ok (.iload 7, 2) := by decide +kernel
theorem dX11_howOld_103 : decode cX11_howOld 103 = .ok (.iload_n 2, 1) := by decide +kernel
theorem dX11_howOld_104 : decode cX11_howOld 104 = .ok (.if_icmp .gt 57, 3) := by decide +kernel
theorem dX11_howOld_107 : decode cX11_howOld 107 = .ok (.aload_n 0, 1) := by decide +kernel
theorem dX11_howOld_108 : decode cX11_howOld 108 = .ok (.getfield 126, 3) := by decide +kernel
theorem dX11_howOld_111 : decode cX11_howOld 111 = .ok (.sipush 401, 3) := by decide +kernel
theorem dX11_howOld_114 : decode cX11_howOld 114 = .ok (.iload 6, 2) := by decide +kernel
theorem dX11_howOld_116 : decode cX11_howOld 116 = .ok (.imul, 1) := by decide +kernel
theorem dX11_howOld_117 : decode cX11_howOld 117 = .ok (.iload 7, 2) := by decide +kernel
theorem dX11_howOld_119 : decode cX11_howOld 119 = .ok (.iadd, 1) := by decide +kernel
theorem dX11_howOld_120 : decode cX11_howOld 120 = .ok (.aload_n 0, 1) := by decide +kernel
theorem dX11_howOld_121 : decode cX11_howOld 121 = .ok (.getfield 126, 3) := by decide +kernel
theorem dX11_howOld_124 : decode cX11_howOld 124 = .ok (.sipush 401, 3) := by decide +kernel
theorem dX11_howOld_127 : decode cX11_howOld 127 = .ok (.iload 6, 2) := by decide +kernel
theorem dX11_howOld_129 : decode cX11_howOld 129 = .ok (.imul, 1) := by decide +kernel
theorem dX11_howOld_130 : decode cX11_howOld 130 = .ok (.iload 7, 2) := by decide +kernel
theorem dX11_howOld_132 : decode cX11_howOld 132 = .ok (.iadd, 1) := by decide +kernel
theorem dX11_howOld_133 : decode cX11_howOld 133 = .ok (.laload, 1) := by decide +kernel
theorem dX11_howOld_134 : decode cX11_howOld 134 = .ok (.aload_n 0, 1) := by decide +kernel
theorem dX11_howOld_135 : decode cX11_howOld 135 = .ok (.getfield 126, 3) := by decide +kernel
theorem dX11_howOld_138 : decode cX11_howOld 138 = .ok (.sipush 401, 3) := by decide +kernel
theorem dX11_howOld_141 : decode cX11_howOld 141 = .ok (.iload 6, 2) := by decide +kernel
theorem dX11_howOld_143 : decode cX11_howOld 143 = .ok (.iconst 1, 1) := by decide +kernel
theorem dX11_howOld_144 : decode cX11_howOld 144 = .ok (.isub, 1) := by decide +kernel
theorem dX11_howOld_145 : decode cX11_howOld 145 = .ok (.imul, 1) := by decide +kernel
theorem dX11_howOld_146 : decode cX11_howOld 146 = .ok (.iload 7, 2) := by decide +kernel
theorem dX11_howOld_148 : decode cX11_howOld 148 = .ok (.iadd, 1) := by decide +kernel
theorem dX11_howOld_149 : decode cX11_howOld 149 = .ok (.iload 5, 2) := by decide +kernel
theorem dX11_howOld_151 : decode cX11_howOld 151 = .ok (.isub, 1) := by decide +kernel
theorem dX11_howOld_152 : decode cX11_howOld 152 = .ok (.laload, 1) := by decide +kernel
theorem dX11_howOld_153 : decode cX11_howOld 153 = .ok (.ladd, 1) := by decide +kernel
theorem dX11_howOld_154 : decode cX11_howOld 154 = .ok (.lastore, 1) := by decide +kernel
theorem dX11_howOld_155 : decode cX11_howOld 155 = .ok (.iinc 7 1, 3) := by decide +kernel
theorem dX11_howOld_158 : decode cX11_howOld 158 = .ok (.goto (-57), 3) := by decide +kernel
theorem dX11_howOld_161 : decode cX11_howOld 161 = .ok (.iinc 6 1, 3) := by decide +kernel
theorem dX11_howOld_164 : decode cX11_howOld 164 = .ok (.goto (-73), 3) := by decide +kernel
theorem dX11_howOld_167 : decode cX11_howOld 167 = .ok (.iinc 5 1, 3) := by decide +kernel
theorem dX11_howOld_170 : decode cX11_howOld 170 = .ok (.goto (-89), 3) := by decide +kernel
theorem dX11_howOld_173 : decode cX11_howOld 173 = .ok (.aload_n 0, 1) := by decide +kernel
theorem dX11_howOld_174 : decode cX11_howOld 174 = .ok (.getfield 126, 3) := by decide +kernel
theorem dX11_howOld_177 : decode cX11_howOld 177 = .ok (.sipush 401, 3) := by decide +kernel
theorem dX11_howOld_180 : decode cX11_howOld 180 = .ok (.iload_n 1, 1) := by decide +kernel
theorem dX11_howOld_181 : decode cX11_howOld 181 = .ok (.imul, 1) := by decide +kernel
theorem dX11_howOld_182 : decode cX11_howOld 182 = .ok (.iload_n 2, 1) := by decide +kernel
theorem dX11_howOld_183 : decode cX11_howOld 183 = .ok (.iadd, 1) := by decide +kernel
theorem dX11_howOld_184 : decode cX11_howOld 184 = .ok (.laload, 1) := by decide +kernel
theorem dX11_howOld_185 : decode cX11_howOld 185 = .ok (.lreturn, 1) := by decide +kernel
theorem dX11_plain_0 : decode cX11_plain 0 = .ok (.iload_n 1, 1) := by decide +kernel
theorem dX11_plain_1 : decode cX11_plain 1 = .ok (.iconst 0, 1) := by decide +kernel
theorem dX11_plain_2 : decode cX11_plain 2 = .ok (.bipush 15, 2) := by decide +kernel
theorem dX11_plain_4 : decode cX11_plain 4 = .ok (.invokestatic 137, 3) := by decide +kernel
theorem dX11_plain_7 : decode cX11_plain 7 = .ok (.ifCond .eq 24, 3) := by decide +kernel
theorem dX11_plain_10 : decode cX11_plain 10 = .ok (.aload_n 0, 1) := by decide +kernel
theorem dX11_plain_11 : decode cX11_plain 11 = .ok (.getfield 149, 3) := by decide +kernel
theorem dX11_plain_14 : decode cX11_plain 14 = .ok (.iload_n 1, 1) := by decide +kernel
theorem dX11_plain_15 : decode cX11_plain 15 = .ok (.invokestatic 133, 3) := by decide +kernel
theorem dX11_plain_18 : decode cX11_plain 18 = .ok (.ifCond .eq 13, 3) := by decide +kernel
theorem dX11_plain_21 : decode cX11_plain 21 = .ok (.iload_n 2, 1) := by decide +kernel
theorem dX11_plain_22 : decode cX11_plain 22 = .ok (.iconst 0, 1) := by decide +kernel
theorem dX11_plain_23 : decode cX11_plain 23 = .ok (.bipush 6, 2) := by decide +kernel
theorem dX11_plain_25 : decode cX11_plain 25 = .ok (.invokestatic 137, 3) := by decide +kernel
theorem dX11_plain_28 : decode cX11_plain 28 = .ok (.ifCond .ne 5, 3) := by decide +kernel
theorem dX11_plain_31 : decode cX11_plain 31 = .ok (.iconst 0, 1) := by decide +kernel
theorem dX11_plain_32 : decode cX11_plain 32 = .ok (.ireturn, 1) := by decide +kernel
theorem dX11_plain_33 : decode cX11_plain 33 = .ok (.iload_n 2, 1) := by decide +kernel
theorem dX11_plain_34 : decode cX11_plain 34 = .ok (.bipush 6, 2) := by decide +kernel
theorem dX11_plain_36 : decode cX11_plain 36 = .ok (.if_icmp .ne 12, 3) := by decide +kernel
theorem dX11_plain_39 : decode cX11_plain 39 = .ok (.aload_n 0, 1) := by decide +kernel
theorem dX11_plain_40 : decode cX11_plain 40 = .ok (.getfield 28, 3) := by decide +kernel
theorem dX11_plain_43 : decode cX11_plain 43 = .ok (.iload_n 1, 1) := by decide +kernel
theorem dX11_plain_44 : decode cX11_plain 44 = .ok (.iaload, 1) := by decide +kernel
theorem dX11_plain_45 : decode cX11_plain 45 = .ok (.goto 14, 3) := by decide +kernel
theorem dX11_plain_48 : decode cX11_plain 48 = .ok (.aload_n 0, 1) := by decide +kernel
theorem dX11_plain_49 : decode cX11_plain 49 = .ok (.getfield 22, 3) := by decide +kernel
theorem dX11_plain_52 : decode cX11_plain 52 = .ok (.bipush 6, 2) := by decide +kernel
theorem dX11_plain_54 : decode cX11_plain 54 = .ok (.iload_n 1, 1) := by decide +kernel
theorem dX11_plain_55 : decode cX11_plain 55 = .ok (.imul, 1) := by decide +kernel
theorem dX11_plain_56 : decode cX11_plain 56 = .ok (.iload_n 2, 1) := by decide +kernel
theorem dX11_plain_57 : decode cX11_plain 57 = .ok (.iadd, 1) := by decide +kernel
theorem dX11_plain_58 : decode cX11_plain 58 = .ok (.iaload, 1) := by decide +kernel
theorem dX11_plain_59 : decode cX11_plain 59 = .ok (.ireturn, 1) := by decide +kernel
theorem dX11_remarkIs_0 : decode cX11_remarkIs 0 = .ok (.iload_n 1, 1) := by decide +kernel
theorem dX11_remarkIs_1 : decode cX11_remarkIs 1 = .ok (.iconst 0, 1) := by decide +kernel
theorem dX11_remarkIs_2 : decode cX11_remarkIs 2 = .ok (.bipush 15, 2) := by decide +kernel
theorem dX11_remarkIs_4 : decode cX11_remarkIs 4 = .ok (.invokestatic 137, 3) := by decide +kernel
theorem dX11_remarkIs_7 : decode cX11_remarkIs 7 = .ok (.ifCond .eq 33, 3) := by decide +kernel
theorem dX11_remarkIs_10 : decode cX11_remarkIs 10 = .ok (.aload_n 0, 1) := by decide +kernel
theorem dX11_remarkIs_11 : decode cX11_remarkIs 11 = .ok (.getfield 149, 3) := by decide +kernel
theorem dX11_remarkIs_14 : decode cX11_remarkIs 14 = .ok (.iload_n 1, 1) := by decide +kernel
theorem dX11_remarkIs_15 : decode cX11_remarkIs 15 = .ok (.invokestatic 133, 3) := by decide +kernel
theorem dX11_remarkIs_18 : decode cX11_remarkIs 18 = .ok (.ifCond .eq 22, 3) := by decide +kernel
theorem dX11_remarkIs_21 : decode cX11_remarkIs 21 = .ok (.iload_n 2, 1) := by decide +kernel
theorem dX11_remarkIs_22 : decode cX11_remarkIs 22 = .ok (.iload_n 1, 1) := by decide +kernel
theorem dX11_remarkIs_23 : decode cX11_remarkIs 23 = .ok (.bipush 9, 2) := by decide +kernel
theorem dX11_remarkIs_25 : decode cX11_remarkIs 25 = .ok (.if_icmp .le 7, 3) := by decide +kernel
theorem dX11_remarkIs_28 : decode cX11_remarkIs 28 = .ok (.iconst 2, 1) := by decide +kernel
theorem dX11_remarkIs_29 : decode cX11_remarkIs 29 = .ok (.goto 4, 3) := by decide +kernel
theorem dX11_remarkIs_32 : decode cX11_remarkIs 32 = .ok (.iconst 0, 1) := by decide +kernel
theorem dX11_remarkIs_33 : decode cX11_remarkIs 33 = .ok (.iconst 3, 1) := by decide +kernel
theorem dX11_remarkIs_34 : decode cX11_remarkIs 34 = .ok (.invokestatic 137, 3) := by decide +kernel
theorem dX11_remarkIs_37 : decode cX11_remarkIs 37 = .ok (.ifCond .ne 5, 3) := by decide +kernel
theorem dX11_remarkIs_40 : decode cX11_remarkIs 40 = .ok (.iconst (-1), 1) := by decide +kernel
theorem dX11_remarkIs_41 : decode cX11_remarkIs 41 = .ok (.ireturn, 1) := by decide +kernel
theorem dX11_remarkIs_42 : decode cX11_remarkIs 42 = .ok (.iload_n 2, 1) := by decide +kernel
theorem dX11_remarkIs_43 : decode cX11_remarkIs 43 = .ok (.ifCond .ne 12, 3) := by decide +kernel
theorem dX11_remarkIs_46 : decode cX11_remarkIs 46 = .ok (.aload_n 0, 1) := by decide +kernel
theorem dX11_remarkIs_47 : decode cX11_remarkIs 47 = .ok (.getfield 31, 3) := by decide +kernel
theorem dX11_remarkIs_50 : decode cX11_remarkIs 50 = .ok (.iload_n 1, 1) := by decide +kernel
theorem dX11_remarkIs_51 : decode cX11_remarkIs 51 = .ok (.iaload, 1) := by decide +kernel
theorem dX11_remarkIs_52 : decode cX11_remarkIs 52 = .ok (.goto 37, 3) := by decide +kernel
theorem dX11_remarkIs_55 : decode cX11_remarkIs 55 = .ok (.iload_n 2, 1) := by decide +kernel
theorem dX11_remarkIs_56 : decode cX11_remarkIs 56 = .ok (.iconst 1, 1) := by decide +kernel
theorem dX11_remarkIs_57 : decode cX11_remarkIs 57 = .ok (.if_icmp .ne 12, 3) := by decide +kernel
theorem dX11_remarkIs_60 : decode cX11_remarkIs 60 = .ok (.aload_n 0, 1) := by decide +kernel
theorem dX11_remarkIs_61 : decode cX11_remarkIs 61 = .ok (.getfield 34, 3) := by decide +kernel
theorem dX11_remarkIs_64 : decode cX11_remarkIs 64 = .ok (.iload_n 1, 1) := by decide +kernel
theorem dX11_remarkIs_65 : decode cX11_remarkIs 65 = .ok (.iaload, 1) := by decide +kernel
theorem dX11_remarkIs_66 : decode cX11_remarkIs 66 = .ok (.goto 23, 3) := by decide +kernel
theorem dX11_remarkIs_69 : decode cX11_remarkIs 69 = .ok (.iload_n 2, 1) := by decide +kernel
theorem dX11_remarkIs_70 : decode cX11_remarkIs 70 = .ok (.iconst 2, 1) := by decide +kernel
theorem dX11_remarkIs_71 : decode cX11_remarkIs 71 = .ok (.if_icmp .ne 12, 3) := by decide +kernel
theorem dX11_remarkIs_74 : decode cX11_remarkIs 74 = .ok (.aload_n 0, 1) := by decide +kernel
theorem dX11_remarkIs_75 : decode cX11_remarkIs 75 = .ok (.getfield 37, 3) := by decide +kernel
theorem dX11_remarkIs_78 : decode cX11_remarkIs 78 = .ok (.iload_n 1, 1) := by decide +kernel
theorem dX11_remarkIs_79 : decode cX11_remarkIs 79 = .ok (.iaload, 1) := by decide +kernel
theorem dX11_remarkIs_80 : decode cX11_remarkIs 80 = .ok (.goto 9, 3) := by decide +kernel
theorem dX11_remarkIs_83 : decode cX11_remarkIs 83 = .ok (.aload_n 0, 1) := by decide +kernel
theorem dX11_remarkIs_84 : decode cX11_remarkIs 84 = .ok (.getfield 40, 3) := by decide +kernel
theorem dX11_remarkIs_87 : decode cX11_remarkIs 87 = .ok (.iload_n 1, 1) := by decide +kernel
theorem dX11_remarkIs_88 : decode cX11_remarkIs 88 = .ok (.iaload, 1) := by decide +kernel
theorem dX11_remarkIs_89 : decode cX11_remarkIs 89 = .ok (.ireturn, 1) := by decide +kernel
theorem dX11_moves_0 : decode cX11_moves 0 = .ok (.aload_n 0, 1) := by decide +kernel
theorem dX11_moves_1 : decode cX11_moves 1 = .ok (.iconst 0, 1) := by decide +kernel
theorem dX11_moves_2 : decode cX11_moves 2 = .ok (.putfield 405, 3) := by decide +kernel
theorem dX11_moves_5 : decode cX11_moves 5 = .ok (.aload_n 0, 1) := by decide +kernel
theorem dX11_moves_6 : decode cX11_moves 6 = .ok (.aload_n 0, 1) := by decide +kernel
theorem dX11_moves_7 : decode cX11_moves 7 = .ok (.aload_n 0, 1) := by decide +kernel
theorem dX11_moves_8 : decode cX11_moves 8 = .ok (.getfield 141, 3) := by decide +kernel
theorem dX11_moves_11 : decode cX11_moves 11 = .ok (.iload_n 1, 1) := by decide +kernel
theorem dX11_moves_12 : decode cX11_moves 12 = .ok (.invokevirtual 408, 3) := by decide +kernel
theorem dX11_moves_15 : decode cX11_moves 15 = .ok (.putfield 141, 3) := by decide +kernel
theorem dX11_moves_18 : decode cX11_moves 18 = .ok (.aload_n 0, 1) := by decide +kernel
theorem dX11_moves_19 : decode cX11_moves 19 = .ok (.aload_n 0, 1) := by decide +kernel
theorem dX11_moves_20 : decode cX11_moves 20 = .ok (.aload_n 0, 1) := by decide +kernel
theorem dX11_moves_21 : decode cX11_moves 21 = .ok (.getfield 156, 3) := by decide +kernel
theorem dX11_moves_24 : decode cX11_moves 24 = .ok (.iload_n 1, 1) := by decide +kernel
theorem dX11_moves_25 : decode cX11_moves 25 = .ok (.invokevirtual 408, 3) := by decide +kernel
theorem dX11_moves_28 : decode cX11_moves 28 = .ok (.putfield 156, 3) := by decide +kernel
theorem dX11_moves_31 : decode cX11_moves 31 = .ok (.aload_n 0, 1) := by decide +kernel
theorem dX11_moves_32 : decode cX11_moves 32 = .ok (.aload_n 0, 1) := by decide +kernel
theorem dX11_moves_33 : decode cX11_moves 33 = .ok (.aload_n 0, 1) := by decide +kernel
theorem dX11_moves_34 : decode cX11_moves 34 = .ok (.getfield 149, 3) := by decide +kernel
theorem dX11_moves_37 : decode cX11_moves 37 = .ok (.iload_n 1, 1) := by decide +kernel
theorem dX11_moves_38 : decode cX11_moves 38 = .ok (.invokevirtual 408, 3) := by decide +kernel
theorem dX11_moves_41 : decode cX11_moves 41 = .ok (.putfield 149, 3) := by decide +kernel
theorem dX11_moves_44 : decode cX11_moves 44 = .ok (.aload_n 0, 1) := by decide +kernel
theorem dX11_moves_45 : decode cX11_moves 45 = .ok (.aload_n 0, 1) := by decide +kernel
theorem dX11_moves_46 : decode cX11_moves 46 = .ok (.getfield 7, 3) := by decide +kernel
theorem dX11_moves_49 : decode cX11_moves 49 = .ok (.iload_n 1, 1) := by decide +kernel
theorem dX11_moves_50 : decode cX11_moves 50 = .ok (.invokevirtual 412, 3) := by decide +kernel
theorem dX11_moves_53 : decode cX11_moves 53 = .ok (.aload_n 0, 1) := by decide +kernel
theorem dX11_moves_54 : decode cX11_moves 54 = .ok (.aload_n 0, 1) := by decide +kernel
theorem dX11_moves_55 : decode cX11_moves 55 = .ok (.getfield 13, 3) := by decide +kernel
theorem dX11_moves_58 : decode cX11_moves 58 = .ok (.iload_n 1, 1) := by decide +kernel
theorem dX11_moves_59 : decode cX11_moves 59 = .ok (.invokevirtual 412, 3) := by decide +kernel
theorem dX11_moves_62 : decode cX11_moves 62 = .ok (.aload_n 0, 1) := by decide +kernel
theorem dX11_moves_63 : decode cX11_moves 63 = .ok (.aload_n 0, 1) := by decide +kernel
theorem dX11_moves_64 : decode cX11_moves 64 = .ok (.getfield 16, 3) := by decide +kernel
theorem dX11_moves_67 : decode cX11_moves 67 = .ok (.iload_n 1, 1) := by decide +kernel
theorem dX11_moves_68 : decode cX11_moves 68 = .ok (.invokevirtual 412, 3) := by decide +kernel
theorem dX11_moves_71 : decode cX11_moves 71 = .ok (.aload_n 0, 1) := by decide +kernel
theorem dX11_moves_72 : decode cX11_moves 72 = .ok (.aload_n 0, 1) := by decide +kernel
theorem dX11_moves_73 : decode cX11_moves 73 = .ok (.getfield 19, 3) := by decide +kernel
theorem dX11_moves_76 : decode cX11_moves 76 = .ok (.iload_n 1, 1) := by decide +kernel
theorem dX11_moves_77 : decode cX11_moves 77 = .ok (.invokevirtual 412, 3) := by decide +kernel
theorem dX11_moves_80 : decode cX11_moves 80 = .ok (.aload_n 0, 1) := by decide +kernel
theorem dX11_moves_81 : decode cX11_moves 81 = .ok (.aload_n 0, 1) := by decide +kernel
theorem dX11_moves_82 : decode cX11_moves 82 = .ok (.getfield 22, 3) := by decide +kernel
theorem dX11_moves_85 : decode cX11_moves 85 = .ok (.iload_n 1, 1) := by decide +kernel
theorem dX11_moves_86 : decode cX11_moves 86 = .ok (.invokevirtual 412, 3) := by decide +kernel
theorem dX11_moves_89 : decode cX11_moves 89 = .ok (.aload_n 0, 1) := by decide +kernel
theorem dX11_moves_90 : decode cX11_moves 90 = .ok (.aload_n 0, 1) := by decide +kernel
theorem dX11_moves_91 : decode cX11_moves 91 = .ok (.getfield 25, 3) := by decide +kernel
theorem dX11_moves_94 : decode cX11_moves 94 = .ok (.iload_n 1, 1) := by decide +kernel
theorem dX11_moves_95 : decode cX11_moves 95 = .ok (.invokevirtual 412, 3) := by decide +kernel
theorem dX11_moves_98 : decode cX11_moves 98 = .ok (.aload_n 0, 1) := by decide +kernel
theorem dX11_moves_99 : decode cX11_moves 99 = .ok (.aload_n 0, 1) := by decide +kernel
theorem dX11_moves_100 : decode cX11_moves 100 = .ok (.getfield 28, 3) := by decide +kernel
theorem dX11_moves_103 : decode cX11_moves 103 = .ok (.iload_n 1, 1) := by decide +kernel
theorem dX11_moves_104 : decode cX11_moves 104 = .ok (.invokevirtual 412, 3) := by decide +kernel
theorem dX11_moves_107 : decode cX11_moves 107 = .ok (.aload_n 0, 1) := by decide +kernel
theorem dX11_moves_108 : decode cX11_moves 108 = .ok (.aload_n 0, 1) := by decide +kernel
theorem dX11_moves_109 : decode cX11_moves 109 = .ok (.getfield 31, 3) := by decide +kernel
theorem dX11_moves_112 : decode cX11_moves 112 = .ok (.iload_n 1, 1) := by decide +kernel
theorem dX11_moves_113 : decode cX11_moves 113 = .ok (.invokevirtual 412, 3) := by decide +kernel
theorem dX11_moves_116 : decode cX11_moves 116 = .ok (.aload_n 0, 1) := by decide +kernel
theorem dX11_moves_117 : decode cX11_moves 117 = .ok (.aload_n 0, 1) := by decide +kernel
theorem dX11_moves_118 : decode cX11_moves 118 = .ok (.getfield 34, 3) := by decide +kernel
theorem dX11_moves_121 : decode cX11_moves 121 = .ok (.iload_n 1, 1) := by decide +kernel
theorem dX11_moves_122 : decode cX11_moves 122 = .ok (.invokevirtual 412, 3) := by decide +kernel
theorem dX11_moves_125 : decode cX11_moves 125 = .ok (.aload_n 0, 1) := by decide +kernel
theorem dX11_moves_126 : decode cX11_moves 126 = .ok (.aload_n 0, 1) := by decide +kernel
theorem dX11_moves_127 : decode cX11_moves 127 = .ok (.getfield 37, 3) := by decide +kernel
theorem dX11_moves_130 : decode cX11_moves 130 = .ok (.iload_n 1, 1) := by decide +kernel
theorem dX11_moves_131 : decode cX11_moves 131 = .ok (.invokevirtual 412, 3) := by decide +kernel
theorem dX11_moves_134 : decode cX11_moves 134 = .ok (.aload_n 0, 1) := by decide +kernel
theorem dX11_moves_135 : decode cX11_moves 135 = .ok (.aload_n 0, 1) := by decide +kernel
theorem dX11_moves_136 : decode cX11_moves 136 = .ok (.getfield 40, 3) := by decide +kernel
theorem dX11_moves_139 : decode cX11_moves 139 = .ok (.iload_n 1, 1) := by decide +kernel
theorem dX11_moves_140 : decode cX11_moves 140 = .ok (.invokevirtual 412, 3) := by decide +kernel
theorem dX11_moves_143 : decode cX11_moves 143 = .ok (.return_, 1) := by decide +kernel
theorem dX11_moved_0 : decode cX11_moved 0 = .ok (.aload_n 0, 1) := by decide +kernel
theorem dX11_moved_1 : decode cX11_moved 1 = .ok (.getfield 405, 3) := by decide +kernel
theorem dX11_moved_4 : decode cX11_moved 4 = .ok (.istore_n 3, 1) := by decide +kernel
theorem dX11_moved_5 : decode cX11_moved 5 = .ok (.aload_n 0, 1) := by decide +kernel
theorem dX11_moved_6 : decode cX11_moved 6 = .ok (.aload_n 0, 1) := by decide +kernel
theorem dX11_moved_7 : decode cX11_moved 7 = .ok (.getfield 405, 3) := by decide +kernel
theorem dX11_moved_10 : decode cX11_moved 10 = .ok (.iconst 1, 1) := by decide +kernel
theorem dX11_moved_11 : decode cX11_moved 11 = .ok (.iadd, 1) := by decide +kernel
theorem dX11_moved_12 : decode cX11_moved 12 = .ok (.putfield 405, 3) := by decide +kernel
theorem dX11_moved_15 : decode cX11_moved 15 = .ok (.iload_n 2, 1) := by decide +kernel
theorem dX11_moved_16 : decode cX11_moved 16 = .ok (.ifCond .ne 10, 3) := by decide +kernel
theorem dX11_moved_19 : decode cX11_moved 19 = .ok (.aload_n 0, 1) := by decide +kernel
theorem dX11_moved_20 : decode cX11_moved 20 = .ok (.getfield 130, 3) := by decide +kernel
theorem dX11_moved_23 : decode cX11_moved 23 = .ok (.iload_n 3, 1) := by decide +kernel
theorem dX11_moved_24 : decode cX11_moved 24 = .ok (.iload_n 1, 1) := by decide +kernel
theorem dX11_moved_25 : decode cX11_moved 25 = .ok (.iastore, 1) := by decide +kernel
theorem dX11_moved_26 : decode cX11_moved 26 = .ok (.aload_n 0, 1) := by decide +kernel
theorem dX11_moved_27 : decode cX11_moved 27 = .ok (.getfield 130, 3) := by decide +kernel
theorem dX11_moved_30 : decode cX11_moved 30 = .ok (.iload_n 3, 1) := by decide +kernel
theorem dX11_moved_31 : decode cX11_moved 31 = .ok (.iaload, 1) := by decide +kernel
theorem dX11_moved_32 : decode cX11_moved 32 = .ok (.ireturn, 1) := by decide +kernel
theorem dX11_movesAll_0 : decode cX11_movesAll 0 = .ok (.iconst 0, 1) := by decide +kernel
theorem dX11_movesAll_1 : decode cX11_movesAll 1 = .ok (.istore_n 3, 1) := by decide +kernel
theorem dX11_movesAll_2 : decode cX11_movesAll 2 = .ok (.iload_n 3, 1) := by decide +kernel
theorem dX11_movesAll_3 : decode cX11_movesAll 3 = .ok (.aload_n 1, 1) := by decide +kernel
theorem dX11_movesAll_4 : decode cX11_movesAll 4 = .ok (.arraylength, 1) := by decide +kernel
theorem dX11_movesAll_5 : decode cX11_movesAll 5 = .ok (.if_icmp .ge 20, 3) := by decide +kernel
theorem dX11_movesAll_8 : decode cX11_movesAll 8 = .ok (.aload_n 1, 1) := by decide +kernel
theorem dX11_movesAll_9 : decode cX11_movesAll 9 = .ok (.iload_n 3, 1) := by decide +kernel
theorem dX11_movesAll_10 : decode cX11_movesAll 10 = .ok (.aload_n 0, 1) := by decide +kernel
theorem dX11_movesAll_11 : decode cX11_movesAll 11 = .ok (.aload_n 1, 1) := by decide +kernel
theorem dX11_movesAll_12 : decode cX11_movesAll 12 = .ok (.iload_n 3, 1) := by decide +kernel
theorem dX11_movesAll_13 : decode cX11_movesAll 13 = .ok (.iaload, 1) := by decide +kernel
theorem dX11_movesAll_14 : decode cX11_movesAll 14 = .ok (.iload_n 2, 1) := by decide +kernel
theorem dX11_movesAll_15 : decode cX11_movesAll 15 = .ok (.invokevirtual 408, 3) := by decide +kernel
theorem dX11_movesAll_18 : decode cX11_movesAll 18 = .ok (.iastore, 1) := by decide +kernel
theorem dX11_movesAll_19 : decode cX11_movesAll 19 = .ok (.iinc 3 1, 3) := by decide +kernel
theorem dX11_movesAll_22 : decode cX11_movesAll 22 = .ok (.goto (-20), 3) := by decide +kernel
theorem dX11_movesAll_25 : decode cX11_movesAll 25 = .ok (.return_, 1) := by decide +kernel
theorem dX11_keep_0 : decode cX11_keep 0 = .ok (.aload_n 0, 1) := by decide +kernel
theorem dX11_keep_1 : decode cX11_keep 1 = .ok (.iconst 1, 1) := by decide +kernel
theorem dX11_keep_2 : decode cX11_keep 2 = .ok (.putfield 416, 3) := by decide +kernel
theorem dX11_keep_5 : decode cX11_keep 5 = .ok (.aload_n 0, 1) := by decide +kernel
theorem dX11_keep_6 : decode cX11_keep 6 = .ok (.iconst 0, 1) := by decide +kernel
theorem dX11_keep_7 : decode cX11_keep 7 = .ok (.invokevirtual 419, 3) := by decide +kernel
theorem dX11_keep_10 : decode cX11_keep 10 = .ok (.aload_n 0, 1) := by decide +kernel
theorem dX11_keep_11 : decode cX11_keep 11 = .ok (.invokevirtual 152, 3) := by decide +kernel
theorem dX11_keep_14 : decode cX11_keep 14 = .ok (.invokestatic 256, 3) := by decide +kernel
theorem dX11_keep_17 : decode cX11_keep 17 = .ok (.ireturn, 1) := by decide +kernel
theorem dX11_undo_0 : decode cX11_undo 0 = .ok (.aload_n 0, 1) := by decide +kernel
theorem dX11_undo_1 : decode cX11_undo 1 = .ok (.getfield 416, 3) := by decide +kernel
theorem dX11_undo_4 : decode cX11_undo 4 = .ok (.ifCond .ne 5, 3) := by decide +kernel
theorem dX11_undo_7 : decode cX11_undo 7 = .ok (.iconst 0, 1) := by decide +kernel
theorem dX11_undo_8 : decode cX11_undo 8 = .ok (.ireturn, 1) := by decide +kernel
theorem dX11_undo_9 : decode cX11_undo 9 = .ok (.aload_n 0, 1) := by decide +kernel
theorem dX11_undo_10 : decode cX11_undo 10 = .ok (.iconst 1, 1) := by decide +kernel
theorem dX11_undo_11 : decode cX11_undo 11 = .ok (.invokevirtual 419, 3) := by decide +kernel
theorem dX11_undo_14 : decode cX11_undo 14 = .ok (.iconst 1, 1) := by decide +kernel
theorem dX11_undo_15 : decode cX11_undo 15 = .ok (.ireturn, 1) := by decide +kernel
theorem dX11_check_0 : decode cX11_check 0 = .ok (.iload_n 1, 1) := by decide +kernel
theorem dX11_check_1 : decode cX11_check 1 = .ok (.iconst 0, 1) := by decide +kernel
theorem dX11_check_2 : decode cX11_check 2 = .ok (.bipush 6, 2) := by decide +kernel
theorem dX11_check_4 : decode cX11_check 4 = .ok (.invokestatic 137, 3) := by decide +kernel
theorem dX11_check_7 : decode cX11_check 7 = .ok (.ifCond .eq 32, 3) := by decide +kernel
theorem dX11_check_10 : decode cX11_check 10 = .ok (.iload_n 1, 1) := by decide +kernel
theorem dX11_check_11 : decode cX11_check 11 = .ok (.aload_n 0, 1) := by decide +kernel
theorem dX11_check_12 : decode cX11_check 12 = .ok (.getfield 159, 3) := by decide +kernel
theorem dX11_check_15 : decode cX11_check 15 = .ok (.if_icmp .gt 24, 3) := by decide +kernel
theorem dX11_check_18 : decode cX11_check 18 = .ok (.aload_n 0, 1) := by decide +kernel
theorem dX11_check_19 : decode cX11_check 19 = .ok (.invokevirtual 267, 3) := by decide +kernel
theorem dX11_check_22 : decode cX11_check 22 = .ok (.ldc_w 266, 3) := by decide +kernel
theorem dX11_check_25 : decode cX11_check 25 = .ok (.if_icmp .gt 14, 3) := by decide +kernel
theorem dX11_check_28 : decode cX11_check 28 = .ok (.aload_n 0, 1) := by decide +kernel
theorem dX11_check_29 : decode cX11_check 29 = .ok (.aload_n 0, 1) := by decide +kernel
theorem dX11_check_30 : decode cX11_check 30 = .ok (.invokevirtual 152, 3) := by decide +kernel
theorem dX11_check_33 : decode cX11_check 33 = .ok (.invokevirtual 288, 3) := by decide +kernel
theorem dX11_check_36 : decode cX11_check 36 = .ok (.ifCond .ne 6, 3) := by decide +kernel
theorem dX11_check_39 : decode cX11_check 39 = .ok (.bipush (-2), 2) := by decide +kernel
theorem dX11_check_41 : decode cX11_check 41 = .ok (.ireturn, 1) := by decide +kernel
theorem dX11_check_42 : decode cX11_check 42 = .ok (.aload_n 0, 1) := by decide +kernel
theorem dX11_check_43 : decode cX11_check 43 = .ok (.iconst 0, 1) := by decide +kernel
theorem dX11_check_44 : decode cX11_check 44 = .ok (.putfield 159, 3) := by decide +kernel
theorem dX11_check_47 : decode cX11_check 47 = .ok (.iconst 0, 1) := by decide +kernel
theorem dX11_check_48 : decode cX11_check 48 = .ok (.istore_n 2, 1) := by decide +kernel
theorem dX11_check_49 : decode cX11_check 49 = .ok (.iload_n 2, 1) := by decide +kernel
theorem dX11_check_50 : decode cX11_check 50 = .ok (.iload_n 1, 1) := by decide +kernel
theorem dX11_check_51 : decode cX11_check 51 = .ok (.if_icmp .ge 37, 3) := by decide +kernel
theorem dX11_check_54 : decode cX11_check 54 = .ok (.aload_n 0, 1) := by decide +kernel
theorem dX11_check_55 : decode cX11_check 55 = .ok (.iload_n 2, 1) := by decide +kernel
theorem dX11_check_56 : decode cX11_check 56 = .ok (.invokevirtual 172, 3) := by decide +kernel
theorem dX11_check_59 : decode cX11_check 59 = .ok (.aload_n 0, 1) := by decide +kernel
theorem dX11_check_60 : decode cX11_check 60 = .ok (.iload_n 2, 1) := by decide +kernel
theorem dX11_check_61 : decode cX11_check 61 = .ok (.invokevirtual 145, 3) := by decide +kernel
theorem dX11_check_64 : decode cX11_check 64 = .ok (.ifCond .eq 12, 3) := by decide +kernel
theorem dX11_check_67 : decode cX11_check 67 = .ok (.aload_n 0, 1) := by decide +kernel
theorem dX11_check_68 : decode cX11_check 68 = .ok (.getfield 77, 3) := by decide +kernel
theorem dX11_check_71 : decode cX11_check 71 = .ok (.iload_n 2, 1) := by decide +kernel
theorem dX11_check_72 : decode cX11_check 72 = .ok (.iaload, 1) := by decide +kernel
theorem dX11_check_73 : decode cX11_check 73 = .ok (.goto 4, 3) := by decide +kernel
theorem dX11_check_76 : decode cX11_check 76 = .ok (.iconst 0, 1) := by decide +kernel
theorem dX11_check_77 : decode cX11_check 77 = .ok (.if_icmp .eq 5, 3) := by decide +kernel
theorem dX11_check_80 : decode cX11_check 80 = .ok (.iload_n 2, 1) := by decide +kernel
theorem dX11_check_81 : decode cX11_check 81 = .ok (.ireturn, 1) := by decide +kernel
theorem dX11_check_82 : decode cX11_check 82 = .ok (.iinc 2 1, 3) := by decide +kernel
theorem dX11_check_85 : decode cX11_check 85 = .ok (.goto (-36), 3) := by decide +kernel
theorem dX11_check_88 : decode cX11_check 88 = .ok (.iconst (-1), 1) := by decide +kernel
theorem dX11_check_89 : decode cX11_check 89 = .ok (.ireturn, 1) := by decide +kernel
theorem dX11_count_0 : decode cX11_count 0 = .ok (.iload_n 1, 1) := by decide +kernel
theorem dX11_count_1 : decode cX11_count 1 = .ok (.tableswitch 63 0 4 #[35, 40, 45, 50, 58], 35) := by decide +kernel
theorem dX11_count_36 : decode cX11_count 36 = .ok (.aload_n 0, 1) := by decide +kernel
theorem dX11_count_37 : decode cX11_count 37 = .ok (.getfield 156, 3) := by decide +kernel
theorem dX11_count_40 : decode cX11_count 40 = .ok (.ireturn, 1) := by decide +kernel
theorem dX11_count_41 : decode cX11_count 41 = .ok (.aload_n 0, 1) := by decide +kernel
theorem dX11_count_42 : decode cX11_count 42 = .ok (.getfield 141, 3) := by decide +kernel
theorem dX11_count_45 : decode cX11_count 45 = .ok (.ireturn, 1) := by decide +kernel
theorem dX11_count_46 : decode cX11_count 46 = .ok (.aload_n 0, 1) := by decide +kernel
theorem dX11_count_47 : decode cX11_count 47 = .ok (.invokevirtual 152, 3) := by decide +kernel
theorem dX11_count_50 : decode cX11_count 50 = .ok (.ireturn, 1) := by decide +kernel
theorem dX11_count_51 : decode cX11_count 51 = .ok (.aload_n 0, 1) := by decide +kernel
theorem dX11_count_52 : decode cX11_count 52 = .ok (.getfield 149, 3) := by decide +kernel
theorem dX11_count_55 : decode cX11_count 55 = .ok (.bipush 10, 2) := by decide +kernel
theorem dX11_count_57 : decode cX11_count 57 = .ok (.ishr, 1) := by decide +kernel
theorem dX11_count_58 : decode cX11_count 58 = .ok (.ireturn, 1) := by decide +kernel
theorem dX11_count_59 : decode cX11_count 59 = .ok (.aload_n 0, 1) := by decide +kernel
theorem dX11_count_60 : decode cX11_count 60 = .ok (.getfield 159, 3) := by decide +kernel
theorem dX11_count_63 : decode cX11_count 63 = .ok (.ireturn, 1) := by decide +kernel
theorem dX11_count_64 : decode cX11_count 64 = .ok (.aload_n 0, 1) := by decide +kernel
theorem dX11_count_65 : decode cX11_count 65 = .ok (.iload_n 1, 1) := by decide +kernel
theorem dX11_count_66 : decode cX11_count 66 = .ok (.bipush 10, 2) := by decide +kernel
theorem dX11_count_68 : decode cX11_count 68 = .ok (.isub, 1) := by decide +kernel
theorem dX11_count_69 : decode cX11_count 69 = .ok (.invokevirtual 145, 3) := by decide +kernel
theorem dX11_count_72 : decode cX11_count 72 = .ok (.ifCond .eq 13, 3) := by decide +kernel
theorem dX11_count_75 : decode cX11_count 75 = .ok (.aload_n 0, 1) := by decide +kernel
theorem dX11_count_76 : decode cX11_count 76 = .ok (.getfield 7, 3) := by decide +kernel
theorem dX11_count_79 : decode cX11_count 79 = .ok (.iload_n 1, 1) := by decide +kernel
theorem dX11_count_80 : decode cX11_count 80 = .ok (.bipush 10, 2) := by decide +kernel
theorem dX11_count_82 : decode cX11_count 82 = .ok (.isub, 1) := by decide +kernel
theorem dX11_count_83 : decode cX11_count 83 = .ok (.iaload, 1) := by decide +kernel
theorem dX11_count_84 : decode cX11_count 84 = .ok (.ireturn, 1) := by decide +kernel
theorem dX11_count_85 : decode cX11_count 85 = .ok (.aload_n 0, 1) := by decide +kernel
theorem dX11_count_86 : decode cX11_count 86 = .ok (.iload_n 1, 1) := by decide +kernel
theorem dX11_count_87 : decode cX11_count 87 = .ok (.bipush 20, 2) := by decide +kernel
theorem dX11_count_89 : decode cX11_count 89 = .ok (.isub, 1) := by decide +kernel
theorem dX11_count_90 : decode cX11_count 90 = .ok (.invokevirtual 145, 3) := by decide +kernel
theorem dX11_count_93 : decode cX11_count 93 = .ok (.ifCond .eq 13, 3) := by decide +kernel
theorem dX11_count_96 : decode cX11_count 96 = .ok (.aload_n 0, 1) := by decide +kernel
theorem dX11_count_97 : decode cX11_count 97 = .ok (.getfield 13, 3) := by decide +kernel
theorem dX11_count_100 : decode cX11_count 100 = .ok (.iload_n 1, 1) := by decide +kernel
theorem dX11_count_101 : decode cX11_count 101 = .ok (.bipush 20, 2) := by decide +kernel
theorem dX11_count_103 : decode cX11_count 103 = .ok (.isub, 1) := by decide +kernel
theorem dX11_count_104 : decode cX11_count 104 = .ok (.iaload, 1) := by decide +kernel
theorem dX11_count_105 : decode cX11_count 105 = .ok (.ireturn, 1) := by decide +kernel
theorem dX11_count_106 : decode cX11_count 106 = .ok (.aload_n 0, 1) := by decide +kernel
theorem dX11_count_107 : decode cX11_count 107 = .ok (.iload_n 1, 1) := by decide +kernel
theorem dX11_count_108 : decode cX11_count 108 = .ok (.bipush 30, 2) := by decide +kernel
theorem dX11_count_110 : decode cX11_count 110 = .ok (.isub, 1) := by decide +kernel
theorem dX11_count_111 : decode cX11_count 111 = .ok (.invokevirtual 145, 3) := by decide +kernel
theorem dX11_count_114 : decode cX11_count 114 = .ok (.ifCond .ne 5, 3) := by decide +kernel
theorem dX11_count_117 : decode cX11_count 117 = .ok (.iconst (-1), 1) := by decide +kernel
theorem dX11_count_118 : decode cX11_count 118 = .ok (.ireturn, 1) := by decide +kernel
theorem dX11_count_119 : decode cX11_count 119 = .ok (.aload_n 0, 1) := by decide +kernel
theorem dX11_count_120 : decode cX11_count 120 = .ok (.getfield 16, 3) := by decide +kernel
theorem dX11_count_123 : decode cX11_count 123 = .ok (.iload_n 1, 1) := by decide +kernel
theorem dX11_count_124 : decode cX11_count 124 = .ok (.bipush 30, 2) := by decide +kernel
theorem dX11_count_126 : decode cX11_count 126 = .ok (.isub, 1) := by decide +kernel
theorem dX11_count_127 : decode cX11_count 127 = .ok (.iaload, 1) := by decide +kernel
theorem dX11_count_128 : decode cX11_count 128 = .ok (.bipush 100, 2) := by decide +kernel
theorem dX11_count_130 : decode cX11_count 130 = .ok (.if_icmp .ne 8, 3) := by decide +kernel
theorem dX11_count_133 : decode cX11_count 133 = .ok (.bipush (-2), 2) := by decide +kernel
theorem dX11_count_135 : decode cX11_count 135 = .ok (.goto 12, 3) := by decide +kernel
theorem dX11_count_138 : decode cX11_count 138 = .ok (.aload_n 0, 1) := by decide +kernel
theorem dX11_count_139 : decode cX11_count 139 = .ok (.getfield 16, 3) := by decide +kernel
theorem dX11_count_142 : decode cX11_count 142 = .ok (.iload_n 1, 1) := by decide +kernel
theorem dX11_count_143 : decode cX11_count 143 = .ok (.bipush 30, 2) := by decide +kernel
theorem dX11_count_145 : decode cX11_count 145 = .ok (.isub, 1) := by decide +kernel
theorem dX11_count_146 : decode cX11_count 146 = .ok (.iaload, 1) := by decide +kernel
theorem dX11_count_147 : decode cX11_count 147 = .ok (.ireturn, 1) := by decide +kernel
theorem dJ6_bitCount_0f7a4_0 : decode cJ6_bitCount_0f7a4 0 = .ok (.iload_n 0, 1) := by decide +kernel
theorem dJ6_bitCount_0f7a4_1 : decode cJ6_bitCount_0f7a4 1 = .ok (.iload_n 0, 1) := by decide +kernel
theorem dJ6_bitCount_0f7a4_2 : decode cJ6_bitCount_0f7a4 2 = .ok (.iconst 1, 1) := by decide +kernel
theorem dJ6_bitCount_0f7a4_3 : decode cJ6_bitCount_0f7a4 3 = .ok (.iushr, 1) := by decide +kernel
theorem dJ6_bitCount_0f7a4_4 : decode cJ6_bitCount_0f7a4 4 = .ok (.ldc_w 265, 3) := by decide +kernel
theorem dJ6_bitCount_0f7a4_7 : decode cJ6_bitCount_0f7a4 7 = .ok (.iand, 1) := by decide +kernel
theorem dJ6_bitCount_0f7a4_8 : decode cJ6_bitCount_0f7a4 8 = .ok (.isub, 1) := by decide +kernel
theorem dJ6_bitCount_0f7a4_9 : decode cJ6_bitCount_0f7a4 9 = .ok (.istore_n 0, 1) := by decide +kernel
theorem dJ6_bitCount_0f7a4_10 : decode cJ6_bitCount_0f7a4 10 = .ok (.iload_n 0, 1) := by decide +kernel
theorem dJ6_bitCount_0f7a4_11 : decode cJ6_bitCount_0f7a4 11 = .ok (.ldc_w 266, 3) := by decide +kernel
theorem dJ6_bitCount_0f7a4_14 : decode cJ6_bitCount_0f7a4 14 = .ok (.iand, 1) := by decide +kernel
theorem dJ6_bitCount_0f7a4_15 : decode cJ6_bitCount_0f7a4 15 = .ok (.iload_n 0, 1) := by decide +kernel
theorem dJ6_bitCount_0f7a4_16 : decode cJ6_bitCount_0f7a4 16 = .ok (.iconst 2, 1) := by decide +kernel
theorem dJ6_bitCount_0f7a4_17 : decode cJ6_bitCount_0f7a4 17 = .ok (.iushr, 1) := by decide +kernel
theorem dJ6_bitCount_0f7a4_18 : decode cJ6_bitCount_0f7a4 18 = .ok (.ldc_w 266, 3) := by decide +kernel
theorem dJ6_bitCount_0f7a4_21 : decode cJ6_bitCount_0f7a4 21 = .ok (.iand, 1) := by decide +kernel
theorem dJ6_bitCount_0f7a4_22 : decode cJ6_bitCount_0f7a4 22 = .ok (.iadd, 1) := by decide +kernel
theorem dJ6_bitCount_0f7a4_23 : decode cJ6_bitCount_0f7a4 23 = .ok (.istore_n 0, 1) := by decide +kernel
theorem dJ6_bitCount_0f7a4_24 : decode cJ6_bitCount_0f7a4 24 = .ok (.iload_n 0, 1) := by decide +kernel
theorem dJ6_bitCount_0f7a4_25 : decode cJ6_bitCount_0f7a4 25 = .ok (.iload_n 0, 1) := by decide +kernel
theorem dJ6_bitCount_0f7a4_26 : decode cJ6_bitCount_0f7a4 26 = .ok (.iconst 4, 1) := by decide +kernel
theorem dJ6_bitCount_0f7a4_27 : decode cJ6_bitCount_0f7a4 27 = .ok (.iushr, 1) := by decide +kernel
theorem dJ6_bitCount_0f7a4_28 : decode cJ6_bitCount_0f7a4 28 = .ok (.iadd, 1) := by decide +kernel
theorem dJ6_bitCount_0f7a4_29 : decode cJ6_bitCount_0f7a4 29 = .ok (.ldc_w 267, 3) := by decide +kernel
theorem dJ6_bitCount_0f7a4_32 : decode cJ6_bitCount_0f7a4 32 = .ok (.iand, 1) := by decide +kernel
theorem dJ6_bitCount_0f7a4_33 : decode cJ6_bitCount_0f7a4 33 = .ok (.istore_n 0, 1) := by decide +kernel
theorem dJ6_bitCount_0f7a4_34 : decode cJ6_bitCount_0f7a4 34 = .ok (.iload_n 0, 1) := by decide +kernel
theorem dJ6_bitCount_0f7a4_35 : decode cJ6_bitCount_0f7a4 35 = .ok (.iload_n 0, 1) := by decide +kernel
theorem dJ6_bitCount_0f7a4_36 : decode cJ6_bitCount_0f7a4 36 = .ok (.bipush 8, 2) := by decide +kernel
theorem dJ6_bitCount_0f7a4_38 : decode cJ6_bitCount_0f7a4 38 = .ok (.iushr, 1) := by decide +kernel
theorem dJ6_bitCount_0f7a4_39 : decode cJ6_bitCount_0f7a4 39 = .ok (.iadd, 1) := by decide +kernel
theorem dJ6_bitCount_0f7a4_40 : decode cJ6_bitCount_0f7a4 40 = .ok (.istore_n 0, 1) := by decide +kernel
theorem dJ6_bitCount_0f7a4_41 : decode cJ6_bitCount_0f7a4 41 = .ok (.iload_n 0, 1) := by decide +kernel
theorem dJ6_bitCount_0f7a4_42 : decode cJ6_bitCount_0f7a4 42 = .ok (.iload_n 0, 1) := by decide +kernel
theorem dJ6_bitCount_0f7a4_43 : decode cJ6_bitCount_0f7a4 43 = .ok (.bipush 16, 2) := by decide +kernel
theorem dJ6_bitCount_0f7a4_45 : decode cJ6_bitCount_0f7a4 45 = .ok (.iushr, 1) := by decide +kernel
theorem dJ6_bitCount_0f7a4_46 : decode cJ6_bitCount_0f7a4 46 = .ok (.iadd, 1) := by decide +kernel
theorem dJ6_bitCount_0f7a4_47 : decode cJ6_bitCount_0f7a4 47 = .ok (.istore_n 0, 1) := by decide +kernel
theorem dJ6_bitCount_0f7a4_48 : decode cJ6_bitCount_0f7a4 48 = .ok (.iload_n 0, 1) := by decide +kernel
theorem dJ6_bitCount_0f7a4_49 : decode cJ6_bitCount_0f7a4 49 = .ok (.bipush 63, 2) := by decide +kernel
theorem dJ6_bitCount_0f7a4_51 : decode cJ6_bitCount_0f7a4 51 = .ok (.iand, 1) := by decide +kernel
theorem dJ6_bitCount_0f7a4_52 : decode cJ6_bitCount_0f7a4 52 = .ok (.ireturn, 1) := by decide +kernel
theorem dJ9_abs_0f7a4_0 : decode cJ9_abs_0f7a4 0 = .ok (.iload_n 0, 1) := by decide +kernel
theorem dJ9_abs_0f7a4_1 : decode cJ9_abs_0f7a4 1 = .ok (.ifCond .ge 8, 3) := by decide +kernel
theorem dJ9_abs_0f7a4_4 : decode cJ9_abs_0f7a4 4 = .ok (.iload_n 0, 1) := by decide +kernel
theorem dJ9_abs_0f7a4_5 : decode cJ9_abs_0f7a4 5 = .ok (.ineg, 1) := by decide +kernel
theorem dJ9_abs_0f7a4_6 : decode cJ9_abs_0f7a4 6 = .ok (.goto 4, 3) := by decide +kernel
theorem dJ9_abs_0f7a4_9 : decode cJ9_abs_0f7a4 9 = .ok (.iload_n 0, 1) := by decide +kernel
theorem dJ9_abs_0f7a4_10 : decode cJ9_abs_0f7a4 10 = .ok (.ireturn, 1) := by decide +kernel
theorem dJ9_max_7cf53_0 : decode cJ9_max_7cf53 0 = .ok (.iload_n 0, 1) := by decide +kernel
theorem dJ9_max_7cf53_1 : decode cJ9_max_7cf53 1 = .ok (.iload_n 1, 1) := by decide +kernel
theorem dJ9_max_7cf53_2 : decode cJ9_max_7cf53 2 = .ok (.if_icmp .lt 7, 3) := by decide +kernel
theorem dJ9_max_7cf53_5 : decode cJ9_max_7cf53 5 = .ok (.iload_n 0, 1) := by decide +kernel
theorem dJ9_max_7cf53_6 : decode cJ9_max_7cf53 6 = .ok (.goto 4, 3) := by decide +kernel
theorem dJ9_max_7cf53_9 : decode cJ9_max_7cf53 9 = .ok (.iload_n 1, 1) := by decide +kernel
theorem dJ9_max_7cf53_10 : decode cJ9_max_7cf53 10 = .ok (.ireturn, 1) := by decide +kernel
theorem dJ9_min_7cf53_0 : decode cJ9_min_7cf53 0 = .ok (.iload_n 0, 1) := by decide +kernel
theorem dJ9_min_7cf53_1 : decode cJ9_min_7cf53 1 = .ok (.iload_n 1, 1) := by decide +kernel
theorem dJ9_min_7cf53_2 : decode cJ9_min_7cf53 2 = .ok (.if_icmp .gt 7, 3) := by decide +kernel
theorem dJ9_min_7cf53_5 : decode cJ9_min_7cf53 5 = .ok (.iload_n 0, 1) := by decide +kernel
theorem dJ9_min_7cf53_6 : decode cJ9_min_7cf53 6 = .ok (.goto 4, 3) := by decide +kernel
theorem dJ9_min_7cf53_9 : decode cJ9_min_7cf53 9 = .ok (.iload_n 1, 1) := by decide +kernel
theorem dJ9_min_7cf53_10 : decode cJ9_min_7cf53 10 = .ok (.ireturn, 1) := by decide +kernel
theorem dJ7_fill_d0a16_0 : decode cJ7_fill_d0a16 0 = .ok (.iconst 0, 1) := by decide +kernel
theorem dJ7_fill_d0a16_1 : decode cJ7_fill_d0a16 1 = .ok (.istore_n 3, 1) := by decide +kernel
theorem dJ7_fill_d0a16_2 : decode cJ7_fill_d0a16 2 = .ok (.aload_n 0, 1) := by decide +kernel
theorem dJ7_fill_d0a16_3 : decode cJ7_fill_d0a16 3 = .ok (.arraylength, 1) := by decide +kernel
theorem dJ7_fill_d0a16_4 : decode cJ7_fill_d0a16 4 = .ok (.istore 4, 2) := by decide +kernel
theorem dJ7_fill_d0a16_6 : decode cJ7_fill_d0a16 6 = .ok (.iload_n 3, 1) := by decide +kernel
theorem dJ7_fill_d0a16_7 : decode cJ7_fill_d0a16 7 = .ok (.iload 4, 2) := by decide +kernel
theorem dJ7_fill_d0a16_9 : decode cJ7_fill_d0a16 9 = .ok (.if_icmp .ge 13, 3) := by decide +kernel
theorem dJ7_fill_d0a16_12 : decode cJ7_fill_d0a16 12 = .ok (.aload_n 0, 1) := by decide +kernel
theorem dJ7_fill_d0a16_13 : decode cJ7_fill_d0a16 13 = .ok (.iload_n 3, 1) := by decide +kernel
theorem dJ7_fill_d0a16_14 : decode cJ7_fill_d0a16 14 = .ok (.lload_n 1, 1) := by decide +kernel
theorem dJ7_fill_d0a16_15 : decode cJ7_fill_d0a16 15 = .ok (.lastore, 1) := by decide +kernel
theorem dJ7_fill_d0a16_16 : decode cJ7_fill_d0a16 16 = .ok (.iinc 3 1, 3) := by decide +kernel
theorem dJ7_fill_d0a16_19 : decode cJ7_fill_d0a16 19 = .ok (.goto (-13), 3) := by decide +kernel
theorem dJ7_fill_d0a16_22 : decode cJ7_fill_d0a16 22 = .ok (.return_, 1) := by decide +kernel
theorem dJ7_fill_53178_0 : decode cJ7_fill_53178 0 = .ok (.iconst 0, 1) := by decide +kernel
theorem dJ7_fill_53178_1 : decode cJ7_fill_53178 1 = .ok (.istore_n 2, 1) := by decide +kernel
theorem dJ7_fill_53178_2 : decode cJ7_fill_53178 2 = .ok (.aload_n 0, 1) := by decide +kernel
theorem dJ7_fill_53178_3 : decode cJ7_fill_53178 3 = .ok (.arraylength, 1) := by decide +kernel
theorem dJ7_fill_53178_4 : decode cJ7_fill_53178 4 = .ok (.istore_n 3, 1) := by decide +kernel
theorem dJ7_fill_53178_5 : decode cJ7_fill_53178 5 = .ok (.iload_n 2, 1) := by decide +kernel
theorem dJ7_fill_53178_6 : decode cJ7_fill_53178 6 = .ok (.iload_n 3, 1) := by decide +kernel
theorem dJ7_fill_53178_7 : decode cJ7_fill_53178 7 = .ok (.if_icmp .ge 13, 3) := by decide +kernel
theorem dJ7_fill_53178_10 : decode cJ7_fill_53178 10 = .ok (.aload_n 0, 1) := by decide +kernel
theorem dJ7_fill_53178_11 : decode cJ7_fill_53178 11 = .ok (.iload_n 2, 1) := by decide +kernel
theorem dJ7_fill_53178_12 : decode cJ7_fill_53178 12 = .ok (.iload_n 1, 1) := by decide +kernel
theorem dJ7_fill_53178_13 : decode cJ7_fill_53178 13 = .ok (.iastore, 1) := by decide +kernel
theorem dJ7_fill_53178_14 : decode cJ7_fill_53178 14 = .ok (.iinc 2 1, 3) := by decide +kernel
theorem dJ7_fill_53178_17 : decode cJ7_fill_53178 17 = .ok (.goto (-12), 3) := by decide +kernel
theorem dJ7_fill_53178_20 : decode cJ7_fill_53178 20 = .ok (.return_, 1) := by decide +kernel
theorem dL_law_0 : decode cL_law 0 = .ok (.new 7, 3) := by decide +kernel
theorem dL_law_3 : decode cL_law 3 = .ok (.dup, 1) := by decide +kernel
theorem dL_law_4 : decode cL_law 4 = .ok (.invokespecial 9, 3) := by decide +kernel
theorem dL_law_7 : decode cL_law 7 = .ok (.astore_n 1, 1) := by decide +kernel
theorem dL_law_8 : decode cL_law 8 = .ok (.new 10, 3) := by decide +kernel
theorem dL_law_11 : decode cL_law 11 = .ok (.dup, 1) := by decide +kernel
theorem dL_law_12 : decode cL_law 12 = .ok (.invokespecial 12, 3) := by decide +kernel
theorem dL_law_15 : decode cL_law 15 = .ok (.astore_n 2, 1) := by decide +kernel
theorem dL_law_16 : decode cL_law 16 = .ok (.iconst 0, 1) := by decide +kernel
theorem dL_law_17 : decode cL_law 17 = .ok (.istore_n 3, 1) := by decide +kernel
theorem dL_law_18 : decode cL_law 18 = .ok (.iload_n 3, 1) := by decide +kernel
theorem dL_law_19 : decode cL_law 19 = .ok (.aload_n 0, 1) := by decide +kernel
theorem dL_law_20 : decode cL_law 20 = .ok (.arraylength, 1) := by decide +kernel
theorem dL_law_21 : decode cL_law 21 = .ok (.bipush 6, 2) := by decide +kernel
theorem dL_law_23 : decode cL_law 23 = .ok (.isub, 1) := by decide +kernel
theorem dL_law_24 : decode cL_law 24 = .ok (.if_icmp .gt 1748, 3) := by decide +kernel
theorem dL_law_27 : decode cL_law 27 = .ok (.aload_n 0, 1) := by decide +kernel
theorem dL_law_28 : decode cL_law 28 = .ok (.iload_n 3, 1) := by decide +kernel
theorem dL_law_29 : decode cL_law 29 = .ok (.iaload, 1) := by decide +kernel
theorem dL_law_30 : decode cL_law 30 = .ok (.bipush 63, 2) := by decide +kernel
theorem dL_law_32 : decode cL_law 32 = .ok (.iand, 1) := by decide +kernel
theorem dL_law_33 : decode cL_law 33 = .ok (.tableswitch 1733 0 43 #[191, 234, 267, 290, 353, 386, 419, 442, 455, 488, 531, 574, 607, 640, 663, 686, 719, 752, 785, 828, 871, 914, 967, 1000, 1053, 1106, 1139, 1172, 1205, 1248, 1281, 1334, 1377, 1410, 1443, 1466, 1499, 1532, 1565, 1608, 1661, 1674, 1687, 1710], 191) := by decide +kernel
theorem dL_law_224 : decode cL_law 224 = .ok (.aload_n 1, 1) := by decide +kernel
theorem dL_law_225 : decode cL_law 225 = .ok (.aload_n 0, 1) := by decide +kernel
theorem dL_law_226 : decode cL_law 226 = .ok (.iload_n 3, 1) := by decide +kernel
theorem dL_law_227 : decode cL_law 227 = .ok (.iconst 1, 1) := by decide +kernel
theorem dL_law_228 : decode cL_law 228 = .ok (.iadd, 1) := by decide +kernel
theorem dL_law_229 : decode cL_law 229 = .ok (.iaload, 1) := by decide +kernel
theorem dL_law_230 : decode cL_law 230 = .ok (.aload_n 0, 1) := by decide +kernel
theorem dL_law_231 : decode cL_law 231 = .ok (.iload_n 3, 1) := by decide +kernel
theorem dL_law_232 : decode cL_law 232 = .ok (.iconst 2, 1) := by decide +kernel
theorem dL_law_233 : decode cL_law 233 = .ok (.iadd, 1) := by decide +kernel
theorem dL_law_234 : decode cL_law 234 = .ok (.iaload, 1) := by decide +kernel
theorem dL_law_235 : decode cL_law 235 = .ok (.aload_n 0, 1) := by decide +kernel
theorem dL_law_236 : decode cL_law 236 = .ok (.iload_n 3, 1) := by decide +kernel
theorem dL_law_237 : decode cL_law 237 = .ok (.iconst 3, 1) := by decide +kernel
theorem dL_law_238 : decode cL_law 238 = .ok (.iadd, 1) := by decide +kernel
theorem dL_law_239 : decode cL_law 239 = .ok (.iaload, 1) := by decide +kernel
theorem dL_law_240 : decode cL_law 240 = .ok (.invokevirtual 13, 3) := by decide +kernel
theorem dL_law_243 : decode cL_law 243 = .ok (.pop, 1) := by decide +kernel
theorem dL_law_244 : decode cL_law 244 = .ok (.aload_n 2, 1) := by decide +kernel
theorem dL_law_245 : decode cL_law 245 = .ok (.aload_n 0, 1) := by decide +kernel
theorem dL_law_246 : decode cL_law 246 = .ok (.iload_n 3, 1) := by decide +kernel
theorem dL_law_247 : decode cL_law 247 = .ok (.iconst 1, 1) := by decide +kernel
theorem dL_law_248 : decode cL_law 248 = .ok (.iadd, 1) := by decide +kernel
theorem dL_law_249 : decode cL_law 249 = .ok (.iaload, 1) := by decide +kernel
theorem dL_law_250 : decode cL_law 250 = .ok (.aload_n 0, 1) := by decide +kernel
theorem dL_law_251 : decode cL_law 251 = .ok (.iload_n 3, 1) := by decide +kernel
theorem dL_law_252 : decode cL_law 252 = .ok (.iconst 2, 1) := by decide +kernel
theorem dL_law_253 : decode cL_law 253 = .ok (.iadd, 1) := by decide +kernel
theorem dL_law_254 : decode cL_law 254 = .ok (.iaload, 1) := by decide +kernel
theorem dL_law_255 : decode cL_law 255 = .ok (.aload_n 0, 1) := by decide +kernel
theorem dL_law_256 : decode cL_law 256 = .ok (.iload_n 3, 1) := by decide +kernel
theorem dL_law_257 : decode cL_law 257 = .ok (.iconst 3, 1) := by decide +kernel
theorem dL_law_258 : decode cL_law 258 = .ok (.iadd, 1) := by decide +kernel
theorem dL_law_259 : decode cL_law 259 = .ok (.iaload, 1) := by decide +kernel
theorem dL_law_260 : decode cL_law 260 = .ok (.invokevirtual 17, 3) := by decide +kernel
theorem dL_law_263 : decode cL_law 263 = .ok (.pop, 1) := by decide +kernel
theorem dL_law_264 : decode cL_law 264 = .ok (.goto 1502, 3) := by decide +kernel
theorem dL_law_267 : decode cL_law 267 = .ok (.aload_n 1, 1) := by decide +kernel
theorem dL_law_268 : decode cL_law 268 = .ok (.aload_n 0, 1) := by decide +kernel
theorem dL_law_269 : decode cL_law 269 = .ok (.iload_n 3, 1) := by decide +kernel
theorem dL_law_270 : decode cL_law 270 = .ok (.iconst 1, 1) := by decide +kernel
theorem dL_law_271 : decode cL_law 271 = .ok (.iadd, 1) := by decide +kernel
theorem dL_law_272 : decode cL_law 272 = .ok (.iaload, 1) := by decide +kernel
theorem dL_law_273 : decode cL_law 273 = .ok (.aload_n 0, 1) := by decide +kernel
theorem dL_law_274 : decode cL_law 274 = .ok (.iload_n 3, 1) := by decide +kernel
theorem dL_law_275 : decode cL_law 275 = .ok (.iconst 2, 1) := by decide +kernel
theorem dL_law_276 : decode cL_law 276 = .ok (.iadd, 1) := by decide +kernel
theorem dL_law_277 : decode cL_law 277 = .ok (.iaload, 1) := by decide +kernel
theorem dL_law_278 : decode cL_law 278 = .ok (.invokevirtual 18, 3) := by decide +kernel
theorem dL_law_281 : decode cL_law 281 = .ok (.pop, 1) := by decide +kernel
theorem dL_law_282 : decode cL_law 282 = .ok (.aload_n 2, 1) := by decide +kernel
theorem dL_law_283 : decode cL_law 283 = .ok (.aload_n 0, 1) := by decide +kernel
theorem dL_law_284 : decode cL_law 284 = .ok (.iload_n 3, 1) := by decide +kernel
theorem dL_law_285 : decode cL_law 285 = .ok (.iconst 1, 1) := by decide +kernel
theorem dL_law_286 : decode cL_law 286 = .ok (.iadd, 1) := by decide +kernel
theorem dL_law_287 : decode cL_law 287 = .ok (.iaload, 1) := by decide +kernel
theorem dL_law_288 : decode cL_law 288 = .ok (.aload_n 0, 1) := by decide +kernel
theorem dL_law_289 : decode cL_law 289 = .ok (.iload_n 3, 1) := by decide +kernel
theorem dL_law_290 : decode cL_law 290 = .ok (.iconst 2, 1) := by decide +kernel
theorem dL_law_291 : decode cL_law 291 = .ok (.iadd, 1) := by decide +kernel
theorem dL_law_292 : decode cL_law 292 = .ok (.iaload, 1) := by decide +kernel
theorem dL_law_293 : decode cL_law 293 = .ok (.invokevirtual 22, 3) := by decide +kernel
theorem dL_law_296 : decode cL_law 296 = .ok (.pop, 1) := by decide +kernel
theorem dL_law_297 : decode cL_law 297 = .ok (.goto 1469, 3) := by decide +kernel
theorem dL_law_300 : decode cL_law 300 = .ok (.aload_n 1, 1) := by decide +kernel
theorem dL_law_301 : decode cL_law 301 = .ok (.aload_n 0, 1) := by decide +kernel
theorem dL_law_302 : decode cL_law 302 = .ok (.iload_n 3, 1) := by decide +kernel
theorem dL_law_303 : decode cL_law 303 = .ok (.iconst 1, 1) := by decide +kernel
theorem dL_law_304 : decode cL_law 304 = .ok (.iadd, 1) := by decide +kernel
theorem dL_law_305 : decode cL_law 305 = .ok (.iaload, 1) := by decide +kernel
theorem dL_law_306 : decode cL_law 306 = .ok (.invokevirtual 23, 3) := by decide +kernel
theorem dL_law_309 : decode cL_law 309 = .ok (.pop, 1) := by decide +kernel
theorem dL_law_310 : decode cL_law 310 = .ok (.aload_n 2, 1) := by decide +kernel
theorem dL_law_311 : decode cL_law 311 = .ok (.aload_n 0, 1) := by decide +kernel
theorem dL_law_312 : decode cL_law 312 = .ok (.iload_n 3, 1) := by decide +kernel
theorem dL_law_313 : decode cL_law 313 = .ok (.iconst 1, 1) := by decide +kernel
theorem dL_law_314 : decode cL_law 314 = .ok (.iadd, 1) := by decide +kernel
theorem dL_law_315 : decode cL_law 315 = .ok (.iaload, 1) := by decide +kernel
theorem dL_law_316 : decode cL_law 316 = .ok (.invokevirtual 27, 3) := by decide +kernel
theorem dL_law_319 : decode cL_law 319 = .ok (.pop, 1) := by decide +kernel
theorem dL_law_320 : decode cL_law 320 = .ok (.goto 1446, 3) := by decide +kernel
theorem dL_law_323 : decode cL_law 323 = .ok (.aload_n 1, 1) := by decide +kernel
theorem dL_law_324 : decode cL_law 324 = .ok (.aload_n 0, 1) := by decide +kernel
theorem dL_law_325 : decode cL_law 325 = .ok (.iload_n 3, 1) := by decide +kernel
theorem dL_law_326 : decode cL_law 326 = .ok (.iconst 1, 1) := by decide +kernel
theorem dL_law_327 : decode cL_law 327 = .ok (.iadd, 1) := by decide +kernel
theorem dL_law_328 : decode cL_law 328 = .ok (.iaload, 1) := by decide +kernel
theorem dL_law_329 : decode cL_law 329 = .ok (.aload_n 0, 1) := by decide +kernel
theorem dL_law_330 : decode cL_law 330 = .ok (.iload_n 3, 1) := by decide +kernel
theorem dL_law_331 : decode cL_law 331 = .ok (.iconst 2, 1) := by decide +kernel
theorem dL_law_332 : decode cL_law 332 = .ok (.iadd, 1) := by decide +kernel
theorem dL_law_333 : decode cL_law 333 = .ok (.iaload, 1) := by decide +kernel
theorem dL_law_334 : decode cL_law 334 = .ok (.aload_n 0, 1) := by decide +kernel
theorem dL_law_335 : decode cL_law 335 = .ok (.iload_n 3, 1) := by decide +kernel
theorem dL_law_336 : decode cL_law 336 = .ok (.iconst 3, 1) := by decide +kernel
theorem dL_law_337 : decode cL_law 337 = .ok (.iadd, 1) := by decide +kernel
theorem dL_law_338 : decode cL_law 338 = .ok (.iaload, 1) := by decide +kernel
theorem dL_law_339 : decode cL_law 339 = .ok (.aload_n 0, 1) := by decide +kernel
theorem dL_law_340 : decode cL_law 340 = .ok (.iload_n 3, 1) := by decide +kernel
theorem dL_law_341 : decode cL_law 341 = .ok (.iconst 4, 1) := by decide +kernel
theorem dL_law_342 : decode cL_law 342 = .ok (.iadd, 1) := by decide +kernel
theorem dL_law_343 : decode cL_law 343 = .ok (.iaload, 1) := by decide +kernel
theorem dL_law_344 : decode cL_law 344 = .ok (.aload_n 0, 1) := by decide +kernel
theorem dL_law_345 : decode cL_law 345 = .ok (.iload_n 3, 1) := by decide +kernel
theorem dL_law_346 : decode cL_law 346 = .ok (.iconst 5, 1) := by decide +kernel
theorem dL_law_347 : decode cL_law 347 = .ok (.iadd, 1) := by decide +kernel
theorem dL_law_348 : decode cL_law 348 = .ok (.iaload, 1) := by decide +kernel
theorem dL_law_349 : decode cL_law 349 = .ok (.invokevirtual 28, 3) := by decide +kernel
theorem dL_law_352 : decode cL_law 352 = .ok (.pop, 1) := by decide +kernel
theorem dL_law_353 : decode cL_law 353 = .ok (.aload_n 2, 1) := by decide +kernel
theorem dL_law_354 : decode cL_law 354 = .ok (.aload_n 0, 1) := by decide +kernel
theorem dL_law_355 : decode cL_law 355 = .ok (.iload_n 3, 1) := by decide +kernel
theorem dL_law_356 : decode cL_law 356 = .ok (.iconst 1, 1) := by decide +kernel
theorem dL_law_357 : decode cL_law 357 = .ok (.iadd, 1) := by decide +kernel
theorem dL_law_358 : decode cL_law 358 = .ok (.iaload, 1) := by decide +kernel
theorem dL_law_359 : decode cL_law 359 = .ok (.aload_n 0, 1) := by decide +kernel
theorem dL_law_360 : decode cL_law 360 = .ok (.iload_n 3, 1) := by decide +kernel
theorem dL_law_361 : decode cL_law 361 = .ok (.iconst 2, 1) := by decide +kernel
theorem dL_law_362 : decode cL_law 362 = .ok (.iadd, 1) := by decide +kernel
theorem dL_law_363 : decode cL_law 363 = .ok (.iaload, 1) := by decide +kernel
theorem dL_law_364 : decode cL_law 364 = .ok (.aload_n 0, 1) := by decide +kernel
theorem dL_law_365 : decode cL_law 365 = .ok (.iload_n 3, 1) := by decide +kernel
theorem dL_law_366 : decode cL_law 366 = .ok (.iconst 3, 1) := by decide +kernel
theorem dL_law_367 : decode cL_law 367 = .ok (.iadd, 1) := by decide +kernel
theorem dL_law_368 : decode cL_law 368 = .ok (.iaload, 1) := by decide +kernel
theorem dL_law_369 : decode cL_law 369 = .ok (.aload_n 0, 1) := by decide +kernel
theorem dL_law_370 : decode cL_law 370 = .ok (.iload_n 3, 1) := by decide +kernel
theorem dL_law_371 : decode cL_law 371 = .ok (.iconst 4, 1) := by decide +kernel
theorem dL_law_372 : decode cL_law 372 = .ok (.iadd, 1) := by decide +kernel
theorem dL_law_373 : decode cL_law 373 = .ok (.iaload, 1) := by decide +kernel
theorem dL_law_374 : decode cL_law 374 = .ok (.aload_n 0, 1) := by decide +kernel
theorem dL_law_375 : decode cL_law 375 = .ok (.iload_n 3, 1) := by decide +kernel
theorem dL_law_376 : decode cL_law 376 = .ok (.iconst 5, 1) := by decide +kernel
theorem dL_law_377 : decode cL_law 377 = .ok (.iadd, 1) := by decide +kernel
theorem dL_law_378 : decode cL_law 378 = .ok (.iaload, 1) := by decide +kernel
theorem dL_law_379 : decode cL_law 379 = .ok (.invokevirtual 32, 3) := by decide +kernel
theorem dL_law_382 : decode cL_law 382 = .ok (.pop, 1) := by decide +kernel
theorem dL_law_383 : decode cL_law 383 = .ok (.goto 1383, 3) := by decide +kernel
theorem dL_law_386 : decode cL_law 386 = .ok (.aload_n 1, 1) := by decide +kernel
theorem dL_law_387 : decode cL_law 387 = .ok (.aload_n 0, 1) := by decide +kernel
theorem dL_law_388 : decode cL_law 388 = .ok (.iload_n 3, 1) := by decide +kernel
theorem dL_law_389 : decode cL_law 389 = .ok (.iconst 1, 1) := by decide +kernel
theorem dL_law_390 : decode cL_law 390 = .ok (.iadd, 1) := by decide +kernel
theorem dL_law_391 : decode cL_law 391 = .ok (.iaload, 1) := by decide +kernel
theorem dL_law_392 : decode cL_law 392 = .ok (.aload_n 0, 1) := by decide +kernel
theorem dL_law_393 : decode cL_law 393 = .ok (.iload_n 3, 1) := by decide +kernel
theorem dL_law_394 : decode cL_law 394 = .ok (.iconst 2, 1) := by decide +kernel
theorem dL_law_395 : decode cL_law 395 = .ok (.iadd, 1) := by decide +kernel
theorem dL_law_396 : decode cL_law 396 = .ok (.iaload, 1) := by decide +kernel
theorem dL_law_397 : decode cL_law 397 = .ok (.invokevirtual 33, 3) := by decide +kernel
theorem dL_law_400 : decode cL_law 400 = .ok (.pop, 1) := by decide +kernel
theorem dL_law_401 : decode cL_law 401 = .ok (.aload_n 2, 1) := by decide +kernel
theorem dL_law_402 : decode cL_law 402 = .ok (.aload_n 0, 1) := by decide +kernel
theorem dL_law_403 : decode cL_law 403 = .ok (.iload_n 3, 1) := by decide +kernel
theorem dL_law_404 : decode cL_law 404 = .ok (.iconst 1, 1) := by decide +kernel
theorem dL_law_405 : decode cL_law 405 = .ok (.iadd, 1) := by decide +kernel
theorem dL_law_406 : decode cL_law 406 = .ok (.iaload, 1) := by decide +kernel
theorem dL_law_407 : decode cL_law 407 = .ok (.aload_n 0, 1) := by decide +kernel
theorem dL_law_408 : decode cL_law 408 = .ok (.iload_n 3, 1) := by decide +kernel
theorem dL_law_409 : decode cL_law 409 = .ok (.iconst 2, 1) := by decide +kernel
theorem dL_law_410 : decode cL_law 410 = .ok (.iadd, 1) := by decide +kernel
theorem dL_law_411 : decode cL_law 411 = .ok (.iaload, 1) := by decide +kernel
theorem dL_law_412 : decode cL_law 412 = .ok (.invokevirtual 37, 3) := by decide +kernel
theorem dL_law_415 : decode cL_law 415 = .ok (.pop, 1) := by decide +kernel
theorem dL_law_416 : decode cL_law 416 = .ok (.goto 1350, 3) := by decide +kernel
theorem dL_law_419 : decode cL_law 419 = .ok (.aload_n 1, 1) := by decide +kernel
theorem dL_law_420 : decode cL_law 420 = .ok (.aload_n 0, 1) := by decide +kernel
theorem dL_law_421 : decode cL_law 421 = .ok (.iload_n 3, 1) := by decide +kernel
theorem dL_law_422 : decode cL_law 422 = .ok (.iconst 1, 1) := by decide +kernel
theorem dL_law_423 : decode cL_law 423 = .ok (.iadd, 1) := by decide +kernel
theorem dL_law_424 : decode cL_law 424 = .ok (.iaload, 1) := by decide +kernel
theorem dL_law_425 : decode cL_law 425 = .ok (.aload_n 0, 1) := by decide +kernel
theorem dL_law_426 : decode cL_law 426 = .ok (.iload_n 3, 1) := by decide +kernel
theorem dL_law_427 : decode cL_law 427 = .ok (.iconst 2, 1) := by decide +kernel
theorem dL_law_428 : decode cL_law 428 = .ok (.iadd, 1) := by decide +kernel
theorem dL_law_429 : decode cL_law 429 = .ok (.iaload, 1) := by decide +kernel
theorem dL_law_430 : decode cL_law 430 = .ok (.invokevirtual 38, 3) := by decide +kernel
theorem dL_law_433 : decode cL_law 433 = .ok (.pop, 1) := by decide +kernel
theorem dL_law_434 : decode cL_law 434 = .ok (.aload_n 2, 1) := by decide +kernel
theorem dL_law_435 : decode cL_law 435 = .ok (.aload_n 0, 1) := by decide +kernel
theorem dL_law_436 : decode cL_law 436 = .ok (.iload_n 3, 1) := by decide +kernel
theorem dL_law_437 : decode cL_law 437 = .ok (.iconst 1, 1) := by decide +kernel
theorem dL_law_438 : decode cL_law 438 = .ok (.iadd, 1) := by decide +kernel
theorem dL_law_439 : decode cL_law 439 = .ok (.iaload, 1) := by decide +kernel
theorem dL_law_440 : decode cL_law 440 = .ok (.aload_n 0, 1) := by decide +kernel
theorem dL_law_441 : decode cL_law 441 = .ok (.iload_n 3, 1) := by decide +kernel
theorem dL_law_442 : decode cL_law 442 = .ok (.iconst 2, 1) := by decide +kernel
theorem dL_law_443 : decode cL_law 443 = .ok (.iadd, 1) := by decide +kernel
theorem dL_law_444 : decode cL_law 444 = .ok (.iaload, 1) := by decide +kernel
theorem dL_law_445 : decode cL_law 445 = .ok (.invokevirtual 41, 3) := by decide +kernel
theorem dL_law_448 : decode cL_law 448 = .ok (.pop, 1) := by decide +kernel
theorem dL_law_449 : decode cL_law 449 = .ok (.goto 1317, 3) := by decide +kernel
theorem dL_law_452 : decode cL_law 452 = .ok (.aload_n 1, 1) := by decide +kernel
theorem dL_law_453 : decode cL_law 453 = .ok (.aload_n 0, 1) := by decide +kernel
theorem dL_law_454 : decode cL_law 454 = .ok (.iload_n 3, 1) := by decide +kernel
theorem dL_law_455 : decode cL_law 455 = .ok (.iconst 1, 1) := by decide +kernel
theorem dL_law_456 : decode cL_law 456 = .ok (.iadd, 1) := by decide +kernel
theorem dL_law_457 : decode cL_law 457 = .ok (.iaload, 1) := by decide +kernel
theorem dL_law_458 : decode cL_law 458 = .ok (.invokevirtual 42, 3) := by decide +kernel
theorem dL_law_461 : decode cL_law 461 = .ok (.pop, 1) := by decide +kernel
theorem dL_law_462 : decode cL_law 462 = .ok (.aload_n 2, 1) := by decide +kernel
theorem dL_law_463 : decode cL_law 463 = .ok (.aload_n 0, 1) := by decide +kernel
theorem dL_law_464 : decode cL_law 464 = .ok (.iload_n 3, 1) := by decide +kernel
theorem dL_law_465 : decode cL_law 465 = .ok (.iconst 1, 1) := by decide +kernel
theorem dL_law_466 : decode cL_law 466 = .ok (.iadd, 1) := by decide +kernel

theorem dX10_tell_88 : decode cX10_tell 88 = .ok (.putfield 146, 3) := by decide +kernel
theorem dX10_tell_91 : decode cX10_tell 91 = .ok (.iload_n 3, 1) := by decide +kernel
theorem dX10_tell_92 : decode cX10_tell 92 = .ok (.ifCond .eq 10, 3) := by decide +kernel
theorem dX10_tell_95 : decode cX10_tell 95 = .ok (.aload_n 0, 1) := by decide +kernel
theorem dX10_tell_96 : decode cX10_tell 96 = .ok (.getfield 44, 3) := by decide +kernel
theorem dX10_tell_99 : decode cX10_tell 99 = .ok (.invokevirtual 103, 3) := by decide +kernel
theorem dX10_tell_102 : decode cX10_tell 102 = .ok (.aload_n 0, 1) := by decide +kernel
theorem dX10_tell_103 : decode cX10_tell 103 = .ok (.getfield 28, 3) := by decide +kernel
theorem dX10_tell_106 : decode cX10_tell 106 = .ok (.getfield 149, 3) := by decide +kernel
theorem dX10_tell_109 : decode cX10_tell 109 = .ok (.invokestatic 150, 3) := by decide +kernel
theorem dX10_tell_112 : decode cX10_tell 112 = .ok (.ireturn, 1) := by decide +kernel
theorem dX10_takeBack_0 : decode cX10_takeBack 0 = .ok (.aload_n 0, 1) := by decide +kernel
theorem dX10_takeBack_1 : decode cX10_takeBack 1 = .ok (.getfield 10, 3) := by decide +kernel
theorem dX10_takeBack_4 : decode cX10_takeBack 4 = .ok (.iload_n 1, 1) := by decide +kernel
theorem dX10_takeBack_5 : decode cX10_takeBack 5 = .ok (.invokevirtual 156, 3) := by decide +kernel
theorem dX10_takeBack_8 : decode cX10_takeBack 8 = .ok (.ifCond .ne 5, 3) := by decide +kernel
theorem dX10_takeBack_11 : decode cX10_takeBack 11 = .ok (.iconst 0, 1) := by decide +kernel
theorem dX10_takeBack_12 : decode cX10_takeBack 12 = .ok (.ireturn, 1) := by decide +kernel
theorem dX10_takeBack_13 : decode cX10_takeBack 13 = .ok (.aload_n 0, 1) := by decide +kernel
theorem dX10_takeBack_14 : decode cX10_takeBack 14 = .ok (.getfield 10, 3) := by decide +kernel
theorem dX10_takeBack_17 : decode cX10_takeBack 17 = .ok (.dup, 1) := by decide +kernel
theorem dX10_takeBack_18 : decode cX10_takeBack 18 = .ok (.getfield 146, 3) := by decide +kernel
theorem dX10_takeBack_21 : decode cX10_takeBack 21 = .ok (.iconst 1, 1) := by decide +kernel
theorem dX10_takeBack_22 : decode cX10_takeBack 22 = .ok (.iload_n 1, 1) := by decide +kernel
theorem dX10_takeBack_23 : decode cX10_takeBack 23 = .ok (.ishl, 1) := by decide +kernel
theorem dX10_takeBack_24 : decode cX10_takeBack 24 = .ok (.iconst (-1), 1) := by decide +kernel
theorem dX10_takeBack_25 : decode cX10_takeBack 25 = .ok (.ixor, 1) := by decide +kernel
theorem dX10_takeBack_26 : decode cX10_takeBack 26 = .ok (.iand, 1) := by decide +kernel
theorem dX10_takeBack_27 : decode cX10_takeBack 27 = .ok (.putfield 146, 3) := by decide +kernel
theorem dX10_takeBack_30 : decode cX10_takeBack 30 = .ok (.aload_n 0, 1) := by decide +kernel
theorem dX10_takeBack_31 : decode cX10_takeBack 31 = .ok (.getfield 44, 3) := by decide +kernel
theorem dX10_takeBack_34 : decode cX10_takeBack 34 = .ok (.invokevirtual 103, 3) := by decide +kernel
theorem dX10_takeBack_37 : decode cX10_takeBack 37 = .ok (.iconst 1, 1) := by decide +kernel
theorem dX10_takeBack_38 : decode cX10_takeBack 38 = .ok (.ireturn, 1) := by decide +kernel
theorem dX10_parent_0 : decode cX10_parent 0 = .ok (.aload_n 0, 1) := by decide +kernel
theorem dX10_parent_1 : decode cX10_parent 1 = .ok (.getfield 10, 3) := by decide +kernel
theorem dX10_parent_4 : decode cX10_parent 4 = .ok (.iload_n 1, 1) := by decide +kernel
theorem dX10_parent_5 : decode cX10_parent 5 = .ok (.invokevirtual 106, 3) := by decide +kernel
theorem dX10_parent_8 : decode cX10_parent 8 = .ok (.ifCond .eq 30, 3) := by decide +kernel
theorem dX10_parent_11 : decode cX10_parent 11 = .ok (.aload_n 0, 1) := by decide +kernel
theorem dX10_parent_12 : decode cX10_parent 12 = .ok (.getfield 10, 3) := by decide +kernel
theorem dX10_parent_15 : decode cX10_parent 15 = .ok (.iload_n 2, 1) := by decide +kernel
theorem dX10_parent_16 : decode cX10_parent 16 = .ok (.invokevirtual 106, 3) := by decide +kernel
theorem dX10_parent_19 : decode cX10_parent 19 = .ok (.ifCond .eq 19, 3) := by decide +kernel
theorem dX10_parent_22 : decode cX10_parent 22 = .ok (.iload_n 1, 1) := by decide +kernel
theorem dX10_parent_23 : decode cX10_parent 23 = .ok (.iload_n 2, 1) := by decide +kernel
theorem dX10_parent_24 : decode cX10_parent 24 = .ok (.if_icmp .eq 14, 3) := by decide +kernel
theorem dX10_parent_27 : decode cX10_parent 27 = .ok (.iload_n 3, 1) := by decide +kernel
theorem dX10_parent_28 : decode cX10_parent 28 = .ok (.iconst (-1), 1) := by decide +kernel
theorem dX10_parent_29 : decode cX10_parent 29 = .ok (.if_icmp .lt 9, 3) := by decide +kernel
theorem dX10_parent_32 : decode cX10_parent 32 = .ok (.iload_n 3, 1) := by decide +kernel
theorem dX10_parent_33 : decode cX10_parent 33 = .ok (.bipush 99, 2) := by decide +kernel
theorem dX10_parent_35 : decode cX10_parent 35 = .ok (.if_icmp .le 5, 3) := by decide +kernel
theorem dX10_parent_38 : decode cX10_parent 38 = .ok (.iconst 0, 1) := by decide +kernel
theorem dX10_parent_39 : decode cX10_parent 39 = .ok (.ireturn, 1) := by decide +kernel
theorem dX10_parent_40 : decode cX10_parent 40 = .ok (.aload_n 0, 1) := by decide +kernel
theorem dX10_parent_41 : decode cX10_parent 41 = .ok (.getfield 10, 3) := by decide +kernel
theorem dX10_parent_44 : decode cX10_parent 44 = .ok (.getfield 159, 3) := by decide +kernel
theorem dX10_parent_47 : decode cX10_parent 47 = .ok (.iload_n 1, 1) := by decide +kernel
theorem dX10_parent_48 : decode cX10_parent 48 = .ok (.bipush 6, 2) := by decide +kernel
theorem dX10_parent_50 : decode cX10_parent 50 = .ok (.imul, 1) := by decide +kernel
theorem dX10_parent_51 : decode cX10_parent 51 = .ok (.iload_n 2, 1) := by decide +kernel
theorem dX10_parent_52 : decode cX10_parent 52 = .ok (.iadd, 1) := by decide +kernel
theorem dX10_parent_53 : decode cX10_parent 53 = .ok (.iload_n 3, 1) := by decide +kernel
theorem dX10_parent_54 : decode cX10_parent 54 = .ok (.iastore, 1) := by decide +kernel
theorem dX10_parent_55 : decode cX10_parent 55 = .ok (.iconst 1, 1) := by decide +kernel
theorem dX10_parent_56 : decode cX10_parent 56 = .ok (.ireturn, 1) := by decide +kernel
theorem dX10_keep_0 : decode cX10_keep 0 = .ok (.aload_n 0, 1) := by decide +kernel
theorem dX10_keep_1 : decode cX10_keep 1 = .ok (.getfield 16, 3) := by decide +kernel
theorem dX10_keep_4 : decode cX10_keep 4 = .ok (.aload_n 0, 1) := by decide +kernel
theorem dX10_keep_5 : decode cX10_keep 5 = .ok (.getfield 10, 3) := by decide +kernel
theorem dX10_keep_8 : decode cX10_keep 8 = .ok (.invokevirtual 162, 3) := by decide +kernel
theorem dX10_keep_11 : decode cX10_keep 11 = .ok (.aload_n 0, 1) := by decide +kernel
theorem dX10_keep_12 : decode cX10_keep 12 = .ok (.iconst 1, 1) := by decide +kernel
theorem dX10_keep_13 : decode cX10_keep 13 = .ok (.putfield 165, 3) := by decide +kernel
theorem dX10_keep_16 : decode cX10_keep 16 = .ok (.aload_n 0, 1) := by decide +kernel
theorem dX10_keep_17 : decode cX10_keep 17 = .ok (.getfield 10, 3) := by decide +kernel
theorem dX10_keep_20 : decode cX10_keep 20 = .ok (.invokevirtual 169, 3) := by decide +kernel
theorem dX10_keep_23 : decode cX10_keep 23 = .ok (.invokestatic 150, 3) := by decide +kernel
theorem dX10_keep_26 : decode cX10_keep 26 = .ok (.ireturn, 1) := by decide +kernel
theorem dX10_undo_0 : decode cX10_undo 0 = .ok (.aload_n 0, 1) := by decide +kernel
theorem dX10_undo_1 : decode cX10_undo 1 = .ok (.getfield 165, 3) := by decide +kernel
theorem dX10_undo_4 : decode cX10_undo 4 = .ok (.ifCond .ne 5, 3) := by decide +kernel
theorem dX10_undo_7 : decode cX10_undo 7 = .ok (.iconst 0, 1) := by decide +kernel
theorem dX10_undo_8 : decode cX10_undo 8 = .ok (.ireturn, 1) := by decide +kernel
theorem dX10_undo_9 : decode cX10_undo 9 = .ok (.aload_n 0, 1) := by decide +kernel
theorem dX10_undo_10 : decode cX10_undo 10 = .ok (.getfield 10, 3) := by decide +kernel
theorem dX10_undo_13 : decode cX10_undo 13 = .ok (.aload_n 0, 1) := by decide +kernel
theorem dX10_undo_14 : decode cX10_undo 14 = .ok (.getfield 16, 3) := by decide +kernel
theorem dX10_undo_17 : decode cX10_undo 17 = .ok (.invokevirtual 162, 3) := by decide +kernel
theorem dX10_undo_20 : decode cX10_undo 20 = .ok (.aload_n 0, 1) := by decide +kernel
theorem dX10_undo_21 : decode cX10_undo 21 = .ok (.getfield 44, 3) := by decide +kernel
theorem dX10_undo_24 : decode cX10_undo 24 = .ok (.invokevirtual 103, 3) := by decide +kernel
theorem dX10_undo_27 : decode cX10_undo 27 = .ok (.iconst 1, 1) := by decide +kernel
theorem dX10_undo_28 : decode cX10_undo 28 = .ok (.ireturn, 1) := by decide +kernel
theorem dX10_count_0 : decode cX10_count 0 = .ok (.iload_n 1, 1) := by decide +kernel
theorem dX10_count_1 : decode cX10_count 1 = .ok (.tableswitch 75 0 4 #[35, 43, 51, 59, 70], 35) := by decide +kernel
theorem dX10_count_36 : decode cX10_count 36 = .ok (.aload_n 0, 1) := by decide +kernel
theorem dX10_count_37 : decode cX10_count 37 = .ok (.getfield 10, 3) := by decide +kernel
theorem dX10_count_40 : decode cX10_count 40 = .ok (.getfield 110, 3) := by decide +kernel
theorem dX10_count_43 : decode cX10_count 43 = .ok (.ireturn, 1) := by decide +kernel
theorem dX10_count_44 : decode cX10_count 44 = .ok (.aload_n 0, 1) := by decide +kernel
theorem dX10_count_45 : decode cX10_count 45 = .ok (.getfield 10, 3) := by decide +kernel
theorem dX10_count_48 : decode cX10_count 48 = .ok (.getfield 99, 3) := by decide +kernel
theorem dX10_count_51 : decode cX10_count 51 = .ok (.ireturn, 1) := by decide +kernel
theorem dX10_count_52 : decode cX10_count 52 = .ok (.aload_n 0, 1) := by decide +kernel
theorem dX10_count_53 : decode cX10_count 53 = .ok (.getfield 10, 3) := by decide +kernel
theorem dX10_count_56 : decode cX10_count 56 = .ok (.invokevirtual 169, 3) := by decide +kernel
theorem dX10_count_59 : decode cX10_count 59 = .ok (.ireturn, 1) := by decide +kernel
theorem dX10_count_60 : decode cX10_count 60 = .ok (.aload_n 0, 1) := by decide +kernel
theorem dX10_count_61 : decode cX10_count 61 = .ok (.getfield 10, 3) := by decide +kernel
theorem dX10_count_64 : decode cX10_count 64 = .ok (.getfield 146, 3) := by decide +kernel
theorem dX10_count_67 : decode cX10_count 67 = .ok (.bipush 10, 2) := by decide +kernel
theorem dX10_count_69 : decode cX10_count 69 = .ok (.ishr, 1) := by decide +kernel
theorem dX10_count_70 : decode cX10_count 70 = .ok (.ireturn, 1) := by decide +kernel
theorem dX10_count_71 : decode cX10_count 71 = .ok (.aload_n 0, 1) := by decide +kernel
theorem dX10_count_72 : decode cX10_count 72 = .ok (.getfield 113, 3) := by decide +kernel
theorem dX10_count_75 : decode cX10_count 75 = .ok (.ireturn, 1) := by decide +kernel
theorem dX10_count_76 : decode cX10_count 76 = .ok (.aload_n 0, 1) := by decide +kernel
theorem dX10_count_77 : decode cX10_count 77 = .ok (.iload_n 1, 1) := by decide +kernel
theorem dX10_count_78 : decode cX10_count 78 = .ok (.invokevirtual 173, 3) := by decide +kernel
theorem dX10_count_81 : decode cX10_count 81 = .ok (.ireturn, 1) := by decide +kernel
theorem dX10_countOfPerson_0 : decode cX10_countOfPerson 0 = .ok (.iload_n 1, 1) := by decide +kernel
theorem dX10_countOfPerson_1 : decode cX10_countOfPerson 1 = .ok (.bipush 10, 2) := by decide +kernel
theorem dX10_countOfPerson_3 : decode cX10_countOfPerson 3 = .ok (.irem, 1) := by decide +kernel
theorem dX10_countOfPerson_4 : decode cX10_countOfPerson 4 = .ok (.istore_n 2, 1) := by decide +kernel
theorem dX10_countOfPerson_5 : decode cX10_countOfPerson 5 = .ok (.iload_n 1, 1) := by decide +kernel
theorem dX10_countOfPerson_6 : decode cX10_countOfPerson 6 = .ok (.bipush 10, 2) := by decide +kernel
theorem dX10_countOfPerson_8 : decode cX10_countOfPerson 8 = .ok (.if_icmp .lt 20, 3) := by decide +kernel
theorem dX10_countOfPerson_11 : decode cX10_countOfPerson 11 = .ok (.iload_n 1, 1) := by decide +kernel
theorem dX10_countOfPerson_12 : decode cX10_countOfPerson 12 = .ok (.bipush 39, 2) := by decide +kernel
theorem dX10_countOfPerson_14 : decode cX10_countOfPerson 14 = .ok (.if_icmp .gt 14, 3) := by decide +kernel
theorem dX10_countOfPerson_17 : decode cX10_countOfPerson 17 = .ok (.aload_n 0, 1) := by decide +kernel
theorem dX10_countOfPerson_18 : decode cX10_countOfPerson 18 = .ok (.getfield 10, 3) := by decide +kernel
theorem dX10_countOfPerson_21 : decode cX10_countOfPerson 21 = .ok (.iload_n 2, 1) := by decide +kernel
theorem dX10_countOfPerson_22 : decode cX10_countOfPerson 22 = .ok (.invokevirtual 106, 3) := by decide +kernel
theorem dX10_countOfPerson_25 : decode cX10_countOfPerson 25 = .ok (.ifCond .ne 5, 3) := by decide +kernel
theorem dX10_countOfPerson_28 : decode cX10_countOfPerson 28 = .ok (.iconst (-1), 1) := by decide +kernel
theorem dX10_countOfPerson_29 : decode cX10_countOfPerson 29 = .ok (.ireturn, 1) := by decide +kernel
theorem dX10_countOfPerson_30 : decode cX10_countOfPerson 30 = .ok (.iload_n 1, 1) := by decide +kernel
theorem dX10_countOfPerson_31 : decode cX10_countOfPerson 31 = .ok (.bipush 20, 2) := by decide +kernel
theorem dX10_countOfPerson_33 : decode cX10_countOfPerson 33 = .ok (.if_icmp .ge 13, 3) := by decide +kernel
theorem dX10_countOfPerson_36 : decode cX10_countOfPerson 36 = .ok (.aload_n 0, 1) := by decide +kernel
theorem dX10_countOfPerson_37 : decode cX10_countOfPerson 37 = .ok (.getfield 10, 3) := by decide +kernel
theorem dX10_countOfPerson_40 : decode cX10_countOfPerson 40 = .ok (.getfield 90, 3) := by decide +kernel
theorem dX10_countOfPerson_43 : decode cX10_countOfPerson 43 = .ok (.iload_n 2, 1) := by decide +kernel
theorem dX10_countOfPerson_44 : decode cX10_countOfPerson 44 = .ok (.iaload, 1) := by decide +kernel
theorem dX10_countOfPerson_45 : decode cX10_countOfPerson 45 = .ok (.ireturn, 1) := by decide +kernel
theorem dX10_countOfPerson_46 : decode cX10_countOfPerson 46 = .ok (.iload_n 1, 1) := by decide +kernel
theorem dX10_countOfPerson_47 : decode cX10_countOfPerson 47 = .ok (.bipush 30, 2) := by decide +kernel
theorem dX10_countOfPerson_49 : decode cX10_countOfPerson 49 = .ok (.if_icmp .ge 13, 3) := by decide +kernel
theorem dX10_countOfPerson_52 : decode cX10_countOfPerson 52 = .ok (.aload_n 0, 1) := by decide +kernel
theorem dX10_countOfPerson_53 : decode cX10_countOfPerson 53 = .ok (.getfield 10, 3) := by decide +kernel
theorem dX10_countOfPerson_56 : decode cX10_countOfPerson 56 = .ok (.getfield 93, 3) := by decide +kernel
theorem dX10_countOfPerson_59 : decode cX10_countOfPerson 59 = .ok (.iload_n 2, 1) := by decide +kernel
theorem dX10_countOfPerson_60 : decode cX10_countOfPerson 60 = .ok (.iaload, 1) := by decide +kernel
theorem dX10_countOfPerson_61 : decode cX10_countOfPerson 61 = .ok (.ireturn, 1) := by decide +kernel
theorem dX10_countOfPerson_62 : decode cX10_countOfPerson 62 = .ok (.aload_n 0, 1) := by decide +kernel
theorem dX10_countOfPerson_63 : decode cX10_countOfPerson 63 = .ok (.getfield 10, 3) := by decide +kernel
theorem dX10_countOfPerson_66 : decode cX10_countOfPerson 66 = .ok (.getfield 96, 3) := by decide +kernel
theorem dX10_countOfPerson_69 : decode cX10_countOfPerson 69 = .ok (.iload_n 2, 1) := by decide +kernel
theorem dX10_countOfPerson_70 : decode cX10_countOfPerson 70 = .ok (.iaload, 1) := by decide +kernel
theorem dX10_countOfPerson_71 : decode cX10_countOfPerson 71 = .ok (.bipush 100, 2) := by decide +kernel
theorem dX10_countOfPerson_73 : decode cX10_countOfPerson 73 = .ok (.if_icmp .ne 8, 3) := by decide +kernel
theorem dX10_countOfPerson_76 : decode cX10_countOfPerson 76 = .ok (.bipush (-2), 2) := by decide +kernel
theorem dX10_countOfPerson_78 : decode cX10_countOfPerson 78 = .ok (.goto 12, 3) := by decide +kernel
theorem dX10_countOfPerson_81 : decode cX10_countOfPerson 81 = .ok (.aload_n 0, 1) := by decide +kernel
theorem dX10_countOfPerson_82 : decode cX10_countOfPerson 82 = .ok (.getfield 10, 3) := by decide +kernel
theorem dX10_countOfPerson_85 : decode cX10_countOfPerson 85 = .ok (.getfield 96, 3) := by decide +kernel
theorem dX10_countOfPerson_88 : decode cX10_countOfPerson 88 = .ok (.iload_n 2, 1) := by decide +kernel
theorem dX10_countOfPerson_89 : decode cX10_countOfPerson 89 = .ok (.iaload, 1) := by decide +kernel
theorem dX10_countOfPerson_90 : decode cX10_countOfPerson 90 = .ok (.ireturn, 1) := by decide +kernel
theorem dX10_areRemarks_0 : decode cX10_areRemarks 0 = .ok (.iload_n 1, 1) := by decide +kernel
theorem dX10_areRemarks_1 : decode cX10_areRemarks 1 = .ok (.aload_n 0, 1) := by decide +kernel
theorem dX10_areRemarks_2 : decode cX10_areRemarks 2 = .ok (.getfield 10, 3) := by decide +kernel
theorem dX10_areRemarks_5 : decode cX10_areRemarks 5 = .ok (.invokevirtual 169, 3) := by decide +kernel
theorem dX10_areRemarks_8 : decode cX10_areRemarks 8 = .ok (.iconst (-1), 1) := by decide +kernel
theorem dX10_areRemarks_9 : decode cX10_areRemarks 9 = .ok (.ixor, 1) := by decide +kernel
theorem dX10_areRemarks_10 : decode cX10_areRemarks 10 = .ok (.iand, 1) := by decide +kernel
theorem dX10_areRemarks_11 : decode cX10_areRemarks 11 = .ok (.ifCond .ne 7, 3) := by decide +kernel
theorem dX10_areRemarks_14 : decode cX10_areRemarks 14 = .ok (.iconst 1, 1) := by decide +kernel
theorem dX10_areRemarks_15 : decode cX10_areRemarks 15 = .ok (.goto 4, 3) := by decide +kernel
theorem dX10_areRemarks_18 : decode cX10_areRemarks 18 = .ok (.iconst 0, 1) := by decide +kernel
theorem dX10_areRemarks_19 : decode cX10_areRemarks 19 = .ok (.ireturn, 1) := by decide +kernel
theorem dX10_rows_0 : decode cX10_rows 0 = .ok (.aload_n 0, 1) := by decide +kernel
theorem dX10_rows_1 : decode cX10_rows 1 = .ok (.getfield 10, 3) := by decide +kernel
theorem dX10_rows_4 : decode cX10_rows 4 = .ok (.invokevirtual 176, 3) := by decide +kernel
theorem dX10_rows_7 : decode cX10_rows 7 = .ok (.lstore_n 1, 1) := by decide +kernel
theorem dX10_rows_8 : decode cX10_rows 8 = .ok (.lload_n 1, 1) := by decide +kernel
theorem dX10_rows_9 : decode cX10_rows 9 = .ok (.ldc2_w 180, 3) := by decide +kernel
theorem dX10_rows_12 : decode cX10_rows 12 = .ok (.lcmp, 1) := by decide +kernel
theorem dX10_rows_13 : decode cX10_rows 13 = .ok (.ifCond .le 8, 3) := by decide +kernel
theorem dX10_rows_16 : decode cX10_rows 16 = .ok (.bipush (-3), 2) := by decide +kernel
theorem dX10_rows_18 : decode cX10_rows 18 = .ok (.goto 5, 3) := by decide +kernel
theorem dX10_rows_21 : decode cX10_rows 21 = .ok (.lload_n 1, 1) := by decide +kernel
theorem dX10_rows_22 : decode cX10_rows 22 = .ok (.l2i, 1) := by decide +kernel
theorem dX10_rows_23 : decode cX10_rows 23 = .ok (.ireturn, 1) := by decide +kernel
theorem dX10_fit_0 : decode cX10_fit 0 = .ok (.aload_n 0, 1) := by decide +kernel
theorem dX10_fit_1 : decode cX10_fit 1 = .ok (.iload_n 1, 1) := by decide +kernel
theorem dX10_fit_2 : decode cX10_fit 2 = .ok (.invokevirtual 182, 3) := by decide +kernel
theorem dX10_fit_5 : decode cX10_fit 5 = .ok (.ifCond .eq 26, 3) := by decide +kernel
theorem dX10_fit_8 : decode cX10_fit 8 = .ok (.iload_n 2, 1) := by decide +kernel
theorem dX10_fit_9 : decode cX10_fit 9 = .ok (.bipush 100, 2) := by decide +kernel
theorem dX10_fit_11 : decode cX10_fit 11 = .ok (.if_icmp .eq 22, 3) := by decide +kernel
theorem dX10_fit_14 : decode cX10_fit 14 = .ok (.iload_n 2, 1) := by decide +kernel
theorem dX10_fit_15 : decode cX10_fit 15 = .ok (.bipush 101, 2) := by decide +kernel
theorem dX10_fit_17 : decode cX10_fit 17 = .ok (.if_icmp .eq 16, 3) := by decide +kernel
theorem dX10_fit_20 : decode cX10_fit 20 = .ok (.aload_n 0, 1) := by decide +kernel
theorem dX10_fit_21 : decode cX10_fit 21 = .ok (.getfield 10, 3) := by decide +kernel
theorem dX10_fit_24 : decode cX10_fit 24 = .ok (.iload_n 2, 1) := by decide +kernel
theorem dX10_fit_25 : decode cX10_fit 25 = .ok (.invokevirtual 106, 3) := by decide +kernel
theorem dX10_fit_28 : decode cX10_fit 28 = .ok (.ifCond .ne 5, 3) := by decide +kernel
theorem dX10_fit_31 : decode cX10_fit 31 = .ok (.iconst (-1), 1) := by decide +kernel
theorem dX10_fit_32 : decode cX10_fit 32 = .ok (.ireturn, 1) := by decide +kernel
theorem dX10_fit_33 : decode cX10_fit 33 = .ok (.iload_n 2, 1) := by decide +kernel
theorem dX10_fit_34 : decode cX10_fit 34 = .ok (.bipush 6, 2) := by decide +kernel
theorem dX10_fit_36 : decode cX10_fit 36 = .ok (.if_icmp .ge 30, 3) := by decide +kernel
theorem dX10_fit_39 : decode cX10_fit 39 = .ok (.aload_n 0, 1) := by decide +kernel
theorem dX10_fit_40 : decode cX10_fit 40 = .ok (.getfield 37, 3) := by decide +kernel
theorem dX10_fit_43 : decode cX10_fit 43 = .ok (.iload_n 1, 1) := by decide +kernel
theorem dX10_fit_44 : decode cX10_fit 44 = .ok (.invokevirtual 185, 3) := by decide +kernel
theorem dX10_fit_47 : decode cX10_fit 47 = .ok (.istore_n 3, 1) := by decide +kernel
theorem dX10_fit_48 : decode cX10_fit 48 = .ok (.iload_n 3, 1) := by decide +kernel
theorem dX10_fit_49 : decode cX10_fit 49 = .ok (.ifCond .ge 7, 3) := by decide +kernel
theorem dX10_fit_52 : decode cX10_fit 52 = .ok (.iload_n 3, 1) := by decide +kernel
theorem dX10_fit_53 : decode cX10_fit 53 = .ok (.goto 12, 3) := by decide +kernel
theorem dX10_fit_56 : decode cX10_fit 56 = .ok (.aload_n 0, 1) := by decide +kernel
theorem dX10_fit_57 : decode cX10_fit 57 = .ok (.getfield 37, 3) := by decide +kernel
theorem dX10_fit_60 : decode cX10_fit 60 = .ok (.getfield 188, 3) := by decide +kernel
theorem dX10_fit_63 : decode cX10_fit 63 = .ok (.iload_n 2, 1) := by decide +kernel
theorem dX10_fit_64 : decode cX10_fit 64 = .ok (.iaload, 1) := by decide +kernel
theorem dX10_fit_65 : decode cX10_fit 65 = .ok (.ireturn, 1) := by decide +kernel
theorem dX10_fit_66 : decode cX10_fit 66 = .ok (.aload_n 0, 1) := by decide +kernel
theorem dX10_fit_67 : decode cX10_fit 67 = .ok (.getfield 44, 3) := by decide +kernel
theorem dX10_fit_70 : decode cX10_fit 70 = .ok (.aload_n 0, 1) := by decide +kernel
theorem dX10_fit_71 : decode cX10_fit 71 = .ok (.getfield 37, 3) := by decide +kernel
theorem dX10_fit_74 : decode cX10_fit 74 = .ok (.invokevirtual 191, 3) := by decide +kernel
theorem dX10_fit_77 : decode cX10_fit 77 = .ok (.ifCond .ne 6, 3) := by decide +kernel
theorem dX10_fit_80 : decode cX10_fit 80 = .ok (.bipush (-3), 2) := by decide +kernel
theorem dX10_fit_82 : decode cX10_fit 82 = .ok (.ireturn, 1) := by decide +kernel
theorem dX10_fit_83 : decode cX10_fit 83 = .ok (.iload_n 2, 1) := by decide +kernel
theorem dX10_fit_84 : decode cX10_fit 84 = .ok (.bipush 100, 2) := by decide +kernel
theorem dX10_fit_86 : decode cX10_fit 86 = .ok (.if_icmp .ne 14, 3) := by decide +kernel
theorem dX10_fit_89 : decode cX10_fit 89 = .ok (.aload_n 0, 1) := by decide +kernel
theorem dX10_fit_90 : decode cX10_fit 90 = .ok (.getfield 44, 3) := by decide +kernel
theorem dX10_fit_93 : decode cX10_fit 93 = .ok (.iload_n 1, 1) := by decide +kernel
theorem dX10_fit_94 : decode cX10_fit 94 = .ok (.invokevirtual 195, 3) := by decide +kernel
theorem dX10_fit_97 : decode cX10_fit 97 = .ok (.goto 11, 3) := by decide +kernel
theorem dX10_fit_100 : decode cX10_fit 100 = .ok (.aload_n 0, 1) := by decide +kernel
theorem dX10_fit_101 : decode cX10_fit 101 = .ok (.getfield 44, 3) := by decide +kernel
theorem dX10_fit_104 : decode cX10_fit 104 = .ok (.iload_n 1, 1) := by decide +kernel
theorem dX10_fit_105 : decode cX10_fit 105 = .ok (.invokevirtual 198, 3) := by decide +kernel
theorem dX10_fit_108 : decode cX10_fit 108 = .ok (.ireturn, 1) := by decide +kernel
theorem dX10_countAges_0 : decode cX10_countAges 0 = .ok (.aload_n 0, 1) := by decide +kernel
theorem dX10_countAges_1 : decode cX10_countAges 1 = .ok (.getfield 37, 3) := by decide +kernel
theorem dX10_countAges_4 : decode cX10_countAges 4 = .ok (.iload_n 1, 1) := by decide +kernel
theorem dX10_countAges_5 : decode cX10_countAges 5 = .ok (.invokevirtual 201, 3) := by decide +kernel
theorem dX10_countAges_8 : decode cX10_countAges 8 = .ok (.ifCond .ne 6, 3) := by decide +kernel
theorem dX10_countAges_11 : decode cX10_countAges 11 = .ok (.bipush (-3), 2) := by decide +kernel
theorem dX10_countAges_13 : decode cX10_countAges 13 = .ok (.ireturn, 1) := by decide +kernel
theorem dX10_countAges_14 : decode cX10_countAges 14 = .ok (.aload_n 0, 1) := by decide +kernel
theorem dX10_countAges_15 : decode cX10_countAges 15 = .ok (.getfield 83, 3) := by decide +kernel
theorem dX10_countAges_18 : decode cX10_countAges 18 = .ok (.iconst 0, 1) := by decide +kernel
theorem dX10_countAges_19 : decode cX10_countAges 19 = .ok (.invokestatic 204, 3) := by decide +kernel
theorem dX10_countAges_22 : decode cX10_countAges 22 = .ok (.iconst 0, 1) := by decide +kernel
theorem dX10_countAges_23 : decode cX10_countAges 23 = .ok (.istore_n 3, 1) := by decide +kernel
theorem dX10_countAges_24 : decode cX10_countAges 24 = .ok (.iconst 0, 1) := by decide +kernel
theorem dX10_countAges_25 : decode cX10_countAges 25 = .ok (.istore 4, 2) := by decide +kernel
theorem dX10_countAges_27 : decode cX10_countAges 27 = .ok (.iload 4, 2) := by decide +kernel
theorem dX10_countAges_29 : decode cX10_countAges 29 = .ok (.ldc 210, 2) := by decide +kernel
theorem dX10_countAges_31 : decode cX10_countAges 31 = .ok (.if_icmp .ge 40, 3) := by decide +kernel
theorem dX10_countAges_34 : decode cX10_countAges 34 = .ok (.aload_n 0, 1) := by decide +kernel
theorem dX10_countAges_35 : decode cX10_countAges 35 = .ok (.getfield 37, 3) := by decide +kernel
theorem dX10_countAges_38 : decode cX10_countAges 38 = .ok (.invokevirtual 211, 3) := by decide +kernel
theorem dX10_countAges_41 : decode cX10_countAges 41 = .ok (.ifCond .eq 30, 3) := by decide +kernel
theorem dX10_countAges_44 : decode cX10_countAges 44 = .ok (.aload_n 0, 1) := by decide +kernel
theorem dX10_countAges_45 : decode cX10_countAges 45 = .ok (.getfield 83, 3) := by decide +kernel
theorem dX10_countAges_48 : decode cX10_countAges 48 = .ok (.aload_n 0, 1) := by decide +kernel
theorem dX10_countAges_49 : decode cX10_countAges 49 = .ok (.getfield 37, 3) := by decide +kernel
theorem dX10_countAges_52 : decode cX10_countAges 52 = .ok (.getfield 188, 3) := by decide +kernel
theorem dX10_countAges_55 : decode cX10_countAges 55 = .ok (.iload_n 2, 1) := by decide +kernel
theorem dX10_countAges_56 : decode cX10_countAges 56 = .ok (.iaload, 1) := by decide +kernel
theorem dX10_countAges_57 : decode cX10_countAges 57 = .ok (.dup2, 1) := by decide +kernel
theorem dX10_countAges_58 : decode cX10_countAges 58 = .ok (.iaload, 1) := by decide +kernel
theorem dX10_countAges_59 : decode cX10_countAges 59 = .ok (.iconst 1, 1) := by decide +kernel
theorem dX10_countAges_60 : decode cX10_countAges 60 = .ok (.iadd, 1) := by decide +kernel
theorem dX10_countAges_61 : decode cX10_countAges 61 = .ok (.iastore, 1) := by decide +kernel
theorem dX10_countAges_62 : decode cX10_countAges 62 = .ok (.iinc 3 1, 3) := by decide +kernel
theorem dX10_countAges_65 : decode cX10_countAges 65 = .ok (.iinc 4 1, 3) := by decide +kernel
theorem dX10_countAges_68 : decode cX10_countAges 68 = .ok (.goto (-41), 3) := by decide +kernel
theorem dX10_countAges_71 : decode cX10_countAges 71 = .ok (.iload_n 3, 1) := by decide +kernel
theorem dX10_countAges_72 : decode cX10_countAges 72 = .ok (.ireturn, 1) := by decide +kernel
theorem dX10_ageIs_0 : decode cX10_ageIs 0 = .ok (.aload_n 0, 1) := by decide +kernel
theorem dX10_ageIs_1 : decode cX10_ageIs 1 = .ok (.iload_n 1, 1) := by decide +kernel
theorem dX10_ageIs_2 : decode cX10_ageIs 2 = .ok (.invokevirtual 182, 3) := by decide +kernel
theorem dX10_ageIs_5 : decode cX10_ageIs 5 = .ok (.ifCond .eq 23, 3) := by decide +kernel
theorem dX10_ageIs_8 : decode cX10_ageIs 8 = .ok (.aload_n 0, 1) := by decide +kernel
theorem dX10_ageIs_9 : decode cX10_ageIs 9 = .ok (.getfield 10, 3) := by decide +kernel
theorem dX10_ageIs_12 : decode cX10_ageIs 12 = .ok (.iload_n 2, 1) := by decide +kernel
theorem dX10_ageIs_13 : decode cX10_ageIs 13 = .ok (.invokevirtual 106, 3) := by decide +kernel
theorem dX10_ageIs_16 : decode cX10_ageIs 16 = .ok (.ifCond .eq 12, 3) := by decide +kernel
theorem dX10_ageIs_19 : decode cX10_ageIs 19 = .ok (.iload_n 3, 1) := by decide +kernel
theorem dX10_ageIs_20 : decode cX10_ageIs 20 = .ok (.ifCond .lt 8, 3) := by decide +kernel
theorem dX10_ageIs_23 : decode cX10_ageIs 23 = .ok (.iload_n 3, 1) := by decide +kernel
theorem dX10_ageIs_24 : decode cX10_ageIs 24 = .ok (.iconst 2, 1) := by decide +kernel
theorem dX10_ageIs_25 : decode cX10_ageIs 25 = .ok (.if_icmp .le 5, 3) := by decide +kernel
theorem dX10_ageIs_28 : decode cX10_ageIs 28 = .ok (.iconst (-1), 1) := by decide +kernel
theorem dX10_ageIs_29 : decode cX10_ageIs 29 = .ok (.ireturn, 1) := by decide +kernel
theorem dX10_ageIs_30 : decode cX10_ageIs 30 = .ok (.aload_n 0, 1) := by decide +kernel
theorem dX10_ageIs_31 : decode cX10_ageIs 31 = .ok (.iload_n 1, 1) := by decide +kernel
theorem dX10_ageIs_32 : decode cX10_ageIs 32 = .ok (.iload_n 2, 1) := by decide +kernel
theorem dX10_ageIs_33 : decode cX10_ageIs 33 = .ok (.invokevirtual 215, 3) := by decide +kernel
theorem dX10_ageIs_36 : decode cX10_ageIs 36 = .ok (.istore 4, 2) := by decide +kernel
theorem dX10_ageIs_38 : decode cX10_ageIs 38 = .ok (.iload 4, 2) := by decide +kernel
theorem dX10_ageIs_40 : decode cX10_ageIs 40 = .ok (.ifCond .ge 6, 3) := by decide +kernel
theorem dX10_ageIs_43 : decode cX10_ageIs 43 = .ok (.iload 4, 2) := by decide +kernel
theorem dX10_ageIs_45 : decode cX10_ageIs 45 = .ok (.ireturn, 1) := by decide +kernel
theorem dX10_ageIs_46 : decode cX10_ageIs 46 = .ok (.iload_n 3, 1) := by decide +kernel
theorem dX10_ageIs_47 : decode cX10_ageIs 47 = .ok (.iconst 2, 1) := by decide +kernel
theorem dX10_ageIs_48 : decode cX10_ageIs 48 = .ok (.if_icmp .ne 8, 3) := by decide +kernel
theorem dX10_ageIs_51 : decode cX10_ageIs 51 = .ok (.aload_n 0, 1) := by decide +kernel
theorem dX10_ageIs_52 : decode cX10_ageIs 52 = .ok (.invokevirtual 218, 3) := by decide +kernel
theorem dX10_ageIs_55 : decode cX10_ageIs 55 = .ok (.ireturn, 1) := by decide +kernel
theorem dX10_ageIs_56 : decode cX10_ageIs 56 = .ok (.iload 4, 2) := by decide +kernel
theorem dX10_ageIs_58 : decode cX10_ageIs 58 = .ok (.ifCond .ne 6, 3) := by decide +kernel
theorem dX10_ageIs_61 : decode cX10_ageIs 61 = .ok (.bipush (-2), 2) := by decide +kernel
theorem dX10_ageIs_63 : decode cX10_ageIs 63 = .ok (.ireturn, 1) := by decide +kernel
theorem dX10_ageIs_64 : decode cX10_ageIs 64 = .ok (.aload_n 0, 1) := by decide +kernel
theorem dX10_ageIs_65 : decode cX10_ageIs 65 = .ok (.iload_n 3, 1) := by decide +kernel
theorem dX10_ageIs_66 : decode cX10_ageIs 66 = .ok (.ifCond .ne 7, 3) := by decide +kernel
theorem dX10_ageIs_69 : decode cX10_ageIs 69 = .ok (.iconst 0, 1) := by decide +kernel
theorem dX10_ageIs_70 : decode cX10_ageIs 70 = .ok (.goto 7, 3) := by decide +kernel
theorem dX10_ageIs_73 : decode cX10_ageIs 73 = .ok (.iload 4, 2) := by decide +kernel
theorem dX10_ageIs_75 : decode cX10_ageIs 75 = .ok (.iconst 1, 1) := by decide +kernel
theorem dX10_ageIs_76 : decode cX10_ageIs 76 = .ok (.isub, 1) := by decide +kernel
theorem dX10_ageIs_77 : decode cX10_ageIs 77 = .ok (.invokevirtual 221, 3) := by decide +kernel
theorem dX10_ageIs_80 : decode cX10_ageIs 80 = .ok (.ireturn, 1) := by decide +kernel
theorem dX10_unlikeAges_0 : decode cX10_unlikeAges 0 = .ok (.iconst 0, 1) := by decide +kernel
theorem dX10_unlikeAges_1 : decode cX10_unlikeAges 1 = .ok (.istore_n 1, 1) := by decide +kernel
theorem dX10_unlikeAges_2 : decode cX10_unlikeAges 2 = .ok (.iconst 0, 1) := by decide +kernel
theorem dX10_unlikeAges_3 : decode cX10_unlikeAges 3 = .ok (.istore_n 2, 1) := by decide +kernel
theorem dX10_unlikeAges_4 : decode cX10_unlikeAges 4 = .ok (.iload_n 2, 1) := by decide +kernel
theorem dX10_unlikeAges_5 : decode cX10_unlikeAges 5 = .ok (.bipush 99, 2) := by decide +kernel
theorem dX10_unlikeAges_7 : decode cX10_unlikeAges 7 = .ok (.if_icmp .gt 21, 3) := by decide +kernel
theorem dX10_unlikeAges_10 : decode cX10_unlikeAges 10 = .ok (.aload_n 0, 1) := by decide +kernel
theorem dX10_unlikeAges_11 : decode cX10_unlikeAges 11 = .ok (.getfield 83, 3) := by decide +kernel
theorem dX10_unlikeAges_14 : decode cX10_unlikeAges 14 = .ok (.iload_n 2, 1) := by decide +kernel
theorem dX10_unlikeAges_15 : decode cX10_unlikeAges 15 = .ok (.iaload, 1) := by decide +kernel
theorem dX10_unlikeAges_16 : decode cX10_unlikeAges 16 = .ok (.ifCond .le 6, 3) := by decide +kernel
theorem dX10_unlikeAges_19 : decode cX10_unlikeAges 19 = .ok (.iinc 1 1, 3) := by decide +kernel
theorem dX10_unlikeAges_22 : decode cX10_unlikeAges 22 = .ok (.iinc 2 1, 3) := by decide +kernel
theorem dX10_unlikeAges_25 : decode cX10_unlikeAges 25 = .ok (.goto (-21), 3) := by decide +kernel
theorem dX10_unlikeAges_28 : decode cX10_unlikeAges 28 = .ok (.iload_n 1, 1) := by decide +kernel
theorem dX10_unlikeAges_29 : decode cX10_unlikeAges 29 = .ok (.ireturn, 1) := by decide +kernel
theorem dX10_ageAt_0 : decode cX10_ageAt 0 = .ok (.iconst 0, 1) := by decide +kernel
theorem dX10_ageAt_1 : decode cX10_ageAt 1 = .ok (.istore_n 2, 1) := by decide +kernel
theorem dX10_ageAt_2 : decode cX10_ageAt 2 = .ok (.iconst 0, 1) := by decide +kernel
theorem dX10_ageAt_3 : decode cX10_ageAt 3 = .ok (.istore_n 3, 1) := by decide +kernel
theorem dX10_ageAt_4 : decode cX10_ageAt 4 = .ok (.iload_n 3, 1) := by decide +kernel
theorem dX10_ageAt_5 : decode cX10_ageAt 5 = .ok (.bipush 99, 2) := by decide +kernel
theorem dX10_ageAt_7 : decode cX10_ageAt 7 = .ok (.if_icmp .gt 25, 3) := by decide +kernel
theorem dX10_ageAt_10 : decode cX10_ageAt 10 = .ok (.iload_n 2, 1) := by decide +kernel
theorem dX10_ageAt_11 : decode cX10_ageAt 11 = .ok (.aload_n 0, 1) := by decide +kernel
theorem dX10_ageAt_12 : decode cX10_ageAt 12 = .ok (.getfield 83, 3) := by decide +kernel
theorem dX10_ageAt_15 : decode cX10_ageAt 15 = .ok (.iload_n 3, 1) := by decide +kernel
theorem dX10_ageAt_16 : decode cX10_ageAt 16 = .ok (.iaload, 1) := by decide +kernel
theorem dX10_ageAt_17 : decode cX10_ageAt 17 = .ok (.iadd, 1) := by decide +kernel
theorem dX10_ageAt_18 : decode cX10_ageAt 18 = .ok (.istore_n 2, 1) := by decide +kernel
theorem dX10_ageAt_19 : decode cX10_ageAt 19 = .ok (.iload_n 2, 1) := by decide +kernel
theorem dX10_ageAt_20 : decode cX10_ageAt 20 = .ok (.iload_n 1, 1) := by decide +kernel
theorem dX10_ageAt_21 : decode cX10_ageAt 21 = .ok (.if_icmp .le 5, 3) := by decide +kernel
theorem dX10_ageAt_24 : decode cX10_ageAt 24 = .ok (.iload_n 3, 1) := by decide +kernel
theorem dX10_ageAt_25 : decode cX10_ageAt 25 = .ok (.ireturn, 1) := by decide +kernel
theorem dX10_ageAt_26 : decode cX10_ageAt 26 = .ok (.iinc 3 1, 3) := by decide +kernel
theorem dX10_ageAt_29 : decode cX10_ageAt 29 = .ok (.goto (-25), 3) := by decide +kernel
theorem dX10_ageAt_32 : decode cX10_ageAt 32 = .ok (.bipush (-2), 2) := by decide +kernel
theorem dX10_ageAt_34 : decode cX10_ageAt 34 = .ok (.ireturn, 1) := by decide +kernel
theorem dX10_aged_0 : decode cX10_aged 0 = .ok (.aload_n 0, 1) := by decide +kernel
theorem dX10_aged_1 : decode cX10_aged 1 = .ok (.iload_n 1, 1) := by decide +kernel
theorem dX10_aged_2 : decode cX10_aged 2 = .ok (.invokevirtual 182, 3) := by decide +kernel
theorem dX10_aged_5 : decode cX10_aged 5 = .ok (.ifCond .eq 24, 3) := by decide +kernel
theorem dX10_aged_8 : decode cX10_aged 8 = .ok (.aload_n 0, 1) := by decide +kernel
theorem dX10_aged_9 : decode cX10_aged 9 = .ok (.getfield 10, 3) := by decide +kernel
theorem dX10_aged_12 : decode cX10_aged 12 = .ok (.iload_n 2, 1) := by decide +kernel
theorem dX10_aged_13 : decode cX10_aged 13 = .ok (.invokevirtual 106, 3) := by decide +kernel
theorem dX10_aged_16 : decode cX10_aged 16 = .ok (.ifCond .eq 13, 3) := by decide +kernel
theorem dX10_aged_19 : decode cX10_aged 19 = .ok (.iload_n 3, 1) := by decide +kernel
theorem dX10_aged_20 : decode cX10_aged 20 = .ok (.ifCond .lt 9, 3) := by decide +kernel
theorem dX10_aged_23 : decode cX10_aged 23 = .ok (.iload_n 3, 1) := by decide +kernel
theorem dX10_aged_24 : decode cX10_aged 24 = .ok (.bipush 99, 2) := by decide +kernel
theorem dX10_aged_26 : decode cX10_aged 26 = .ok (.if_icmp .le 5, 3) := by decide +kernel
theorem dX10_aged_29 : decode cX10_aged 29 = .ok (.iconst (-1), 1) := by decide +kernel
theorem dX10_aged_30 : decode cX10_aged 30 = .ok (.ireturn, 1) := by decide +kernel
theorem dX10_aged_31 : decode cX10_aged 31 = .ok (.aload_n 0, 1) := by decide +kernel
theorem dX10_aged_32 : decode cX10_aged 32 = .ok (.iload_n 1, 1) := by decide +kernel
theorem dX10_aged_33 : decode cX10_aged 33 = .ok (.iload_n 2, 1) := by decide +kernel
theorem dX10_aged_34 : decode cX10_aged 34 = .ok (.invokevirtual 215, 3) := by decide +kernel
theorem dX10_aged_37 : decode cX10_aged 37 = .ok (.istore 4, 2) := by decide +kernel
theorem dX10_aged_39 : decode cX10_aged 39 = .ok (.iload 4, 2) := by decide +kernel
theorem dX10_aged_41 : decode cX10_aged 41 = .ok (.ifCond .ge 8, 3) := by decide +kernel
theorem dX10_aged_44 : decode cX10_aged 44 = .ok (.iload 4, 2) := by decide +kernel
theorem dX10_aged_46 : decode cX10_aged 46 = .ok (.goto 9, 3) := by decide +kernel
theorem dX10_aged_49 : decode cX10_aged 49 = .ok (.aload_n 0, 1) := by decide +kernel
theorem dX10_aged_50 : decode cX10_aged 50 = .ok (.getfield 83, 3) := by decide +kernel
theorem dX10_aged_53 : decode cX10_aged 53 = .ok (.iload_n 3, 1) := by decide +kernel
theorem dX10_aged_54 : decode cX10_aged 54 = .ok (.iaload, 1) := by decide +kernel
theorem dX10_aged_55 : decode cX10_aged 55 = .ok (.ireturn, 1) := by decide +kernel
theorem dX10_middle_0 : decode cX10_middle 0 = .ok (.aload_n 0, 1) := by decide +kernel
theorem dX10_middle_1 : decode cX10_middle 1 = .ok (.iload_n 1, 1) := by decide +kernel
theorem dX10_middle_2 : decode cX10_middle 2 = .ok (.invokevirtual 182, 3) := by decide +kernel
theorem dX10_middle_5 : decode cX10_middle 5 = .ok (.ifCond .eq 14, 3) := by decide +kernel
theorem dX10_middle_8 : decode cX10_middle 8 = .ok (.aload_n 0, 1) := by decide +kernel
theorem dX10_middle_9 : decode cX10_middle 9 = .ok (.getfield 10, 3) := by decide +kernel
theorem dX10_middle_12 : decode cX10_middle 12 = .ok (.iload_n 2, 1) := by decide +kernel
theorem dX10_middle_13 : decode cX10_middle 13 = .ok (.invokevirtual 106, 3) := by decide +kernel
theorem dX10_middle_16 : decode cX10_middle 16 = .ok (.ifCond .ne 5, 3) := by decide +kernel
theorem dX10_middle_19 : decode cX10_middle 19 = .ok (.iconst (-1), 1) := by decide +kernel
theorem dX10_middle_20 : decode cX10_middle 20 = .ok (.ireturn, 1) := by decide +kernel
theorem dX10_middle_21 : decode cX10_middle 21 = .ok (.aload_n 0, 1) := by decide +kernel
theorem dX10_middle_22 : decode cX10_middle 22 = .ok (.iload_n 1, 1) := by decide +kernel
theorem dX10_middle_23 : decode cX10_middle 23 = .ok (.iload_n 2, 1) := by decide +kernel
theorem dX10_middle_24 : decode cX10_middle 24 = .ok (.invokevirtual 215, 3) := by decide +kernel
theorem dX10_middle_27 : decode cX10_middle 27 = .ok (.istore_n 3, 1) := by decide +kernel
theorem dX10_middle_28 : decode cX10_middle 28 = .ok (.iload_n 3, 1) := by decide +kernel
theorem dX10_middle_29 : decode cX10_middle 29 = .ok (.ifCond .ge 5, 3) := by decide +kernel
theorem dX10_middle_32 : decode cX10_middle 32 = .ok (.iload_n 3, 1) := by decide +kernel
theorem dX10_middle_33 : decode cX10_middle 33 = .ok (.ireturn, 1) := by decide +kernel
theorem dX10_middle_34 : decode cX10_middle 34 = .ok (.iload_n 3, 1) := by decide +kernel
theorem dX10_middle_35 : decode cX10_middle 35 = .ok (.ifCond .ne 8, 3) := by decide +kernel
theorem dX10_middle_38 : decode cX10_middle 38 = .ok (.bipush (-2), 2) := by decide +kernel
theorem dX10_middle_40 : decode cX10_middle 40 = .ok (.goto 12, 3) := by decide +kernel
theorem dX10_middle_43 : decode cX10_middle 43 = .ok (.aload_n 0, 1) := by decide +kernel
theorem dX10_middle_44 : decode cX10_middle 44 = .ok (.iload_n 3, 1) := by decide +kernel
theorem dX10_middle_45 : decode cX10_middle 45 = .ok (.iconst 1, 1) := by decide +kernel
theorem dX10_middle_46 : decode cX10_middle 46 = .ok (.isub, 1) := by decide +kernel
theorem dX10_middle_47 : decode cX10_middle 47 = .ok (.iconst 2, 1) := by decide +kernel
theorem dX10_middle_48 : decode cX10_middle 48 = .ok (.idiv, 1) := by decide +kernel
theorem dX10_middle_49 : decode cX10_middle 49 = .ok (.invokevirtual 221, 3) := by decide +kernel
theorem dX10_middle_52 : decode cX10_middle 52 = .ok (.ireturn, 1) := by decide +kernel
theorem dX10_apart_0 : decode cX10_apart 0 = .ok (.aload_n 0, 1) := by decide +kernel
theorem dX10_apart_1 : decode cX10_apart 1 = .ok (.iload_n 1, 1) := by decide +kernel
theorem dX10_apart_2 : decode cX10_apart 2 = .ok (.invokevirtual 182, 3) := by decide +kernel
theorem dX10_apart_5 : decode cX10_apart 5 = .ok (.ifCond .eq 41, 3) := by decide +kernel
theorem dX10_apart_8 : decode cX10_apart 8 = .ok (.aload_n 0, 1) := by decide +kernel
theorem dX10_apart_9 : decode cX10_apart 9 = .ok (.getfield 10, 3) := by decide +kernel
theorem dX10_apart_12 : decode cX10_apart 12 = .ok (.iload_n 2, 1) := by decide +kernel
theorem dX10_apart_13 : decode cX10_apart 13 = .ok (.invokevirtual 106, 3) := by decide +kernel
theorem dX10_apart_16 : decode cX10_apart 16 = .ok (.ifCond .eq 30, 3) := by decide +kernel
theorem dX10_apart_19 : decode cX10_apart 19 = .ok (.aload_n 0, 1) := by decide +kernel
theorem dX10_apart_20 : decode cX10_apart 20 = .ok (.getfield 10, 3) := by decide +kernel
theorem dX10_apart_23 : decode cX10_apart 23 = .ok (.iload_n 3, 1) := by decide +kernel
theorem dX10_apart_24 : decode cX10_apart 24 = .ok (.invokevirtual 106, 3) := by decide +kernel
theorem dX10_apart_27 : decode cX10_apart 27 = .ok (.ifCond .eq 19, 3) := by decide +kernel
theorem dX10_apart_30 : decode cX10_apart 30 = .ok (.iload_n 2, 1) := by decide +kernel
theorem dX10_apart_31 : decode cX10_apart 31 = .ok (.iload_n 3, 1) := by decide +kernel
theorem dX10_apart_32 : decode cX10_apart 32 = .ok (.if_icmp .eq 14, 3) := by decide +kernel
theorem dX10_apart_35 : decode cX10_apart 35 = .ok (.iload 4, 2) := by decide +kernel
theorem dX10_apart_37 : decode cX10_apart 37 = .ok (.ifCond .lt 9, 3) := by decide +kernel
theorem dX10_apart_40 : decode cX10_apart 40 = .ok (.iload 4, 2) := by decide +kernel
theorem dX10_apart_42 : decode cX10_apart 42 = .ok (.iconst 2, 1) := by decide +kernel
theorem dX10_apart_43 : decode cX10_apart 43 = .ok (.if_icmp .le 7, 3) := by decide +kernel
theorem dX10_apart_46 : decode cX10_apart 46 = .ok (.sipush (-400), 3) := by decide +kernel
theorem dX10_apart_49 : decode cX10_apart 49 = .ok (.ireturn, 1) := by decide +kernel
theorem dX10_apart_50 : decode cX10_apart 50 = .ok (.aload_n 0, 1) := by decide +kernel
theorem dX10_apart_51 : decode cX10_apart 51 = .ok (.getfield 37, 3) := by decide +kernel
theorem dX10_apart_54 : decode cX10_apart 54 = .ok (.iload_n 1, 1) := by decide +kernel
theorem dX10_apart_55 : decode cX10_apart 55 = .ok (.invokevirtual 201, 3) := by decide +kernel
theorem dX10_apart_58 : decode cX10_apart 58 = .ok (.ifCond .ne 7, 3) := by decide +kernel
theorem dX10_apart_61 : decode cX10_apart 61 = .ok (.sipush (-300), 3) := by decide +kernel
theorem dX10_apart_64 : decode cX10_apart 64 = .ok (.ireturn, 1) := by decide +kernel
theorem dX10_apart_65 : decode cX10_apart 65 = .ok (.iconst 0, 1) := by decide +kernel
theorem dX10_apart_66 : decode cX10_apart 66 = .ok (.istore 5, 2) := by decide +kernel
theorem dX10_apart_68 : decode cX10_apart 68 = .ok (.iconst 0, 1) := by decide +kernel
theorem dX10_apart_69 : decode cX10_apart 69 = .ok (.istore 6, 2) := by decide +kernel
theorem dX10_apart_71 : decode cX10_apart 71 = .ok (.iconst 0, 1) := by decide +kernel
theorem dX10_apart_72 : decode cX10_apart 72 = .ok (.istore 7, 2) := by decide +kernel
theorem dX10_apart_74 : decode cX10_apart 74 = .ok (.iconst 0, 1) := by decide +kernel
theorem dX10_apart_75 : decode cX10_apart 75 = .ok (.istore 8, 2) := by decide +kernel
theorem dX10_apart_77 : decode cX10_apart 77 = .ok (.iconst 0, 1) := by decide +kernel
theorem dX10_apart_78 : decode cX10_apart 78 = .ok (.istore 9, 2) := by decide +kernel
theorem dX10_apart_80 : decode cX10_apart 80 = .ok (.iload 9, 2) := by decide +kernel
theorem dX10_apart_82 : decode cX10_apart 82 = .ok (.ldc 210, 2) := by decide +kernel
theorem dX10_apart_84 : decode cX10_apart 84 = .ok (.if_icmp .ge 96, 3) := by decide +kernel
theorem dX10_apart_87 : decode cX10_apart 87 = .ok (.aload_n 0, 1) := by decide +kernel
theorem dX10_apart_88 : decode cX10_apart 88 = .ok (.getfield 37, 3) := by decide +kernel
theorem dX10_apart_91 : decode cX10_apart 91 = .ok (.invokevirtual 211, 3) := by decide +kernel
theorem dX10_apart_94 : decode cX10_apart 94 = .ok (.ifCond .eq 86, 3) := by decide +kernel
theorem dX10_apart_97 : decode cX10_apart 97 = .ok (.aload_n 0, 1) := by decide +kernel
theorem dX10_apart_98 : decode cX10_apart 98 = .ok (.getfield 37, 3) := by decide +kernel
theorem dX10_apart_101 : decode cX10_apart 101 = .ok (.getfield 188, 3) := by decide +kernel
theorem dX10_apart_104 : decode cX10_apart 104 = .ok (.iload_n 2, 1) := by decide +kernel
theorem dX10_apart_105 : decode cX10_apart 105 = .ok (.iaload, 1) := by decide +kernel
theorem dX10_apart_106 : decode cX10_apart 106 = .ok (.aload_n 0, 1) := by decide +kernel
theorem dX10_apart_107 : decode cX10_apart 107 = .ok (.getfield 37, 3) := by decide +kernel
theorem dX10_apart_110 : decode cX10_apart 110 = .ok (.getfield 188, 3) := by decide +kernel
theorem dX10_apart_113 : decode cX10_apart 113 = .ok (.iload_n 3, 1) := by decide +kernel
theorem dX10_apart_114 : decode cX10_apart 114 = .ok (.iaload, 1) := by decide +kernel
theorem dX10_apart_115 : decode cX10_apart 115 = .ok (.isub, 1) := by decide +kernel
theorem dX10_apart_116 : decode cX10_apart 116 = .ok (.istore 10, 2) := by decide +kernel
theorem dX10_apart_118 : decode cX10_apart 118 = .ok (.iload 8, 2) := by decide +kernel
theorem dX10_apart_120 : decode cX10_apart 120 = .ok (.ifCond .eq 13, 3) := by decide +kernel
theorem dX10_apart_123 : decode cX10_apart 123 = .ok (.iload 5, 2) := by decide +kernel
theorem dX10_apart_125 : decode cX10_apart 125 = .ok (.iload 10, 2) := by decide +kernel
theorem dX10_apart_127 : decode cX10_apart 127 = .ok (.invokestatic 224, 3) := by decide +kernel
theorem dX10_apart_130 : decode cX10_apart 130 = .ok (.goto 5, 3) := by decide +kernel
theorem dX10_apart_133 : decode cX10_apart 133 = .ok (.iload 10, 2) := by decide +kernel
theorem dX10_apart_135 : decode cX10_apart 135 = .ok (.istore 5, 2) := by decide +kernel
theorem dX10_apart_137 : decode cX10_apart 137 = .ok (.iload 8, 2) := by decide +kernel
theorem dX10_apart_139 : decode cX10_apart 139 = .ok (.ifCond .eq 13, 3) := by decide +kernel
theorem dX10_apart_142 : decode cX10_apart 142 = .ok (.iload 6, 2) := by decide +kernel
theorem dX10_apart_144 : decode cX10_apart 144 = .ok (.iload 10, 2) := by decide +kernel
theorem dX10_apart_146 : decode cX10_apart 146 = .ok (.invokestatic 229, 3) := by decide +kernel
theorem dX10_apart_149 : decode cX10_apart 149 = .ok (.goto 5, 3) := by decide +kernel
theorem dX10_apart_152 : decode cX10_apart 152 = .ok (.iload 10, 2) := by decide +kernel
theorem dX10_apart_154 : decode cX10_apart 154 = .ok (.istore 6, 2) := by decide +kernel
theorem dX10_apart_156 : decode cX10_apart 156 = .ok (.iload 7, 2) := by decide +kernel
theorem dX10_apart_158 : decode cX10_apart 158 = .ok (.iload 10, 2) := by decide +kernel
theorem dX10_apart_160 : decode cX10_apart 160 = .ok (.ifCond .ne 7, 3) := by decide +kernel
theorem dX10_apart_163 : decode cX10_apart 163 = .ok (.iconst 1, 1) := by decide +kernel
theorem dX10_apart_164 : decode cX10_apart 164 = .ok (.goto 4, 3) := by decide +kernel
theorem dX10_apart_167 : decode cX10_apart 167 = .ok (.iconst 0, 1) := by decide +kernel
theorem dX10_apart_168 : decode cX10_apart 168 = .ok (.iadd, 1) := by decide +kernel
theorem dX10_apart_169 : decode cX10_apart 169 = .ok (.istore 7, 2) := by decide +kernel
theorem dX10_apart_171 : decode cX10_apart 171 = .ok (.iconst 1, 1) := by decide +kernel
theorem dX10_apart_172 : decode cX10_apart 172 = .ok (.istore 8, 2) := by decide +kernel
theorem dX10_apart_174 : decode cX10_apart 174 = .ok (.iinc 9 1, 3) := by decide +kernel
theorem dX10_apart_177 : decode cX10_apart 177 = .ok (.goto (-97), 3) := by decide +kernel
theorem dX10_apart_180 : decode cX10_apart 180 = .ok (.iload 4, 2) := by decide +kernel
theorem dX10_apart_182 : decode cX10_apart 182 = .ok (.iconst 2, 1) := by decide +kernel
theorem dX10_apart_183 : decode cX10_apart 183 = .ok (.if_icmp .ne 6, 3) := by decide +kernel
theorem dX10_apart_186 : decode cX10_apart 186 = .ok (.iload 7, 2) := by decide +kernel
theorem dX10_apart_188 : decode cX10_apart 188 = .ok (.ireturn, 1) := by decide +kernel
theorem dX10_apart_189 : decode cX10_apart 189 = .ok (.iload 8, 2) := by decide +kernel
theorem dX10_apart_191 : decode cX10_apart 191 = .ok (.ifCond .ne 7, 3) := by decide +kernel
theorem dX10_apart_194 : decode cX10_apart 194 = .ok (.sipush (-200), 3) := by decide +kernel
theorem dX10_apart_197 : decode cX10_apart 197 = .ok (.ireturn, 1) := by decide +kernel
theorem dX10_apart_198 : decode cX10_apart 198 = .ok (.iload 4, 2) := by decide +kernel
theorem dX10_apart_200 : decode cX10_apart 200 = .ok (.ifCond .ne 8, 3) := by decide +kernel
theorem dX10_apart_203 : decode cX10_apart 203 = .ok (.iload 5, 2) := by decide +kernel
theorem dX10_apart_205 : decode cX10_apart 205 = .ok (.goto 5, 3) := by decide +kernel
theorem dX10_apart_208 : decode cX10_apart 208 = .ok (.iload 6, 2) := by decide +kernel
theorem dX10_apart_210 : decode cX10_apart 210 = .ok (.ireturn, 1) := by decide +kernel
theorem dX10_offByAYear_0 : decode cX10_offByAYear 0 = .ok (.aload_n 0, 1) := by decide +kernel
theorem dX10_offByAYear_1 : decode cX10_offByAYear 1 = .ok (.iload_n 1, 1) := by decide +kernel
theorem dX10_offByAYear_2 : decode cX10_offByAYear 2 = .ok (.invokevirtual 182, 3) := by decide +kernel
theorem dX10_offByAYear_5 : decode cX10_offByAYear 5 = .ok (.ifCond .eq 12, 3) := by decide +kernel
theorem dX10_offByAYear_8 : decode cX10_offByAYear 8 = .ok (.iload_n 2, 1) := by decide +kernel
theorem dX10_offByAYear_9 : decode cX10_offByAYear 9 = .ok (.ifCond .lt 8, 3) := by decide +kernel
theorem dX10_offByAYear_12 : decode cX10_offByAYear 12 = .ok (.iload_n 2, 1) := by decide +kernel
theorem dX10_offByAYear_13 : decode cX10_offByAYear 13 = .ok (.iconst 1, 1) := by decide +kernel
theorem dX10_offByAYear_14 : decode cX10_offByAYear 14 = .ok (.if_icmp .le 5, 3) := by decide +kernel
theorem dX10_offByAYear_17 : decode cX10_offByAYear 17 = .ok (.iconst (-1), 1) := by decide +kernel
theorem dX10_offByAYear_18 : decode cX10_offByAYear 18 = .ok (.ireturn, 1) := by decide +kernel
theorem dX10_offByAYear_19 : decode cX10_offByAYear 19 = .ok (.aload_n 0, 1) := by decide +kernel
theorem dX10_offByAYear_20 : decode cX10_offByAYear 20 = .ok (.getfield 37, 3) := by decide +kernel
theorem dX10_offByAYear_23 : decode cX10_offByAYear 23 = .ok (.iload_n 1, 1) := by decide +kernel
theorem dX10_offByAYear_24 : decode cX10_offByAYear 24 = .ok (.invokevirtual 201, 3) := by decide +kernel
theorem dX10_offByAYear_27 : decode cX10_offByAYear 27 = .ok (.ifCond .ne 6, 3) := by decide +kernel
theorem dX10_offByAYear_30 : decode cX10_offByAYear 30 = .ok (.bipush (-3), 2) := by decide +kernel
theorem dX10_offByAYear_32 : decode cX10_offByAYear 32 = .ok (.ireturn, 1) := by decide +kernel
theorem dX10_offByAYear_33 : decode cX10_offByAYear 33 = .ok (.iconst (-1), 1) := by decide +kernel
theorem dX10_offByAYear_34 : decode cX10_offByAYear 34 = .ok (.istore_n 3, 1) := by decide +kernel
theorem dX10_offByAYear_35 : decode cX10_offByAYear 35 = .ok (.iconst 0, 1) := by decide +kernel
theorem dX10_offByAYear_36 : decode cX10_offByAYear 36 = .ok (.istore 4, 2) := by decide +kernel
theorem dX10_offByAYear_38 : decode cX10_offByAYear 38 = .ok (.iload 4, 2) := by decide +kernel
theorem dX10_offByAYear_40 : decode cX10_offByAYear 40 = .ok (.ldc 210, 2) := by decide +kernel
theorem dX10_offByAYear_42 : decode cX10_offByAYear 42 = .ok (.if_icmp .ge 49, 3) := by decide +kernel
theorem dX10_offByAYear_45 : decode cX10_offByAYear 45 = .ok (.aload_n 0, 1) := by decide +kernel
theorem dX10_offByAYear_46 : decode cX10_offByAYear 46 = .ok (.getfield 37, 3) := by decide +kernel
theorem dX10_offByAYear_49 : decode cX10_offByAYear 49 = .ok (.invokevirtual 232, 3) := by decide +kernel
theorem dX10_offByAYear_52 : decode cX10_offByAYear 52 = .ok (.ifCond .eq 39, 3) := by decide +kernel
theorem dX10_offByAYear_55 : decode cX10_offByAYear 55 = .ok (.aload_n 0, 1) := by decide +kernel
theorem dX10_offByAYear_56 : decode cX10_offByAYear 56 = .ok (.getfield 37, 3) := by decide +kernel
theorem dX10_offByAYear_59 : decode cX10_offByAYear 59 = .ok (.invokevirtual 235, 3) := by decide +kernel
theorem dX10_offByAYear_62 : decode cX10_offByAYear 62 = .ok (.istore 5, 2) := by decide +kernel
theorem dX10_offByAYear_64 : decode cX10_offByAYear 64 = .ok (.iload 5, 2) := by decide +kernel
theorem dX10_offByAYear_66 : decode cX10_offByAYear 66 = .ok (.ifCond .lt 19, 3) := by decide +kernel
theorem dX10_offByAYear_69 : decode cX10_offByAYear 69 = .ok (.iload_n 3, 1) := by decide +kernel
theorem dX10_offByAYear_70 : decode cX10_offByAYear 70 = .ok (.ifCond .lt 12, 3) := by decide +kernel
theorem dX10_offByAYear_73 : decode cX10_offByAYear 73 = .ok (.iload 5, 2) := by decide +kernel
theorem dX10_offByAYear_75 : decode cX10_offByAYear 75 = .ok (.iload_n 3, 1) := by decide +kernel
theorem dX10_offByAYear_76 : decode cX10_offByAYear 76 = .ok (.invokestatic 238, 3) := by decide +kernel
theorem dX10_offByAYear_79 : decode cX10_offByAYear 79 = .ok (.ifCond .eq 6, 3) := by decide +kernel
theorem dX10_offByAYear_82 : decode cX10_offByAYear 82 = .ok (.iload 5, 2) := by decide +kernel
theorem dX10_offByAYear_84 : decode cX10_offByAYear 84 = .ok (.istore_n 3, 1) := by decide +kernel
theorem dX10_offByAYear_85 : decode cX10_offByAYear 85 = .ok (.iinc 4 1, 3) := by decide +kernel
theorem dX10_offByAYear_88 : decode cX10_offByAYear 88 = .ok (.goto (-50), 3) := by decide +kernel
theorem dX10_offByAYear_91 : decode cX10_offByAYear 91 = .ok (.iload_n 3, 1) := by decide +kernel
theorem dX10_offByAYear_92 : decode cX10_offByAYear 92 = .ok (.ifCond .ge 6, 3) := by decide +kernel
theorem dX10_offByAYear_95 : decode cX10_offByAYear 95 = .ok (.bipush (-2), 2) := by decide +kernel
theorem dX10_offByAYear_97 : decode cX10_offByAYear 97 = .ok (.ireturn, 1) := by decide +kernel
theorem dX10_offByAYear_98 : decode cX10_offByAYear 98 = .ok (.iload_n 2, 1) := by decide +kernel
theorem dX10_offByAYear_99 : decode cX10_offByAYear 99 = .ok (.ifCond .ne 10, 3) := by decide +kernel
theorem dX10_offByAYear_102 : decode cX10_offByAYear 102 = .ok (.iload_n 3, 1) := by decide +kernel
theorem dX10_offByAYear_103 : decode cX10_offByAYear 103 = .ok (.invokestatic 150, 3) := by decide +kernel
theorem dX10_offByAYear_106 : decode cX10_offByAYear 106 = .ok (.goto 4, 3) := by decide +kernel
theorem dX10_offByAYear_109 : decode cX10_offByAYear 109 = .ok (.iload_n 3, 1) := by decide +kernel
theorem dX10_offByAYear_110 : decode cX10_offByAYear 110 = .ok (.ireturn, 1) := by decide +kernel
theorem dX10_isFewer_0 : decode cX10_isFewer 0 = .ok (.iload_n 0, 1) := by decide +kernel
theorem dX10_isFewer_1 : decode cX10_isFewer 1 = .ok (.invokestatic 150, 3) := by decide +kernel
theorem dX10_isFewer_4 : decode cX10_isFewer 4 = .ok (.istore_n 2, 1) := by decide +kernel
theorem dX10_isFewer_5 : decode cX10_isFewer 5 = .ok (.iload_n 1, 1) := by decide +kernel
theorem dX10_isFewer_6 : decode cX10_isFewer 6 = .ok (.invokestatic 150, 3) := by decide +kernel
theorem dX10_isFewer_9 : decode cX10_isFewer 9 = .ok (.istore_n 3, 1) := by decide +kernel
theorem dX10_isFewer_10 : decode cX10_isFewer 10 = .ok (.iload_n 2, 1) := by decide +kernel
theorem dX10_isFewer_11 : decode cX10_isFewer 11 = .ok (.iload_n 3, 1) := by decide +kernel
theorem dX10_isFewer_12 : decode cX10_isFewer 12 = .ok (.if_icmp .lt 13, 3) := by decide +kernel
theorem dX10_isFewer_15 : decode cX10_isFewer 15 = .ok (.iload_n 2, 1) := by decide +kernel
theorem dX10_isFewer_16 : decode cX10_isFewer 16 = .ok (.iload_n 3, 1) := by decide +kernel
theorem dX10_isFewer_17 : decode cX10_isFewer 17 = .ok (.if_icmp .ne 12, 3) := by decide +kernel
theorem dX10_isFewer_20 : decode cX10_isFewer 20 = .ok (.iload_n 0, 1) := by decide +kernel
theorem dX10_isFewer_21 : decode cX10_isFewer 21 = .ok (.iload_n 1, 1) := by decide +kernel
theorem dX10_isFewer_22 : decode cX10_isFewer 22 = .ok (.if_icmp .ge 7, 3) := by decide +kernel
theorem dX10_isFewer_25 : decode cX10_isFewer 25 = .ok (.iconst 1, 1) := by decide +kernel
theorem dX10_isFewer_26 : decode cX10_isFewer 26 = .ok (.goto 4, 3) := by decide +kernel
theorem dX10_isFewer_29 : decode cX10_isFewer 29 = .ok (.iconst 0, 1) := by decide +kernel
theorem dX10_isFewer_30 : decode cX10_isFewer 30 = .ok (.ireturn, 1) := by decide +kernel
theorem dX10_follows_0 : decode cX10_follows 0 = .ok (.aload_n 0, 1) := by decide +kernel
theorem dX10_follows_1 : decode cX10_follows 1 = .ok (.iload_n 1, 1) := by decide +kernel
theorem dX10_follows_2 : decode cX10_follows 2 = .ok (.invokevirtual 182, 3) := by decide +kernel
theorem dX10_follows_5 : decode cX10_follows 5 = .ok (.ifCond .eq 12, 3) := by decide +kernel
theorem dX10_follows_8 : decode cX10_follows 8 = .ok (.iload_n 2, 1) := by decide +kernel
theorem dX10_follows_9 : decode cX10_follows 9 = .ok (.ifCond .lt 8, 3) := by decide +kernel
theorem dX10_follows_12 : decode cX10_follows 12 = .ok (.iload_n 2, 1) := by decide +kernel
theorem dX10_follows_13 : decode cX10_follows 13 = .ok (.iconst 1, 1) := by decide +kernel
theorem dX10_follows_14 : decode cX10_follows 14 = .ok (.if_icmp .le 5, 3) := by decide +kernel
theorem dX10_follows_17 : decode cX10_follows 17 = .ok (.iconst (-1), 1) := by decide +kernel
theorem dX10_follows_18 : decode cX10_follows 18 = .ok (.ireturn, 1) := by decide +kernel
theorem dX10_follows_19 : decode cX10_follows 19 = .ok (.aload_n 0, 1) := by decide +kernel
theorem dX10_follows_20 : decode cX10_follows 20 = .ok (.getfield 44, 3) := by decide +kernel
theorem dX10_follows_23 : decode cX10_follows 23 = .ok (.aload_n 0, 1) := by decide +kernel
theorem dX10_follows_24 : decode cX10_follows 24 = .ok (.getfield 37, 3) := by decide +kernel
theorem dX10_follows_27 : decode cX10_follows 27 = .ok (.invokevirtual 191, 3) := by decide +kernel
theorem dX10_follows_30 : decode cX10_follows 30 = .ok (.ifCond .ne 6, 3) := by decide +kernel
theorem dX10_follows_33 : decode cX10_follows 33 = .ok (.bipush (-3), 2) := by decide +kernel
theorem dX10_follows_35 : decode cX10_follows 35 = .ok (.ireturn, 1) := by decide +kernel
theorem dX10_follows_36 : decode cX10_follows 36 = .ok (.iload_n 2, 1) := by decide +kernel
theorem dX10_follows_37 : decode cX10_follows 37 = .ok (.ifCond .ne 14, 3) := by decide +kernel
theorem dX10_follows_40 : decode cX10_follows 40 = .ok (.aload_n 0, 1) := by decide +kernel
theorem dX10_follows_41 : decode cX10_follows 41 = .ok (.getfield 44, 3) := by decide +kernel
theorem dX10_follows_44 : decode cX10_follows 44 = .ok (.iload_n 1, 1) := by decide +kernel
theorem dX10_follows_45 : decode cX10_follows 45 = .ok (.invokevirtual 195, 3) := by decide +kernel
theorem dX10_follows_48 : decode cX10_follows 48 = .ok (.goto 4, 3) := by decide +kernel
theorem dX10_follows_51 : decode cX10_follows 51 = .ok (.iconst 0, 1) := by decide +kernel
theorem dX10_follows_52 : decode cX10_follows 52 = .ok (.istore_n 3, 1) := by decide +kernel
theorem dX10_follows_53 : decode cX10_follows 53 = .ok (.iconst 0, 1) := by decide +kernel
theorem dX10_follows_54 : decode cX10_follows 54 = .ok (.istore 4, 2) := by decide +kernel
theorem dX10_follows_56 : decode cX10_follows 56 = .ok (.iconst 0, 1) := by decide +kernel
theorem dX10_follows_57 : decode cX10_follows 57 = .ok (.istore 5, 2) := by decide +kernel
theorem dX10_follows_59 : decode cX10_follows 59 = .ok (.iload 5, 2) := by decide +kernel
theorem dX10_follows_61 : decode cX10_follows 61 = .ok (.bipush 10, 2) := by decide +kernel
theorem dX10_follows_63 : decode cX10_follows 63 = .ok (.if_icmp .ge 47, 3) := by decide +kernel
theorem dX10_follows_66 : decode cX10_follows 66 = .ok (.aload_n 0, 1) := by decide +kernel
theorem dX10_follows_67 : decode cX10_follows 67 = .ok (.getfield 10, 3) := by decide +kernel
theorem dX10_follows_70 : decode cX10_follows 70 = .ok (.iload 5, 2) := by decide +kernel
theorem dX10_follows_72 : decode cX10_follows 72 = .ok (.invokevirtual 156, 3) := by decide +kernel
theorem dX10_follows_75 : decode cX10_follows 75 = .ok (.ifCond .eq 29, 3) := by decide +kernel
theorem dX10_follows_78 : decode cX10_follows 78 = .ok (.aload_n 0, 1) := by decide +kernel
theorem dX10_follows_79 : decode cX10_follows 79 = .ok (.getfield 44, 3) := by decide +kernel
theorem dX10_follows_82 : decode cX10_follows 82 = .ok (.iload_n 1, 1) := by decide +kernel
theorem dX10_follows_83 : decode cX10_follows 83 = .ok (.iconst 1, 1) := by decide +kernel
theorem dX10_follows_84 : decode cX10_follows 84 = .ok (.iload 5, 2) := by decide +kernel
theorem dX10_follows_86 : decode cX10_follows 86 = .ok (.ishl, 1) := by decide +kernel
theorem dX10_follows_87 : decode cX10_follows 87 = .ok (.ior, 1) := by decide +kernel
theorem dX10_follows_88 : decode cX10_follows 88 = .ok (.invokevirtual 195, 3) := by decide +kernel
theorem dX10_follows_91 : decode cX10_follows 91 = .ok (.iload_n 3, 1) := by decide +kernel
theorem dX10_follows_92 : decode cX10_follows 92 = .ok (.if_icmp .ne 12, 3) := by decide +kernel
theorem dX10_follows_95 : decode cX10_follows 95 = .ok (.iload 4, 2) := by decide +kernel
theorem dX10_follows_97 : decode cX10_follows 97 = .ok (.iconst 1, 1) := by decide +kernel
theorem dX10_follows_98 : decode cX10_follows 98 = .ok (.iload 5, 2) := by decide +kernel
theorem dX10_follows_100 : decode cX10_follows 100 = .ok (.ishl, 1) := by decide +kernel
theorem dX10_follows_101 : decode cX10_follows 101 = .ok (.ior, 1) := by decide +kernel
theorem dX10_follows_102 : decode cX10_follows 102 = .ok (.istore 4, 2) := by decide +kernel
theorem dX10_follows_104 : decode cX10_follows 104 = .ok (.iinc 5 1, 3) := by decide +kernel
theorem dX10_follows_107 : decode cX10_follows 107 = .ok (.goto (-48), 3) := by decide +kernel
theorem dX10_follows_110 : decode cX10_follows 110 = .ok (.iload 4, 2) := by decide +kernel
theorem dX10_follows_112 : decode cX10_follows 112 = .ok (.ireturn, 1) := by decide +kernel
theorem dX10_clash_0 : decode cX10_clash 0 = .ok (.aload_n 0, 1) := by decide +kernel
theorem dX10_clash_1 : decode cX10_clash 1 = .ok (.iload_n 1, 1) := by decide +kernel
theorem dX10_clash_2 : decode cX10_clash 2 = .ok (.invokevirtual 182, 3) := by decide +kernel
theorem dX10_clash_5 : decode cX10_clash 5 = .ok (.ifCond .eq 12, 3) := by decide +kernel
theorem dX10_clash_8 : decode cX10_clash 8 = .ok (.iload_n 2, 1) := by decide +kernel
theorem dX10_clash_9 : decode cX10_clash 9 = .ok (.ifCond .lt 8, 3) := by decide +kernel
theorem dX10_clash_12 : decode cX10_clash 12 = .ok (.iload_n 2, 1) := by decide +kernel
theorem dX10_clash_13 : decode cX10_clash 13 = .ok (.iconst 1, 1) := by decide +kernel
theorem dX10_clash_14 : decode cX10_clash 14 = .ok (.if_icmp .le 5, 3) := by decide +kernel
theorem dX10_clash_17 : decode cX10_clash 17 = .ok (.iconst (-1), 1) := by decide +kernel
theorem dX10_clash_18 : decode cX10_clash 18 = .ok (.ireturn, 1) := by decide +kernel
theorem dX10_clash_19 : decode cX10_clash 19 = .ok (.aload_n 0, 1) := by decide +kernel
theorem dX10_clash_20 : decode cX10_clash 20 = .ok (.getfield 44, 3) := by decide +kernel
theorem dX10_clash_23 : decode cX10_clash 23 = .ok (.aload_n 0, 1) := by decide +kernel
theorem dX10_clash_24 : decode cX10_clash 24 = .ok (.getfield 37, 3) := by decide +kernel
theorem dX10_clash_27 : decode cX10_clash 27 = .ok (.invokevirtual 191, 3) := by decide +kernel
theorem dX10_clash_30 : decode cX10_clash 30 = .ok (.ifCond .ne 6, 3) := by decide +kernel
theorem dX10_clash_33 : decode cX10_clash 33 = .ok (.bipush (-3), 2) := by decide +kernel
theorem dX10_clash_35 : decode cX10_clash 35 = .ok (.ireturn, 1) := by decide +kernel
theorem dX10_clash_36 : decode cX10_clash 36 = .ok (.aload_n 0, 1) := by decide +kernel
theorem dX10_clash_37 : decode cX10_clash 37 = .ok (.getfield 44, 3) := by decide +kernel
theorem dX10_clash_40 : decode cX10_clash 40 = .ok (.iload_n 1, 1) := by decide +kernel
theorem dX10_clash_41 : decode cX10_clash 41 = .ok (.invokevirtual 195, 3) := by decide +kernel
theorem dX10_clash_44 : decode cX10_clash 44 = .ok (.ifCond .le 6, 3) := by decide +kernel
theorem dX10_clash_47 : decode cX10_clash 47 = .ok (.bipush (-2), 2) := by decide +kernel
theorem dX10_clash_49 : decode cX10_clash 49 = .ok (.ireturn, 1) := by decide +kernel
theorem dX10_clash_50 : decode cX10_clash 50 = .ok (.iload_n 1, 1) := by decide +kernel
theorem dX10_clash_51 : decode cX10_clash 51 = .ok (.istore_n 3, 1) := by decide +kernel
theorem dX10_clash_52 : decode cX10_clash 52 = .ok (.iconst 0, 1) := by decide +kernel
theorem dX10_clash_53 : decode cX10_clash 53 = .ok (.istore 4, 2) := by decide +kernel
theorem dX10_clash_55 : decode cX10_clash 55 = .ok (.iload 4, 2) := by decide +kernel
theorem dX10_clash_57 : decode cX10_clash 57 = .ok (.sipush 1024, 3) := by decide +kernel
theorem dX10_clash_60 : decode cX10_clash 60 = .ok (.if_icmp .ge 42, 3) := by decide +kernel
theorem dX10_clash_63 : decode cX10_clash 63 = .ok (.iload 4, 2) := by decide +kernel
theorem dX10_clash_65 : decode cX10_clash 65 = .ok (.iload_n 1, 1) := by decide +kernel
theorem dX10_clash_66 : decode cX10_clash 66 = .ok (.iconst (-1), 1) := by decide +kernel
theorem dX10_clash_67 : decode cX10_clash 67 = .ok (.ixor, 1) := by decide +kernel
theorem dX10_clash_68 : decode cX10_clash 68 = .ok (.iand, 1) := by decide +kernel
theorem dX10_clash_69 : decode cX10_clash 69 = .ok (.ifCond .ne 27, 3) := by decide +kernel
theorem dX10_clash_72 : decode cX10_clash 72 = .ok (.aload_n 0, 1) := by decide +kernel
theorem dX10_clash_73 : decode cX10_clash 73 = .ok (.getfield 44, 3) := by decide +kernel
theorem dX10_clash_76 : decode cX10_clash 76 = .ok (.iload 4, 2) := by decide +kernel
theorem dX10_clash_78 : decode cX10_clash 78 = .ok (.invokevirtual 195, 3) := by decide +kernel
theorem dX10_clash_81 : decode cX10_clash 81 = .ok (.ifCond .ne 15, 3) := by decide +kernel
theorem dX10_clash_84 : decode cX10_clash 84 = .ok (.iload 4, 2) := by decide +kernel
theorem dX10_clash_86 : decode cX10_clash 86 = .ok (.iload_n 3, 1) := by decide +kernel
theorem dX10_clash_87 : decode cX10_clash 87 = .ok (.invokestatic 238, 3) := by decide +kernel
theorem dX10_clash_90 : decode cX10_clash 90 = .ok (.ifCond .eq 6, 3) := by decide +kernel
theorem dX10_clash_93 : decode cX10_clash 93 = .ok (.iload 4, 2) := by decide +kernel
theorem dX10_clash_95 : decode cX10_clash 95 = .ok (.istore_n 3, 1) := by decide +kernel
theorem dX10_clash_96 : decode cX10_clash 96 = .ok (.iinc 4 1, 3) := by decide +kernel
theorem dX10_clash_99 : decode cX10_clash 99 = .ok (.goto (-44), 3) := by decide +kernel
theorem dX10_clash_102 : decode cX10_clash 102 = .ok (.iload_n 2, 1) := by decide +kernel
theorem dX10_clash_103 : decode cX10_clash 103 = .ok (.ifCond .ne 10, 3) := by decide +kernel
theorem dX10_clash_106 : decode cX10_clash 106 = .ok (.iload_n 3, 1) := by decide +kernel
theorem dX10_clash_107 : decode cX10_clash 107 = .ok (.invokestatic 150, 3) := by decide +kernel
theorem dX10_clash_110 : decode cX10_clash 110 = .ok (.goto 4, 3) := by decide +kernel
theorem dX10_clash_113 : decode cX10_clash 113 = .ok (.iload_n 3, 1) := by decide +kernel
theorem dX10_clash_114 : decode cX10_clash 114 = .ok (.ireturn, 1) := by decide +kernel
theorem dX10_needless_0 : decode cX10_needless 0 = .ok (.aload_n 0, 1) := by decide +kernel
theorem dX10_needless_1 : decode cX10_needless 1 = .ok (.iload_n 1, 1) := by decide +kernel
theorem dX10_needless_2 : decode cX10_needless 2 = .ok (.invokevirtual 182, 3) := by decide +kernel
theorem dX10_needless_5 : decode cX10_needless 5 = .ok (.ifCond .ne 5, 3) := by decide +kernel
theorem dX10_needless_8 : decode cX10_needless 8 = .ok (.iconst (-1), 1) := by decide +kernel
theorem dX10_needless_9 : decode cX10_needless 9 = .ok (.ireturn, 1) := by decide +kernel
theorem dX10_needless_10 : decode cX10_needless 10 = .ok (.aload_n 0, 1) := by decide +kernel
theorem dX10_needless_11 : decode cX10_needless 11 = .ok (.getfield 44, 3) := by decide +kernel
theorem dX10_needless_14 : decode cX10_needless 14 = .ok (.aload_n 0, 1) := by decide +kernel
theorem dX10_needless_15 : decode cX10_needless 15 = .ok (.getfield 37, 3) := by decide +kernel
theorem dX10_needless_18 : decode cX10_needless 18 = .ok (.invokevirtual 191, 3) := by decide +kernel
theorem dX10_needless_21 : decode cX10_needless 21 = .ok (.ifCond .ne 6, 3) := by decide +kernel
theorem dX10_needless_24 : decode cX10_needless 24 = .ok (.bipush (-3), 2) := by decide +kernel
theorem dX10_needless_26 : decode cX10_needless 26 = .ok (.ireturn, 1) := by decide +kernel
theorem dX10_needless_27 : decode cX10_needless 27 = .ok (.iconst 0, 1) := by decide +kernel
theorem dX10_needless_28 : decode cX10_needless 28 = .ok (.istore_n 2, 1) := by decide +kernel
theorem dX10_needless_29 : decode cX10_needless 29 = .ok (.iconst 0, 1) := by decide +kernel
theorem dX10_needless_30 : decode cX10_needless 30 = .ok (.istore_n 3, 1) := by decide +kernel
theorem dX10_needless_31 : decode cX10_needless 31 = .ok (.iload_n 3, 1) := by decide +kernel
theorem dX10_needless_32 : decode cX10_needless 32 = .ok (.bipush 10, 2) := by decide +kernel
theorem dX10_needless_34 : decode cX10_needless 34 = .ok (.if_icmp .ge 50, 3) := by decide +kernel
theorem dX10_needless_37 : decode cX10_needless 37 = .ok (.iconst 1, 1) := by decide +kernel
theorem dX10_needless_38 : decode cX10_needless 38 = .ok (.iload_n 3, 1) := by decide +kernel
theorem dX10_needless_39 : decode cX10_needless 39 = .ok (.ishl, 1) := by decide +kernel
theorem dX10_needless_40 : decode cX10_needless 40 = .ok (.istore 4, 2) := by decide +kernel
theorem dX10_needless_42 : decode cX10_needless 42 = .ok (.iload_n 1, 1) := by decide +kernel
theorem dX10_needless_43 : decode cX10_needless 43 = .ok (.iload 4, 2) := by decide +kernel
theorem dX10_needless_45 : decode cX10_needless 45 = .ok (.iand, 1) := by decide +kernel
theorem dX10_needless_46 : decode cX10_needless 46 = .ok (.ifCond .eq 32, 3) := by decide +kernel
theorem dX10_needless_49 : decode cX10_needless 49 = .ok (.aload_n 0, 1) := by decide +kernel
theorem dX10_needless_50 : decode cX10_needless 50 = .ok (.getfield 44, 3) := by decide +kernel
theorem dX10_needless_53 : decode cX10_needless 53 = .ok (.iload_n 1, 1) := by decide +kernel
theorem dX10_needless_54 : decode cX10_needless 54 = .ok (.iload 4, 2) := by decide +kernel
theorem dX10_needless_56 : decode cX10_needless 56 = .ok (.iconst (-1), 1) := by decide +kernel
theorem dX10_needless_57 : decode cX10_needless 57 = .ok (.ixor, 1) := by decide +kernel
theorem dX10_needless_58 : decode cX10_needless 58 = .ok (.iand, 1) := by decide +kernel
theorem dX10_needless_59 : decode cX10_needless 59 = .ok (.invokevirtual 195, 3) := by decide +kernel
theorem dX10_needless_62 : decode cX10_needless 62 = .ok (.aload_n 0, 1) := by decide +kernel
theorem dX10_needless_63 : decode cX10_needless 63 = .ok (.getfield 44, 3) := by decide +kernel
theorem dX10_needless_66 : decode cX10_needless 66 = .ok (.iload_n 1, 1) := by decide +kernel
theorem dX10_needless_67 : decode cX10_needless 67 = .ok (.invokevirtual 195, 3) := by decide +kernel
theorem dX10_needless_70 : decode cX10_needless 70 = .ok (.if_icmp .ne 8, 3) := by decide +kernel
theorem dX10_needless_73 : decode cX10_needless 73 = .ok (.iload_n 2, 1) := by decide +kernel
theorem dX10_needless_74 : decode cX10_needless 74 = .ok (.iload 4, 2) := by decide +kernel
theorem dX10_needless_76 : decode cX10_needless 76 = .ok (.ior, 1) := by decide +kernel
theorem dX10_needless_77 : decode cX10_needless 77 = .ok (.istore_n 2, 1) := by decide +kernel
theorem dX10_needless_78 : decode cX10_needless 78 = .ok (.iinc 3 1, 3) := by decide +kernel
theorem dX10_needless_81 : decode cX10_needless 81 = .ok (.goto (-50), 3) := by decide +kernel
theorem dX10_needless_84 : decode cX10_needless 84 = .ok (.iload_n 2, 1) := by decide +kernel
theorem dX10_needless_85 : decode cX10_needless 85 = .ok (.ireturn, 1) := by decide +kernel
theorem dX10_settles_0 : decode cX10_settles 0 = .ok (.aload_n 0, 1) := by decide +kernel
theorem dX10_settles_1 : decode cX10_settles 1 = .ok (.iload_n 1, 1) := by decide +kernel
theorem dX10_settles_2 : decode cX10_settles 2 = .ok (.invokevirtual 182, 3) := by decide +kernel
theorem dX10_settles_5 : decode cX10_settles 5 = .ok (.ifCond .ne 5, 3) := by decide +kernel
theorem dX10_settles_8 : decode cX10_settles 8 = .ok (.iconst (-1), 1) := by decide +kernel
theorem dX10_settles_9 : decode cX10_settles 9 = .ok (.ireturn, 1) := by decide +kernel
theorem dX10_settles_10 : decode cX10_settles 10 = .ok (.aload_n 0, 1) := by decide +kernel
theorem dX10_settles_11 : decode cX10_settles 11 = .ok (.getfield 44, 3) := by decide +kernel
theorem dX10_settles_14 : decode cX10_settles 14 = .ok (.aload_n 0, 1) := by decide +kernel
theorem dX10_settles_15 : decode cX10_settles 15 = .ok (.getfield 37, 3) := by decide +kernel
theorem dX10_settles_18 : decode cX10_settles 18 = .ok (.invokevirtual 191, 3) := by decide +kernel
theorem dX10_settles_21 : decode cX10_settles 21 = .ok (.ifCond .ne 6, 3) := by decide +kernel
theorem dX10_settles_24 : decode cX10_settles 24 = .ok (.bipush (-3), 2) := by decide +kernel
theorem dX10_settles_26 : decode cX10_settles 26 = .ok (.ireturn, 1) := by decide +kernel
theorem dX10_settles_27 : decode cX10_settles 27 = .ok (.iconst 0, 1) := by decide +kernel
theorem dX10_settles_28 : decode cX10_settles 28 = .ok (.istore_n 2, 1) := by decide +kernel
theorem dX10_settles_29 : decode cX10_settles 29 = .ok (.iload_n 2, 1) := by decide +kernel
theorem dX10_settles_30 : decode cX10_settles 30 = .ok (.bipush 10, 2) := by decide +kernel
theorem dX10_settles_32 : decode cX10_settles 32 = .ok (.if_icmp .ge 36, 3) := by decide +kernel
theorem dX10_settles_35 : decode cX10_settles 35 = .ok (.aload_n 0, 1) := by decide +kernel
theorem dX10_settles_36 : decode cX10_settles 36 = .ok (.iload_n 1, 1) := by decide +kernel
theorem dX10_settles_37 : decode cX10_settles 37 = .ok (.iload_n 2, 1) := by decide +kernel
theorem dX10_settles_38 : decode cX10_settles 38 = .ok (.invokevirtual 241, 3) := by decide +kernel
theorem dX10_settles_41 : decode cX10_settles 41 = .ok (.ifCond .eq 21, 3) := by decide +kernel
theorem dX10_settles_44 : decode cX10_settles 44 = .ok (.aload_n 0, 1) := by decide +kernel
theorem dX10_settles_45 : decode cX10_settles 45 = .ok (.getfield 44, 3) := by decide +kernel
theorem dX10_settles_48 : decode cX10_settles 48 = .ok (.iload_n 1, 1) := by decide +kernel
theorem dX10_settles_49 : decode cX10_settles 49 = .ok (.iconst 1, 1) := by decide +kernel
theorem dX10_settles_50 : decode cX10_settles 50 = .ok (.iload_n 2, 1) := by decide +kernel
theorem dX10_settles_51 : decode cX10_settles 51 = .ok (.ishl, 1) := by decide +kernel
theorem dX10_settles_52 : decode cX10_settles 52 = .ok (.ior, 1) := by decide +kernel
theorem dX10_settles_53 : decode cX10_settles 53 = .ok (.invokevirtual 195, 3) := by decide +kernel
theorem dX10_settles_56 : decode cX10_settles 56 = .ok (.iconst 1, 1) := by decide +kernel
theorem dX10_settles_57 : decode cX10_settles 57 = .ok (.if_icmp .ne 5, 3) := by decide +kernel
theorem dX10_settles_60 : decode cX10_settles 60 = .ok (.iload_n 2, 1) := by decide +kernel
theorem dX10_settles_61 : decode cX10_settles 61 = .ok (.ireturn, 1) := by decide +kernel
theorem dX10_settles_62 : decode cX10_settles 62 = .ok (.iinc 2 1, 3) := by decide +kernel
theorem dX10_settles_65 : decode cX10_settles 65 = .ok (.goto (-36), 3) := by decide +kernel
theorem dX10_settles_68 : decode cX10_settles 68 = .ok (.bipush (-2), 2) := by decide +kernel
theorem dX10_settles_70 : decode cX10_settles 70 = .ok (.ireturn, 1) := by decide +kernel
theorem dX10_isOther_0 : decode cX10_isOther 0 = .ok (.aload_n 0, 1) := by decide +kernel
theorem dX10_isOther_1 : decode cX10_isOther 1 = .ok (.getfield 10, 3) := by decide +kernel
theorem dX10_isOther_4 : decode cX10_isOther 4 = .ok (.iload_n 2, 1) := by decide +kernel
theorem dX10_isOther_5 : decode cX10_isOther 5 = .ok (.invokevirtual 156, 3) := by decide +kernel
theorem dX10_isOther_8 : decode cX10_isOther 8 = .ok (.ifCond .eq 15, 3) := by decide +kernel
theorem dX10_isOther_11 : decode cX10_isOther 11 = .ok (.iload_n 1, 1) := by decide +kernel
theorem dX10_isOther_12 : decode cX10_isOther 12 = .ok (.iload_n 2, 1) := by decide +kernel
theorem dX10_isOther_13 : decode cX10_isOther 13 = .ok (.ishr, 1) := by decide +kernel
theorem dX10_isOther_14 : decode cX10_isOther 14 = .ok (.iconst 1, 1) := by decide +kernel
theorem dX10_isOther_15 : decode cX10_isOther 15 = .ok (.iand, 1) := by decide +kernel
theorem dX10_isOther_16 : decode cX10_isOther 16 = .ok (.ifCond .ne 7, 3) := by decide +kernel
theorem dX10_isOther_19 : decode cX10_isOther 19 = .ok (.iconst 1, 1) := by decide +kernel
theorem dX10_isOther_20 : decode cX10_isOther 20 = .ok (.goto 4, 3) := by decide +kernel
theorem dX10_isOther_23 : decode cX10_isOther 23 = .ok (.iconst 0, 1) := by decide +kernel
theorem dX10_isOther_24 : decode cX10_isOther 24 = .ok (.ireturn, 1) := by decide +kernel
theorem dX10_fewest_0 : decode cX10_fewest 0 = .ok (.aload_n 0, 1) := by decide +kernel
theorem dX10_fewest_1 : decode cX10_fewest 1 = .ok (.iload_n 1, 1) := by decide +kernel
theorem dX10_fewest_2 : decode cX10_fewest 2 = .ok (.invokevirtual 182, 3) := by decide +kernel
theorem dX10_fewest_5 : decode cX10_fewest 5 = .ok (.ifCond .eq 12, 3) := by decide +kernel
theorem dX10_fewest_8 : decode cX10_fewest 8 = .ok (.iload_n 2, 1) := by decide +kernel
theorem dX10_fewest_9 : decode cX10_fewest 9 = .ok (.ifCond .lt 8, 3) := by decide +kernel
theorem dX10_fewest_12 : decode cX10_fewest 12 = .ok (.iload_n 2, 1) := by decide +kernel
theorem dX10_fewest_13 : decode cX10_fewest 13 = .ok (.iconst 1, 1) := by decide +kernel
theorem dX10_fewest_14 : decode cX10_fewest 14 = .ok (.if_icmp .le 5, 3) := by decide +kernel
theorem dX10_fewest_17 : decode cX10_fewest 17 = .ok (.iconst (-1), 1) := by decide +kernel
theorem dX10_fewest_18 : decode cX10_fewest 18 = .ok (.ireturn, 1) := by decide +kernel
theorem dX10_fewest_19 : decode cX10_fewest 19 = .ok (.aload_n 0, 1) := by decide +kernel
theorem dX10_fewest_20 : decode cX10_fewest 20 = .ok (.getfield 44, 3) := by decide +kernel
theorem dX10_fewest_23 : decode cX10_fewest 23 = .ok (.aload_n 0, 1) := by decide +kernel
theorem dX10_fewest_24 : decode cX10_fewest 24 = .ok (.getfield 37, 3) := by decide +kernel
theorem dX10_fewest_27 : decode cX10_fewest 27 = .ok (.invokevirtual 191, 3) := by decide +kernel
theorem dX10_fewest_30 : decode cX10_fewest 30 = .ok (.ifCond .ne 6, 3) := by decide +kernel
theorem dX10_fewest_33 : decode cX10_fewest 33 = .ok (.bipush (-3), 2) := by decide +kernel
theorem dX10_fewest_35 : decode cX10_fewest 35 = .ok (.ireturn, 1) := by decide +kernel
theorem dX10_fewest_36 : decode cX10_fewest 36 = .ok (.aload_n 0, 1) := by decide +kernel
theorem dX10_fewest_37 : decode cX10_fewest 37 = .ok (.getfield 10, 3) := by decide +kernel
theorem dX10_fewest_40 : decode cX10_fewest 40 = .ok (.invokevirtual 169, 3) := by decide +kernel
theorem dX10_fewest_43 : decode cX10_fewest 43 = .ok (.iload_n 1, 1) := by decide +kernel
theorem dX10_fewest_44 : decode cX10_fewest 44 = .ok (.iconst (-1), 1) := by decide +kernel
theorem dX10_fewest_45 : decode cX10_fewest 45 = .ok (.ixor, 1) := by decide +kernel
theorem dX10_fewest_46 : decode cX10_fewest 46 = .ok (.iand, 1) := by decide +kernel
theorem dX10_fewest_47 : decode cX10_fewest 47 = .ok (.istore_n 3, 1) := by decide +kernel
theorem dX10_fewest_48 : decode cX10_fewest 48 = .ok (.iconst (-1), 1) := by decide +kernel
theorem dX10_fewest_49 : decode cX10_fewest 49 = .ok (.istore 4, 2) := by decide +kernel
theorem dX10_fewest_51 : decode cX10_fewest 51 = .ok (.iconst 0, 1) := by decide +kernel
theorem dX10_fewest_52 : decode cX10_fewest 52 = .ok (.istore 5, 2) := by decide +kernel
theorem dX10_fewest_54 : decode cX10_fewest 54 = .ok (.iload 5, 2) := by decide +kernel
theorem dX10_fewest_56 : decode cX10_fewest 56 = .ok (.sipush 1024, 3) := by decide +kernel
theorem dX10_fewest_59 : decode cX10_fewest 59 = .ok (.if_icmp .ge 61, 3) := by decide +kernel
theorem dX10_fewest_62 : decode cX10_fewest 62 = .ok (.iload 5, 2) := by decide +kernel
theorem dX10_fewest_64 : decode cX10_fewest 64 = .ok (.iload_n 3, 1) := by decide +kernel
theorem dX10_fewest_65 : decode cX10_fewest 65 = .ok (.iconst (-1), 1) := by decide +kernel
theorem dX10_fewest_66 : decode cX10_fewest 66 = .ok (.ixor, 1) := by decide +kernel
theorem dX10_fewest_67 : decode cX10_fewest 67 = .ok (.iand, 1) := by decide +kernel
theorem dX10_fewest_68 : decode cX10_fewest 68 = .ok (.ifCond .ne 46, 3) := by decide +kernel
theorem dX10_fewest_71 : decode cX10_fewest 71 = .ok (.iload 5, 2) := by decide +kernel
theorem dX10_fewest_73 : decode cX10_fewest 73 = .ok (.invokestatic 150, 3) := by decide +kernel
theorem dX10_fewest_76 : decode cX10_fewest 76 = .ok (.iconst 3, 1) := by decide +kernel
theorem dX10_fewest_77 : decode cX10_fewest 77 = .ok (.if_icmp .gt 37, 3) := by decide +kernel
theorem dX10_fewest_80 : decode cX10_fewest 80 = .ok (.aload_n 0, 1) := by decide +kernel
theorem dX10_fewest_81 : decode cX10_fewest 81 = .ok (.getfield 44, 3) := by decide +kernel
theorem dX10_fewest_84 : decode cX10_fewest 84 = .ok (.iload_n 1, 1) := by decide +kernel
theorem dX10_fewest_85 : decode cX10_fewest 85 = .ok (.iload 5, 2) := by decide +kernel
theorem dX10_fewest_87 : decode cX10_fewest 87 = .ok (.ior, 1) := by decide +kernel
theorem dX10_fewest_88 : decode cX10_fewest 88 = .ok (.invokevirtual 195, 3) := by decide +kernel
theorem dX10_fewest_91 : decode cX10_fewest 91 = .ok (.iconst 1, 1) := by decide +kernel
theorem dX10_fewest_92 : decode cX10_fewest 92 = .ok (.if_icmp .ne 22, 3) := by decide +kernel
theorem dX10_fewest_95 : decode cX10_fewest 95 = .ok (.iload 4, 2) := by decide +kernel
theorem dX10_fewest_97 : decode cX10_fewest 97 = .ok (.ifCond .lt 13, 3) := by decide +kernel
theorem dX10_fewest_100 : decode cX10_fewest 100 = .ok (.iload 5, 2) := by decide +kernel
theorem dX10_fewest_102 : decode cX10_fewest 102 = .ok (.iload 4, 2) := by decide +kernel
theorem dX10_fewest_104 : decode cX10_fewest 104 = .ok (.invokestatic 238, 3) := by decide +kernel
theorem dX10_fewest_107 : decode cX10_fewest 107 = .ok (.ifCond .eq 7, 3) := by decide +kernel
theorem dX10_fewest_110 : decode cX10_fewest 110 = .ok (.iload 5, 2) := by decide +kernel
theorem dX10_fewest_112 : decode cX10_fewest 112 = .ok (.istore 4, 2) := by decide +kernel
theorem dX10_fewest_114 : decode cX10_fewest 114 = .ok (.iinc 5 1, 3) := by decide +kernel
theorem dX10_fewest_117 : decode cX10_fewest 117 = .ok (.goto (-63), 3) := by decide +kernel
theorem dX10_fewest_120 : decode cX10_fewest 120 = .ok (.iload 4, 2) := by decide +kernel
theorem dX10_fewest_122 : decode cX10_fewest 122 = .ok (.ifCond .ge 6, 3) := by decide +kernel
theorem dX10_fewest_125 : decode cX10_fewest 125 = .ok (.bipush (-2), 2) := by decide +kernel
theorem dX10_fewest_127 : decode cX10_fewest 127 = .ok (.ireturn, 1) := by decide +kernel
theorem dX10_fewest_128 : decode cX10_fewest 128 = .ok (.iload_n 2, 1) := by decide +kernel
theorem dX10_fewest_129 : decode cX10_fewest 129 = .ok (.ifCond .ne 11, 3) := by decide +kernel
theorem dX10_fewest_132 : decode cX10_fewest 132 = .ok (.iload 4, 2) := by decide +kernel
theorem dX10_fewest_134 : decode cX10_fewest 134 = .ok (.invokestatic 150, 3) := by decide +kernel
theorem dX10_fewest_137 : decode cX10_fewest 137 = .ok (.goto 5, 3) := by decide +kernel
theorem dX10_fewest_140 : decode cX10_fewest 140 = .ok (.iload 4, 2) := by decide +kernel
theorem dX10_fewest_142 : decode cX10_fewest 142 = .ok (.ireturn, 1) := by decide +kernel
theorem dX10_asks_0 : decode cX10_asks 0 = .ok (.aload_n 0, 1) := by decide +kernel
theorem dX10_asks_1 : decode cX10_asks 1 = .ok (.iload_n 1, 1) := by decide +kernel
theorem dX10_asks_2 : decode cX10_asks 2 = .ok (.invokevirtual 182, 3) := by decide +kernel
theorem dX10_asks_5 : decode cX10_asks 5 = .ok (.ifCond .eq 12, 3) := by decide +kernel
theorem dX10_asks_8 : decode cX10_asks 8 = .ok (.iload_n 2, 1) := by decide +kernel
theorem dX10_asks_9 : decode cX10_asks 9 = .ok (.ifCond .lt 8, 3) := by decide +kernel
theorem dX10_asks_12 : decode cX10_asks 12 = .ok (.iload_n 2, 1) := by decide +kernel
theorem dX10_asks_13 : decode cX10_asks 13 = .ok (.iconst 2, 1) := by decide +kernel
theorem dX10_asks_14 : decode cX10_asks 14 = .ok (.if_icmp .le 5, 3) := by decide +kernel
theorem dX10_asks_17 : decode cX10_asks 17 = .ok (.iconst (-1), 1) := by decide +kernel
theorem dX10_asks_18 : decode cX10_asks 18 = .ok (.ireturn, 1) := by decide +kernel
theorem dX10_asks_19 : decode cX10_asks 19 = .ok (.aload_n 0, 1) := by decide +kernel
theorem dX10_asks_20 : decode cX10_asks 20 = .ok (.getfield 44, 3) := by decide +kernel
theorem dX10_asks_23 : decode cX10_asks 23 = .ok (.aload_n 0, 1) := by decide +kernel
theorem dX10_asks_24 : decode cX10_asks 24 = .ok (.getfield 37, 3) := by decide +kernel
theorem dX10_asks_27 : decode cX10_asks 27 = .ok (.invokevirtual 191, 3) := by decide +kernel
theorem dX10_asks_30 : decode cX10_asks 30 = .ok (.ifCond .ne 6, 3) := by decide +kernel
theorem dX10_asks_33 : decode cX10_asks 33 = .ok (.bipush (-3), 2) := by decide +kernel
theorem dX10_asks_35 : decode cX10_asks 35 = .ok (.ireturn, 1) := by decide +kernel
theorem dX10_asks_36 : decode cX10_asks 36 = .ok (.aload_n 0, 1) := by decide +kernel
theorem dX10_asks_37 : decode cX10_asks 37 = .ok (.getfield 44, 3) := by decide +kernel
theorem dX10_asks_40 : decode cX10_asks 40 = .ok (.iload_n 1, 1) := by decide +kernel
theorem dX10_asks_41 : decode cX10_asks 41 = .ok (.invokevirtual 195, 3) := by decide +kernel
theorem dX10_asks_44 : decode cX10_asks 44 = .ok (.istore_n 3, 1) := by decide +kernel
theorem dX10_asks_45 : decode cX10_asks 45 = .ok (.bipush (-2), 2) := by decide +kernel
theorem dX10_asks_47 : decode cX10_asks 47 = .ok (.istore 4, 2) := by decide +kernel
theorem dX10_asks_49 : decode cX10_asks 49 = .ok (.iconst 0, 1) := by decide +kernel
theorem dX10_asks_50 : decode cX10_asks 50 = .ok (.istore 5, 2) := by decide +kernel
theorem dX10_asks_52 : decode cX10_asks 52 = .ok (.iconst 0, 1) := by decide +kernel
theorem dX10_asks_53 : decode cX10_asks 53 = .ok (.istore 6, 2) := by decide +kernel
theorem dX10_asks_55 : decode cX10_asks 55 = .ok (.iload 6, 2) := by decide +kernel
theorem dX10_asks_57 : decode cX10_asks 57 = .ok (.bipush 10, 2) := by decide +kernel
theorem dX10_asks_59 : decode cX10_asks 59 = .ok (.if_icmp .ge 76, 3) := by decide +kernel
theorem dX10_asks_62 : decode cX10_asks 62 = .ok (.iload_n 3, 1) := by decide +kernel
theorem dX10_asks_63 : decode cX10_asks 63 = .ok (.ifCond .le 72, 3) := by decide +kernel
theorem dX10_asks_66 : decode cX10_asks 66 = .ok (.aload_n 0, 1) := by decide +kernel
theorem dX10_asks_67 : decode cX10_asks 67 = .ok (.getfield 44, 3) := by decide +kernel
theorem dX10_asks_70 : decode cX10_asks 70 = .ok (.iload_n 1, 1) := by decide +kernel
theorem dX10_asks_71 : decode cX10_asks 71 = .ok (.iconst 1, 1) := by decide +kernel
theorem dX10_asks_72 : decode cX10_asks 72 = .ok (.iload 6, 2) := by decide +kernel
theorem dX10_asks_74 : decode cX10_asks 74 = .ok (.ishl, 1) := by decide +kernel
theorem dX10_asks_75 : decode cX10_asks 75 = .ok (.ior, 1) := by decide +kernel
theorem dX10_asks_76 : decode cX10_asks 76 = .ok (.invokevirtual 195, 3) := by decide +kernel
theorem dX10_asks_79 : decode cX10_asks 79 = .ok (.istore 7, 2) := by decide +kernel
theorem dX10_asks_81 : decode cX10_asks 81 = .ok (.aload_n 0, 1) := by decide +kernel
theorem dX10_asks_82 : decode cX10_asks 82 = .ok (.iload_n 1, 1) := by decide +kernel
theorem dX10_asks_83 : decode cX10_asks 83 = .ok (.iload 6, 2) := by decide +kernel
theorem dX10_asks_85 : decode cX10_asks 85 = .ok (.invokevirtual 241, 3) := by decide +kernel
theorem dX10_asks_88 : decode cX10_asks 88 = .ok (.ifCond .eq 41, 3) := by decide +kernel
theorem dX10_asks_91 : decode cX10_asks 91 = .ok (.iload_n 2, 1) := by decide +kernel
theorem dX10_asks_92 : decode cX10_asks 92 = .ok (.ifCond .eq 8, 3) := by decide +kernel
theorem dX10_asks_95 : decode cX10_asks 95 = .ok (.iload 7, 2) := by decide +kernel
theorem dX10_asks_97 : decode cX10_asks 97 = .ok (.ifCond .le 32, 3) := by decide +kernel
theorem dX10_asks_100 : decode cX10_asks 100 = .ok (.iload_n 2, 1) := by decide +kernel
theorem dX10_asks_101 : decode cX10_asks 101 = .ok (.iload 7, 2) := by decide +kernel
theorem dX10_asks_103 : decode cX10_asks 103 = .ok (.iload_n 3, 1) := by decide +kernel
theorem dX10_asks_104 : decode cX10_asks 104 = .ok (.invokestatic 244, 3) := by decide +kernel
theorem dX10_asks_107 : decode cX10_asks 107 = .ok (.istore 8, 2) := by decide +kernel
theorem dX10_asks_109 : decode cX10_asks 109 = .ok (.iload 4, 2) := by decide +kernel
theorem dX10_asks_111 : decode cX10_asks 111 = .ok (.ifCond .lt 10, 3) := by decide +kernel
theorem dX10_asks_114 : decode cX10_asks 114 = .ok (.iload 8, 2) := by decide +kernel
theorem dX10_asks_116 : decode cX10_asks 116 = .ok (.iload 5, 2) := by decide +kernel
theorem dX10_asks_118 : decode cX10_asks 118 = .ok (.if_icmp .ge 11, 3) := by decide +kernel
theorem dX10_asks_121 : decode cX10_asks 121 = .ok (.iload 6, 2) := by decide +kernel
theorem dX10_asks_123 : decode cX10_asks 123 = .ok (.istore 4, 2) := by decide +kernel
theorem dX10_asks_125 : decode cX10_asks 125 = .ok (.iload 8, 2) := by decide +kernel
theorem dX10_asks_127 : decode cX10_asks 127 = .ok (.istore 5, 2) := by decide +kernel
theorem dX10_asks_129 : decode cX10_asks 129 = .ok (.iinc 6 1, 3) := by decide +kernel
theorem dX10_asks_132 : decode cX10_asks 132 = .ok (.goto (-77), 3) := by decide +kernel
theorem dX10_asks_135 : decode cX10_asks 135 = .ok (.iload 4, 2) := by decide +kernel
theorem dX10_asks_137 : decode cX10_asks 137 = .ok (.ireturn, 1) := by decide +kernel
theorem dX10_costOfAsking_0 : decode cX10_costOfAsking 0 = .ok (.iload_n 0, 1) := by decide +kernel
theorem dX10_costOfAsking_1 : decode cX10_costOfAsking 1 = .ok (.ifCond .ne 12, 3) := by decide +kernel
theorem dX10_costOfAsking_4 : decode cX10_costOfAsking 4 = .ok (.iconst 2, 1) := by decide +kernel
theorem dX10_costOfAsking_5 : decode cX10_costOfAsking 5 = .ok (.iload_n 1, 1) := by decide +kernel
theorem dX10_costOfAsking_6 : decode cX10_costOfAsking 6 = .ok (.imul, 1) := by decide +kernel
theorem dX10_costOfAsking_7 : decode cX10_costOfAsking 7 = .ok (.iload_n 2, 1) := by decide +kernel
theorem dX10_costOfAsking_8 : decode cX10_costOfAsking 8 = .ok (.isub, 1) := by decide +kernel
theorem dX10_costOfAsking_9 : decode cX10_costOfAsking 9 = .ok (.invokestatic 248, 3) := by decide +kernel
theorem dX10_costOfAsking_12 : decode cX10_costOfAsking 12 = .ok (.ireturn, 1) := by decide +kernel
theorem dX10_costOfAsking_13 : decode cX10_costOfAsking 13 = .ok (.iload_n 0, 1) := by decide +kernel
theorem dX10_costOfAsking_14 : decode cX10_costOfAsking 14 = .ok (.iconst 1, 1) := by decide +kernel
theorem dX10_costOfAsking_15 : decode cX10_costOfAsking 15 = .ok (.if_icmp .ne 8, 3) := by decide +kernel
theorem dX10_costOfAsking_18 : decode cX10_costOfAsking 18 = .ok (.iload_n 1, 1) := by decide +kernel
theorem dX10_costOfAsking_19 : decode cX10_costOfAsking 19 = .ok (.ineg, 1) := by decide +kernel
theorem dX10_costOfAsking_20 : decode cX10_costOfAsking 20 = .ok (.goto 4, 3) := by decide +kernel
theorem dX10_costOfAsking_23 : decode cX10_costOfAsking 23 = .ok (.iload_n 1, 1) := by decide +kernel
theorem dX10_costOfAsking_24 : decode cX10_costOfAsking 24 = .ok (.ireturn, 1) := by decide +kernel
theorem dX10_unlike_0 : decode cX10_unlike 0 = .ok (.aload_n 0, 1) := by decide +kernel
theorem dX10_unlike_1 : decode cX10_unlike 1 = .ok (.iload_n 1, 1) := by decide +kernel
theorem dX10_unlike_2 : decode cX10_unlike 2 = .ok (.invokevirtual 182, 3) := by decide +kernel
theorem dX10_unlike_5 : decode cX10_unlike 5 = .ok (.ifCond .eq 11, 3) := by decide +kernel
theorem dX10_unlike_8 : decode cX10_unlike 8 = .ok (.aload_n 0, 1) := by decide +kernel
theorem dX10_unlike_9 : decode cX10_unlike 9 = .ok (.iload_n 2, 1) := by decide +kernel
theorem dX10_unlike_10 : decode cX10_unlike 10 = .ok (.invokevirtual 182, 3) := by decide +kernel
theorem dX10_unlike_13 : decode cX10_unlike 13 = .ok (.ifCond .ne 5, 3) := by decide +kernel
theorem dX10_unlike_16 : decode cX10_unlike 16 = .ok (.iconst (-1), 1) := by decide +kernel
theorem dX10_unlike_17 : decode cX10_unlike 17 = .ok (.ireturn, 1) := by decide +kernel
theorem dX10_unlike_18 : decode cX10_unlike 18 = .ok (.aload_n 0, 1) := by decide +kernel
theorem dX10_unlike_19 : decode cX10_unlike 19 = .ok (.getfield 44, 3) := by decide +kernel
theorem dX10_unlike_22 : decode cX10_unlike 22 = .ok (.aload_n 0, 1) := by decide +kernel
theorem dX10_unlike_23 : decode cX10_unlike 23 = .ok (.getfield 37, 3) := by decide +kernel
theorem dX10_unlike_26 : decode cX10_unlike 26 = .ok (.invokevirtual 191, 3) := by decide +kernel
theorem dX10_unlike_29 : decode cX10_unlike 29 = .ok (.ifCond .ne 6, 3) := by decide +kernel
theorem dX10_unlike_32 : decode cX10_unlike 32 = .ok (.bipush (-3), 2) := by decide +kernel
theorem dX10_unlike_34 : decode cX10_unlike 34 = .ok (.ireturn, 1) := by decide +kernel
theorem dX10_unlike_35 : decode cX10_unlike 35 = .ok (.aload_n 0, 1) := by decide +kernel
theorem dX10_unlike_36 : decode cX10_unlike 36 = .ok (.getfield 44, 3) := by decide +kernel
theorem dX10_unlike_39 : decode cX10_unlike 39 = .ok (.iload_n 1, 1) := by decide +kernel
theorem dX10_unlike_40 : decode cX10_unlike 40 = .ok (.invokevirtual 195, 3) := by decide +kernel
theorem dX10_unlike_43 : decode cX10_unlike 43 = .ok (.aload_n 0, 1) := by decide +kernel
theorem dX10_unlike_44 : decode cX10_unlike 44 = .ok (.getfield 44, 3) := by decide +kernel
theorem dX10_unlike_47 : decode cX10_unlike 47 = .ok (.iload_n 2, 1) := by decide +kernel
theorem dX10_unlike_48 : decode cX10_unlike 48 = .ok (.invokevirtual 195, 3) := by decide +kernel
theorem dX10_unlike_51 : decode cX10_unlike 51 = .ok (.iadd, 1) := by decide +kernel
theorem dX10_unlike_52 : decode cX10_unlike 52 = .ok (.iconst 2, 1) := by decide +kernel
theorem dX10_unlike_53 : decode cX10_unlike 53 = .ok (.aload_n 0, 1) := by decide +kernel
theorem dX10_unlike_54 : decode cX10_unlike 54 = .ok (.getfield 44, 3) := by decide +kernel
theorem dX10_unlike_57 : decode cX10_unlike 57 = .ok (.iload_n 1, 1) := by decide +kernel
theorem dX10_unlike_58 : decode cX10_unlike 58 = .ok (.iload_n 2, 1) := by decide +kernel
theorem dX10_unlike_59 : decode cX10_unlike 59 = .ok (.ior, 1) := by decide +kernel
theorem dX10_unlike_60 : decode cX10_unlike 60 = .ok (.invokevirtual 195, 3) := by decide +kernel
theorem dX10_unlike_63 : decode cX10_unlike 63 = .ok (.imul, 1) := by decide +kernel
theorem dX10_unlike_64 : decode cX10_unlike 64 = .ok (.isub, 1) := by decide +kernel
theorem dX10_unlike_65 : decode cX10_unlike 65 = .ok (.ireturn, 1) := by decide +kernel
theorem dX10_known_0 : decode cX10_known 0 = .ok (.aload_n 0, 1) := by decide +kernel
theorem dX10_known_1 : decode cX10_known 1 = .ok (.iload_n 1, 1) := by decide +kernel
theorem dX10_known_2 : decode cX10_known 2 = .ok (.invokevirtual 182, 3) := by decide +kernel
theorem dX10_known_5 : decode cX10_known 5 = .ok (.ifCond .eq 14, 3) := by decide +kernel
theorem dX10_known_8 : decode cX10_known 8 = .ok (.aload_n 0, 1) := by decide +kernel
theorem dX10_known_9 : decode cX10_known 9 = .ok (.getfield 10, 3) := by decide +kernel
theorem dX10_known_12 : decode cX10_known 12 = .ok (.iload_n 2, 1) := by decide +kernel
theorem dX10_known_13 : decode cX10_known 13 = .ok (.invokevirtual 251, 3) := by decide +kernel
theorem dX10_known_16 : decode cX10_known 16 = .ok (.ifCond .ne 5, 3) := by decide +kernel
theorem dX10_known_19 : decode cX10_known 19 = .ok (.iconst (-1), 1) := by decide +kernel
theorem dX10_known_20 : decode cX10_known 20 = .ok (.ireturn, 1) := by decide +kernel
theorem dX10_known_21 : decode cX10_known 21 = .ok (.aload_n 0, 1) := by decide +kernel
theorem dX10_known_22 : decode cX10_known 22 = .ok (.getfield 51, 3) := by decide +kernel
theorem dX10_known_25 : decode cX10_known 25 = .ok (.aload_n 0, 1) := by decide +kernel
theorem dX10_known_26 : decode cX10_known 26 = .ok (.getfield 37, 3) := by decide +kernel
theorem dX10_known_29 : decode cX10_known 29 = .ok (.iload_n 1, 1) := by decide +kernel
theorem dX10_known_30 : decode cX10_known 30 = .ok (.invokevirtual 254, 3) := by decide +kernel
theorem dX10_known_33 : decode cX10_known 33 = .ok (.ifCond .ne 6, 3) := by decide +kernel
theorem dX10_known_36 : decode cX10_known 36 = .ok (.bipush (-3), 2) := by decide +kernel
theorem dX10_known_38 : decode cX10_known 38 = .ok (.ireturn, 1) := by decide +kernel
theorem dX10_known_39 : decode cX10_known 39 = .ok (.aload_n 0, 1) := by decide +kernel
theorem dX10_known_40 : decode cX10_known 40 = .ok (.getfield 51, 3) := by decide +kernel
theorem dX10_known_43 : decode cX10_known 43 = .ok (.aload_n 0, 1) := by decide +kernel
theorem dX10_known_44 : decode cX10_known 44 = .ok (.getfield 10, 3) := by decide +kernel
theorem dX10_known_47 : decode cX10_known 47 = .ok (.getfield 138, 3) := by decide +kernel
theorem dX10_known_50 : decode cX10_known 50 = .ok (.bipush 10, 2) := by decide +kernel
theorem dX10_known_52 : decode cX10_known 52 = .ok (.iload_n 2, 1) := by decide +kernel
theorem dX10_known_53 : decode cX10_known 53 = .ok (.iadd, 1) := by decide +kernel
theorem dX10_known_54 : decode cX10_known 54 = .ok (.aaload, 1) := by decide +kernel
theorem dX10_known_55 : decode cX10_known 55 = .ok (.invokevirtual 258, 3) := by decide +kernel
theorem dX10_known_58 : decode cX10_known 58 = .ok (.aload_n 0, 1) := by decide +kernel
theorem dX10_known_59 : decode cX10_known 59 = .ok (.getfield 51, 3) := by decide +kernel
theorem dX10_known_62 : decode cX10_known 62 = .ok (.invokevirtual 262, 3) := by decide +kernel
theorem dX10_known_65 : decode cX10_known 65 = .ok (.ireturn, 1) := by decide +kernel
theorem dX10_often_0 : decode cX10_often 0 = .ok (.aload_n 0, 1) := by decide +kernel
theorem dX10_often_1 : decode cX10_often 1 = .ok (.iload_n 1, 1) := by decide +kernel
theorem dX10_often_2 : decode cX10_often 2 = .ok (.invokevirtual 182, 3) := by decide +kernel
theorem dX10_often_5 : decode cX10_often 5 = .ok (.ifCond .eq 23, 3) := by decide +kernel
theorem dX10_often_8 : decode cX10_often 8 = .ok (.aload_n 0, 1) := by decide +kernel
theorem dX10_often_9 : decode cX10_often 9 = .ok (.getfield 10, 3) := by decide +kernel
theorem dX10_often_12 : decode cX10_often 12 = .ok (.iload_n 2, 1) := by decide +kernel
theorem dX10_often_13 : decode cX10_often 13 = .ok (.invokevirtual 251, 3) := by decide +kernel
theorem dX10_often_16 : decode cX10_often 16 = .ok (.ifCond .eq 12, 3) := by decide +kernel
theorem dX10_often_19 : decode cX10_often 19 = .ok (.iload_n 3, 1) := by decide +kernel
theorem dX10_often_20 : decode cX10_often 20 = .ok (.ifCond .lt 8, 3) := by decide +kernel
theorem dX10_often_23 : decode cX10_often 23 = .ok (.iload_n 3, 1) := by decide +kernel
theorem dX10_often_24 : decode cX10_often 24 = .ok (.iconst 2, 1) := by decide +kernel
theorem dX10_often_25 : decode cX10_often 25 = .ok (.if_icmp .le 5, 3) := by decide +kernel
theorem dX10_often_28 : decode cX10_often 28 = .ok (.iconst (-1), 1) := by decide +kernel
theorem dX10_often_29 : decode cX10_often 29 = .ok (.ireturn, 1) := by decide +kernel
theorem dX10_often_30 : decode cX10_often 30 = .ok (.aload_n 0, 1) := by decide +kernel
theorem dX10_often_31 : decode cX10_often 31 = .ok (.getfield 51, 3) := by decide +kernel
theorem dX10_often_34 : decode cX10_often 34 = .ok (.aload_n 0, 1) := by decide +kernel
theorem dX10_often_35 : decode cX10_often 35 = .ok (.getfield 37, 3) := by decide +kernel
theorem dX10_often_38 : decode cX10_often 38 = .ok (.iload_n 1, 1) := by decide +kernel
theorem dX10_often_39 : decode cX10_often 39 = .ok (.invokevirtual 254, 3) := by decide +kernel
theorem dX10_often_42 : decode cX10_often 42 = .ok (.ifCond .ne 6, 3) := by decide +kernel
theorem dX10_often_45 : decode cX10_often 45 = .ok (.bipush (-3), 2) := by decide +kernel
theorem dX10_often_47 : decode cX10_often 47 = .ok (.ireturn, 1) := by decide +kernel
theorem dX10_often_48 : decode cX10_often 48 = .ok (.aload_n 0, 1) := by decide +kernel
theorem dX10_often_49 : decode cX10_often 49 = .ok (.getfield 51, 3) := by decide +kernel
theorem dX10_often_52 : decode cX10_often 52 = .ok (.aload_n 0, 1) := by decide +kernel
theorem dX10_often_53 : decode cX10_often 53 = .ok (.getfield 10, 3) := by decide +kernel
theorem dX10_often_56 : decode cX10_often 56 = .ok (.getfield 138, 3) := by decide +kernel
theorem dX10_often_59 : decode cX10_often 59 = .ok (.bipush 10, 2) := by decide +kernel
theorem dX10_often_61 : decode cX10_often 61 = .ok (.iload_n 2, 1) := by decide +kernel
theorem dX10_often_62 : decode cX10_often 62 = .ok (.iadd, 1) := by decide +kernel
theorem dX10_often_63 : decode cX10_often 63 = .ok (.aaload, 1) := by decide +kernel
theorem dX10_often_64 : decode cX10_often 64 = .ok (.invokevirtual 258, 3) := by decide +kernel
theorem dX10_often_67 : decode cX10_often 67 = .ok (.aload_n 0, 1) := by decide +kernel
theorem dX10_often_68 : decode cX10_often 68 = .ok (.getfield 51, 3) := by decide +kernel
theorem dX10_often_71 : decode cX10_often 71 = .ok (.invokevirtual 265, 3) := by decide +kernel
theorem dX10_often_74 : decode cX10_often 74 = .ok (.iload_n 3, 1) := by decide +kernel
theorem dX10_often_75 : decode cX10_often 75 = .ok (.ifCond .ne 11, 3) := by decide +kernel
theorem dX10_often_78 : decode cX10_often 78 = .ok (.aload_n 0, 1) := by decide +kernel
theorem dX10_often_79 : decode cX10_often 79 = .ok (.getfield 51, 3) := by decide +kernel
theorem dX10_often_82 : decode cX10_often 82 = .ok (.getfield 268, 3) := by decide +kernel
theorem dX10_often_85 : decode cX10_often 85 = .ok (.ireturn, 1) := by decide +kernel
theorem dX10_often_86 : decode cX10_often 86 = .ok (.iload_n 3, 1) := by decide +kernel
theorem dX10_often_87 : decode cX10_often 87 = .ok (.iconst 1, 1) := by decide +kernel
theorem dX10_often_88 : decode cX10_often 88 = .ok (.if_icmp .ne 11, 3) := by decide +kernel
theorem dX10_often_91 : decode cX10_often 91 = .ok (.aload_n 0, 1) := by decide +kernel
theorem dX10_often_92 : decode cX10_often 92 = .ok (.getfield 51, 3) := by decide +kernel
theorem dX10_often_95 : decode cX10_often 95 = .ok (.getfield 271, 3) := by decide +kernel
theorem dX10_often_98 : decode cX10_often 98 = .ok (.ireturn, 1) := by decide +kernel
theorem dX10_often_99 : decode cX10_often 99 = .ok (.aload_n 0, 1) := by decide +kernel
theorem dX10_often_100 : decode cX10_often 100 = .ok (.getfield 51, 3) := by decide +kernel
theorem dX10_often_103 : decode cX10_often 103 = .ok (.getfield 274, 3) := by decide +kernel
theorem dX10_often_106 : decode cX10_often 106 = .ok (.ifCond .ne 8, 3) := by decide +kernel
theorem dX10_often_109 : decode cX10_often 109 = .ok (.bipush (-2), 2) := by decide +kernel
theorem dX10_often_111 : decode cX10_often 111 = .ok (.goto 10, 3) := by decide +kernel
theorem dX10_often_114 : decode cX10_often 114 = .ok (.aload_n 0, 1) := by decide +kernel
theorem dX10_often_115 : decode cX10_often 115 = .ok (.getfield 51, 3) := by decide +kernel
theorem dX10_often_118 : decode cX10_often 118 = .ok (.getfield 277, 3) := by decide +kernel
theorem dX10_often_121 : decode cX10_often 121 = .ok (.ireturn, 1) := by decide +kernel
theorem dX10_sayings_0 : decode cX10_sayings 0 = .ok (.aload_n 0, 1) := by decide +kernel
theorem dX10_sayings_1 : decode cX10_sayings 1 = .ok (.iload_n 1, 1) := by decide +kernel
theorem dX10_sayings_2 : decode cX10_sayings 2 = .ok (.invokevirtual 182, 3) := by decide +kernel
theorem dX10_sayings_5 : decode cX10_sayings 5 = .ok (.ifCond .eq 30, 3) := by decide +kernel
theorem dX10_sayings_8 : decode cX10_sayings 8 = .ok (.iload_n 3, 1) := by decide +kernel
theorem dX10_sayings_9 : decode cX10_sayings 9 = .ok (.bipush 100, 2) := by decide +kernel
theorem dX10_sayings_11 : decode cX10_sayings 11 = .ok (.if_icmp .eq 14, 3) := by decide +kernel
theorem dX10_sayings_14 : decode cX10_sayings 14 = .ok (.aload_n 0, 1) := by decide +kernel
theorem dX10_sayings_15 : decode cX10_sayings 15 = .ok (.getfield 10, 3) := by decide +kernel
theorem dX10_sayings_18 : decode cX10_sayings 18 = .ok (.iload_n 3, 1) := by decide +kernel
theorem dX10_sayings_19 : decode cX10_sayings 19 = .ok (.invokevirtual 106, 3) := by decide +kernel
theorem dX10_sayings_22 : decode cX10_sayings 22 = .ok (.ifCond .eq 13, 3) := by decide +kernel
theorem dX10_sayings_25 : decode cX10_sayings 25 = .ok (.aload_n 0, 1) := by decide +kernel
theorem dX10_sayings_26 : decode cX10_sayings 26 = .ok (.iload_n 2, 1) := by decide +kernel
theorem dX10_sayings_27 : decode cX10_sayings 27 = .ok (.bipush 20, 2) := by decide +kernel
theorem dX10_sayings_29 : decode cX10_sayings 29 = .ok (.invokevirtual 120, 3) := by decide +kernel
theorem dX10_sayings_32 : decode cX10_sayings 32 = .ok (.ifCond .ne 5, 3) := by decide +kernel
theorem dX10_sayings_35 : decode cX10_sayings 35 = .ok (.iconst (-1), 1) := by decide +kernel
theorem dX10_sayings_36 : decode cX10_sayings 36 = .ok (.ireturn, 1) := by decide +kernel
theorem dX10_sayings_37 : decode cX10_sayings 37 = .ok (.aload_n 0, 1) := by decide +kernel
theorem dX10_sayings_38 : decode cX10_sayings 38 = .ok (.iconst 0, 1) := by decide +kernel
theorem dX10_sayings_39 : decode cX10_sayings 39 = .ok (.putfield 113, 3) := by decide +kernel
theorem dX10_sayings_42 : decode cX10_sayings 42 = .ok (.aload_n 0, 1) := by decide +kernel
theorem dX10_sayings_43 : decode cX10_sayings 43 = .ok (.iload_n 2, 1) := by decide +kernel
theorem dX10_sayings_44 : decode cX10_sayings 44 = .ok (.invokevirtual 280, 3) := by decide +kernel
theorem dX10_sayings_47 : decode cX10_sayings 47 = .ok (.istore 4, 2) := by decide +kernel
theorem dX10_sayings_49 : decode cX10_sayings 49 = .ok (.iload 4, 2) := by decide +kernel
theorem dX10_sayings_51 : decode cX10_sayings 51 = .ok (.ifCond .ge 6, 3) := by decide +kernel
theorem dX10_sayings_54 : decode cX10_sayings 54 = .ok (.iload 4, 2) := by decide +kernel
theorem dX10_sayings_56 : decode cX10_sayings 56 = .ok (.ireturn, 1) := by decide +kernel
theorem dX10_sayings_57 : decode cX10_sayings 57 = .ok (.aload_n 0, 1) := by decide +kernel
theorem dX10_sayings_58 : decode cX10_sayings 58 = .ok (.getfield 51, 3) := by decide +kernel
theorem dX10_sayings_61 : decode cX10_sayings 61 = .ok (.aload_n 0, 1) := by decide +kernel
theorem dX10_sayings_62 : decode cX10_sayings 62 = .ok (.getfield 37, 3) := by decide +kernel
theorem dX10_sayings_65 : decode cX10_sayings 65 = .ok (.iload_n 1, 1) := by decide +kernel
theorem dX10_sayings_66 : decode cX10_sayings 66 = .ok (.invokevirtual 254, 3) := by decide +kernel
theorem dX10_sayings_69 : decode cX10_sayings 69 = .ok (.ifCond .ne 6, 3) := by decide +kernel
theorem dX10_sayings_72 : decode cX10_sayings 72 = .ok (.bipush (-3), 2) := by decide +kernel
theorem dX10_sayings_74 : decode cX10_sayings 74 = .ok (.ireturn, 1) := by decide +kernel
theorem dX10_sayings_75 : decode cX10_sayings 75 = .ok (.iconst 0, 1) := by decide +kernel
theorem dX10_sayings_76 : decode cX10_sayings 76 = .ok (.istore 5, 2) := by decide +kernel
theorem dX10_sayings_78 : decode cX10_sayings 78 = .ok (.iload 5, 2) := by decide +kernel
theorem dX10_sayings_80 : decode cX10_sayings 80 = .ok (.iconst 1, 1) := by decide +kernel
theorem dX10_sayings_81 : decode cX10_sayings 81 = .ok (.iadd, 1) := by decide +kernel
theorem dX10_sayings_82 : decode cX10_sayings 82 = .ok (.iload_n 2, 1) := by decide +kernel
theorem dX10_sayings_83 : decode cX10_sayings 83 = .ok (.if_icmp .ge 79, 3) := by decide +kernel
theorem dX10_sayings_86 : decode cX10_sayings 86 = .ok (.aload_n 0, 1) := by decide +kernel
theorem dX10_sayings_87 : decode cX10_sayings 87 = .ok (.getfield 19, 3) := by decide +kernel
theorem dX10_sayings_90 : decode cX10_sayings 90 = .ok (.iload 5, 2) := by decide +kernel
theorem dX10_sayings_92 : decode cX10_sayings 92 = .ok (.iaload, 1) := by decide +kernel
theorem dX10_sayings_93 : decode cX10_sayings 93 = .ok (.bipush 65, 2) := by decide +kernel
theorem dX10_sayings_95 : decode cX10_sayings 95 = .ok (.isub, 1) := by decide +kernel
theorem dX10_sayings_96 : decode cX10_sayings 96 = .ok (.istore 6, 2) := by decide +kernel
theorem dX10_sayings_98 : decode cX10_sayings 98 = .ok (.aload_n 0, 1) := by decide +kernel
theorem dX10_sayings_99 : decode cX10_sayings 99 = .ok (.getfield 10, 3) := by decide +kernel
theorem dX10_sayings_102 : decode cX10_sayings 102 = .ok (.iload 6, 2) := by decide +kernel
theorem dX10_sayings_104 : decode cX10_sayings 104 = .ok (.invokevirtual 251, 3) := by decide +kernel
theorem dX10_sayings_107 : decode cX10_sayings 107 = .ok (.ifCond .eq 49, 3) := by decide +kernel
theorem dX10_sayings_110 : decode cX10_sayings 110 = .ok (.aload_n 0, 1) := by decide +kernel
theorem dX10_sayings_111 : decode cX10_sayings 111 = .ok (.getfield 51, 3) := by decide +kernel
theorem dX10_sayings_114 : decode cX10_sayings 114 = .ok (.aload_n 0, 1) := by decide +kernel
theorem dX10_sayings_115 : decode cX10_sayings 115 = .ok (.getfield 10, 3) := by decide +kernel
theorem dX10_sayings_118 : decode cX10_sayings 118 = .ok (.getfield 138, 3) := by decide +kernel
theorem dX10_sayings_121 : decode cX10_sayings 121 = .ok (.bipush 10, 2) := by decide +kernel
theorem dX10_sayings_123 : decode cX10_sayings 123 = .ok (.iload 6, 2) := by decide +kernel
theorem dX10_sayings_125 : decode cX10_sayings 125 = .ok (.iadd, 1) := by decide +kernel
theorem dX10_sayings_126 : decode cX10_sayings 126 = .ok (.aaload, 1) := by decide +kernel
theorem dX10_sayings_127 : decode cX10_sayings 127 = .ok (.invokevirtual 258, 3) := by decide +kernel
theorem dX10_sayings_130 : decode cX10_sayings 130 = .ok (.aload_n 0, 1) := by decide +kernel
theorem dX10_sayings_131 : decode cX10_sayings 131 = .ok (.getfield 51, 3) := by decide +kernel
theorem dX10_sayings_134 : decode cX10_sayings 134 = .ok (.aload_n 0, 1) := by decide +kernel
theorem dX10_sayings_135 : decode cX10_sayings 135 = .ok (.getfield 19, 3) := by decide +kernel
theorem dX10_sayings_138 : decode cX10_sayings 138 = .ok (.iload 5, 2) := by decide +kernel
theorem dX10_sayings_140 : decode cX10_sayings 140 = .ok (.iconst 1, 1) := by decide +kernel
theorem dX10_sayings_141 : decode cX10_sayings 141 = .ok (.iadd, 1) := by decide +kernel
theorem dX10_sayings_142 : decode cX10_sayings 142 = .ok (.iaload, 1) := by decide +kernel
theorem dX10_sayings_143 : decode cX10_sayings 143 = .ok (.bipush 43, 2) := by decide +kernel
theorem dX10_sayings_145 : decode cX10_sayings 145 = .ok (.if_icmp .ne 7, 3) := by decide +kernel
theorem dX10_sayings_148 : decode cX10_sayings 148 = .ok (.iconst 1, 1) := by decide +kernel
theorem dX10_sayings_149 : decode cX10_sayings 149 = .ok (.goto 4, 3) := by decide +kernel
theorem dX10_sayings_152 : decode cX10_sayings 152 = .ok (.iconst 0, 1) := by decide +kernel
theorem dX10_sayings_153 : decode cX10_sayings 153 = .ok (.invokevirtual 283, 3) := by decide +kernel
theorem dX10_sayings_156 : decode cX10_sayings 156 = .ok (.iinc 5 2, 3) := by decide +kernel
theorem dX10_sayings_159 : decode cX10_sayings 159 = .ok (.goto (-81), 3) := by decide +kernel
theorem dX10_sayings_162 : decode cX10_sayings 162 = .ok (.iload_n 3, 1) := by decide +kernel
theorem dX10_sayings_163 : decode cX10_sayings 163 = .ok (.bipush 100, 2) := by decide +kernel
theorem dX10_sayings_165 : decode cX10_sayings 165 = .ok (.if_icmp .ne 11, 3) := by decide +kernel
theorem dX10_sayings_168 : decode cX10_sayings 168 = .ok (.aload_n 0, 1) := by decide +kernel
theorem dX10_sayings_169 : decode cX10_sayings 169 = .ok (.getfield 51, 3) := by decide +kernel
theorem dX10_sayings_172 : decode cX10_sayings 172 = .ok (.getfield 274, 3) := by decide +kernel
theorem dX10_sayings_175 : decode cX10_sayings 175 = .ok (.ireturn, 1) := by decide +kernel
theorem dX10_sayings_176 : decode cX10_sayings 176 = .ok (.aload_n 0, 1) := by decide +kernel
theorem dX10_sayings_177 : decode cX10_sayings 177 = .ok (.getfield 51, 3) := by decide +kernel
theorem dX10_sayings_180 : decode cX10_sayings 180 = .ok (.getfield 274, 3) := by decide +kernel
theorem dX10_sayings_183 : decode cX10_sayings 183 = .ok (.ifCond .ne 8, 3) := by decide +kernel
theorem dX10_sayings_186 : decode cX10_sayings 186 = .ok (.bipush (-2), 2) := by decide +kernel
theorem dX10_sayings_188 : decode cX10_sayings 188 = .ok (.goto 12, 3) := by decide +kernel
theorem dX10_sayings_191 : decode cX10_sayings 191 = .ok (.aload_n 0, 1) := by decide +kernel
theorem dX10_sayings_192 : decode cX10_sayings 192 = .ok (.getfield 51, 3) := by decide +kernel
theorem dX10_sayings_195 : decode cX10_sayings 195 = .ok (.getfield 287, 3) := by decide +kernel
theorem dX10_sayings_198 : decode cX10_sayings 198 = .ok (.iload_n 3, 1) := by decide +kernel
theorem dX10_sayings_199 : decode cX10_sayings 199 = .ok (.iaload, 1) := by decide +kernel
theorem dX10_sayings_200 : decode cX10_sayings 200 = .ok (.ireturn, 1) := by decide +kernel
theorem dX10_faultOfSayings_0 : decode cX10_faultOfSayings 0 = .ok (.iconst 0, 1) := by decide +kernel
theorem dX10_faultOfSayings_1 : decode cX10_faultOfSayings 1 = .ok (.istore_n 2, 1) := by decide +kernel
theorem dX10_faultOfSayings_2 : decode cX10_faultOfSayings 2 = .ok (.iload_n 2, 1) := by decide +kernel
theorem dX10_faultOfSayings_3 : decode cX10_faultOfSayings 3 = .ok (.iload_n 1, 1) := by decide +kernel
theorem dX10_faultOfSayings_4 : decode cX10_faultOfSayings 4 = .ok (.if_icmp .ge 105, 3) := by decide +kernel
theorem dX10_faultOfSayings_7 : decode cX10_faultOfSayings 7 = .ok (.iload_n 2, 1) := by decide +kernel
theorem dX10_faultOfSayings_8 : decode cX10_faultOfSayings 8 = .ok (.sipush 260, 3) := by decide +kernel
theorem dX10_faultOfSayings_11 : decode cX10_faultOfSayings 11 = .ok (.if_icmp .ge 98, 3) := by decide +kernel
theorem dX10_faultOfSayings_14 : decode cX10_faultOfSayings 14 = .ok (.aload_n 0, 1) := by decide +kernel
theorem dX10_faultOfSayings_15 : decode cX10_faultOfSayings 15 = .ok (.getfield 19, 3) := by decide +kernel
theorem dX10_faultOfSayings_18 : decode cX10_faultOfSayings 18 = .ok (.iload_n 2, 1) := by decide +kernel
theorem dX10_faultOfSayings_19 : decode cX10_faultOfSayings 19 = .ok (.iaload, 1) := by decide +kernel
theorem dX10_faultOfSayings_20 : decode cX10_faultOfSayings 20 = .ok (.istore_n 3, 1) := by decide +kernel
theorem dX10_faultOfSayings_21 : decode cX10_faultOfSayings 21 = .ok (.iload_n 2, 1) := by decide +kernel
theorem dX10_faultOfSayings_22 : decode cX10_faultOfSayings 22 = .ok (.iconst 2, 1) := by decide +kernel
theorem dX10_faultOfSayings_23 : decode cX10_faultOfSayings 23 = .ok (.irem, 1) := by decide +kernel
theorem dX10_faultOfSayings_24 : decode cX10_faultOfSayings 24 = .ok (.ifCond .ne 23, 3) := by decide +kernel
theorem dX10_faultOfSayings_27 : decode cX10_faultOfSayings 27 = .ok (.iload_n 3, 1) := by decide +kernel
theorem dX10_faultOfSayings_28 : decode cX10_faultOfSayings 28 = .ok (.bipush 65, 2) := by decide +kernel
theorem dX10_faultOfSayings_30 : decode cX10_faultOfSayings 30 = .ok (.if_icmp .lt 13, 3) := by decide +kernel
theorem dX10_faultOfSayings_33 : decode cX10_faultOfSayings 33 = .ok (.iload_n 3, 1) := by decide +kernel
theorem dX10_faultOfSayings_34 : decode cX10_faultOfSayings 34 = .ok (.bipush 70, 2) := by decide +kernel
theorem dX10_faultOfSayings_36 : decode cX10_faultOfSayings 36 = .ok (.if_icmp .gt 7, 3) := by decide +kernel
theorem dX10_faultOfSayings_39 : decode cX10_faultOfSayings 39 = .ok (.iconst 1, 1) := by decide +kernel
theorem dX10_faultOfSayings_40 : decode cX10_faultOfSayings 40 = .ok (.goto 24, 3) := by decide +kernel
theorem dX10_faultOfSayings_43 : decode cX10_faultOfSayings 43 = .ok (.iconst 0, 1) := by decide +kernel
theorem dX10_faultOfSayings_44 : decode cX10_faultOfSayings 44 = .ok (.goto 20, 3) := by decide +kernel
theorem dX10_faultOfSayings_47 : decode cX10_faultOfSayings 47 = .ok (.iload_n 3, 1) := by decide +kernel
theorem dX10_faultOfSayings_48 : decode cX10_faultOfSayings 48 = .ok (.bipush 43, 2) := by decide +kernel
theorem dX10_faultOfSayings_50 : decode cX10_faultOfSayings 50 = .ok (.if_icmp .eq 9, 3) := by decide +kernel
theorem dX10_faultOfSayings_53 : decode cX10_faultOfSayings 53 = .ok (.iload_n 3, 1) := by decide +kernel
theorem dX10_faultOfSayings_54 : decode cX10_faultOfSayings 54 = .ok (.bipush 45, 2) := by decide +kernel
theorem dX10_faultOfSayings_56 : decode cX10_faultOfSayings 56 = .ok (.if_icmp .ne 7, 3) := by decide +kernel
theorem dX10_faultOfSayings_59 : decode cX10_faultOfSayings 59 = .ok (.iconst 1, 1) := by decide +kernel
theorem dX10_faultOfSayings_60 : decode cX10_faultOfSayings 60 = .ok (.goto 4, 3) := by decide +kernel
theorem dX10_faultOfSayings_63 : decode cX10_faultOfSayings 63 = .ok (.iconst 0, 1) := by decide +kernel
theorem dX10_faultOfSayings_64 : decode cX10_faultOfSayings 64 = .ok (.istore 4, 2) := by decide +kernel
theorem dX10_faultOfSayings_66 : decode cX10_faultOfSayings 66 = .ok (.iload 4, 2) := by decide +kernel
theorem dX10_faultOfSayings_68 : decode cX10_faultOfSayings 68 = .ok (.ifCond .ne 9, 3) := by decide +kernel
theorem dX10_faultOfSayings_71 : decode cX10_faultOfSayings 71 = .ok (.sipush (-1000), 3) := by decide +kernel
theorem dX10_faultOfSayings_74 : decode cX10_faultOfSayings 74 = .ok (.iload_n 2, 1) := by decide +kernel
theorem dX10_faultOfSayings_75 : decode cX10_faultOfSayings 75 = .ok (.isub, 1) := by decide +kernel
theorem dX10_faultOfSayings_76 : decode cX10_faultOfSayings 76 = .ok (.ireturn, 1) := by decide +kernel
theorem dX10_faultOfSayings_77 : decode cX10_faultOfSayings 77 = .ok (.iload_n 2, 1) := by decide +kernel
theorem dX10_faultOfSayings_78 : decode cX10_faultOfSayings 78 = .ok (.iconst 2, 1) := by decide +kernel
theorem dX10_faultOfSayings_79 : decode cX10_faultOfSayings 79 = .ok (.irem, 1) := by decide +kernel
theorem dX10_faultOfSayings_80 : decode cX10_faultOfSayings 80 = .ok (.ifCond .ne 23, 3) := by decide +kernel
theorem dX10_faultOfSayings_83 : decode cX10_faultOfSayings 83 = .ok (.aload_n 0, 1) := by decide +kernel
theorem dX10_faultOfSayings_84 : decode cX10_faultOfSayings 84 = .ok (.getfield 10, 3) := by decide +kernel
theorem dX10_faultOfSayings_87 : decode cX10_faultOfSayings 87 = .ok (.iload_n 3, 1) := by decide +kernel
theorem dX10_faultOfSayings_88 : decode cX10_faultOfSayings 88 = .ok (.bipush 65, 2) := by decide +kernel
theorem dX10_faultOfSayings_90 : decode cX10_faultOfSayings 90 = .ok (.isub, 1) := by decide +kernel
theorem dX10_faultOfSayings_91 : decode cX10_faultOfSayings 91 = .ok (.invokevirtual 251, 3) := by decide +kernel
theorem dX10_faultOfSayings_94 : decode cX10_faultOfSayings 94 = .ok (.ifCond .ne 9, 3) := by decide +kernel
theorem dX10_faultOfSayings_97 : decode cX10_faultOfSayings 97 = .ok (.sipush (-7000), 3) := by decide +kernel
theorem dX10_faultOfSayings_100 : decode cX10_faultOfSayings 100 = .ok (.iload_n 2, 1) := by decide +kernel
theorem dX10_faultOfSayings_101 : decode cX10_faultOfSayings 101 = .ok (.isub, 1) := by decide +kernel
theorem dX10_faultOfSayings_102 : decode cX10_faultOfSayings 102 = .ok (.ireturn, 1) := by decide +kernel
theorem dX10_faultOfSayings_103 : decode cX10_faultOfSayings 103 = .ok (.iinc 2 1, 3) := by decide +kernel
theorem dX10_faultOfSayings_106 : decode cX10_faultOfSayings 106 = .ok (.goto (-104), 3) := by decide +kernel
theorem dX10_faultOfSayings_109 : decode cX10_faultOfSayings 109 = .ok (.iload_n 1, 1) := by decide +kernel
theorem dX10_faultOfSayings_110 : decode cX10_faultOfSayings 110 = .ok (.iconst 2, 1) := by decide +kernel
theorem dX10_faultOfSayings_111 : decode cX10_faultOfSayings 111 = .ok (.irem, 1) := by decide +kernel
theorem dX10_faultOfSayings_112 : decode cX10_faultOfSayings 112 = .ok (.ifCond .ne 7, 3) := by decide +kernel
theorem dX10_faultOfSayings_115 : decode cX10_faultOfSayings 115 = .ok (.iconst 0, 1) := by decide +kernel
theorem dX10_faultOfSayings_116 : decode cX10_faultOfSayings 116 = .ok (.goto 8, 3) := by decide +kernel
theorem dX10_faultOfSayings_119 : decode cX10_faultOfSayings 119 = .ok (.sipush (-1000), 3) := by decide +kernel
theorem dX10_faultOfSayings_122 : decode cX10_faultOfSayings 122 = .ok (.iload_n 1, 1) := by decide +kernel
theorem dX10_faultOfSayings_123 : decode cX10_faultOfSayings 123 = .ok (.isub, 1) := by decide +kernel
theorem dX10_faultOfSayings_124 : decode cX10_faultOfSayings 124 = .ok (.ireturn, 1) := by decide +kernel
theorem dX10_between_0 : decode cX10_between 0 = .ok (.aload_n 0, 1) := by decide +kernel
theorem dX10_between_1 : decode cX10_between 1 = .ok (.iload_n 1, 1) := by decide +kernel
theorem dX10_between_2 : decode cX10_between 2 = .ok (.invokevirtual 182, 3) := by decide +kernel
theorem dX10_between_5 : decode cX10_between 5 = .ok (.ifCond .eq 34, 3) := by decide +kernel
theorem dX10_between_8 : decode cX10_between 8 = .ok (.aload_n 0, 1) := by decide +kernel
theorem dX10_between_9 : decode cX10_between 9 = .ok (.getfield 10, 3) := by decide +kernel
theorem dX10_between_12 : decode cX10_between 12 = .ok (.iload_n 2, 1) := by decide +kernel
theorem dX10_between_13 : decode cX10_between 13 = .ok (.invokevirtual 251, 3) := by decide +kernel
theorem dX10_between_16 : decode cX10_between 16 = .ok (.ifCond .eq 23, 3) := by decide +kernel
theorem dX10_between_19 : decode cX10_between 19 = .ok (.iload_n 3, 1) := by decide +kernel
theorem dX10_between_20 : decode cX10_between 20 = .ok (.ifCond .lt 19, 3) := by decide +kernel
theorem dX10_between_23 : decode cX10_between 23 = .ok (.iload_n 3, 1) := by decide +kernel
theorem dX10_between_24 : decode cX10_between 24 = .ok (.iconst 1, 1) := by decide +kernel
theorem dX10_between_25 : decode cX10_between 25 = .ok (.if_icmp .gt 14, 3) := by decide +kernel
theorem dX10_between_28 : decode cX10_between 28 = .ok (.aload_n 0, 1) := by decide +kernel
theorem dX10_between_29 : decode cX10_between 29 = .ok (.getfield 37, 3) := by decide +kernel
theorem dX10_between_32 : decode cX10_between 32 = .ok (.iload_n 1, 1) := by decide +kernel
theorem dX10_between_33 : decode cX10_between 33 = .ok (.invokevirtual 201, 3) := by decide +kernel
theorem dX10_between_36 : decode cX10_between 36 = .ok (.ifCond .ne 5, 3) := by decide +kernel
theorem dX10_between_39 : decode cX10_between 39 = .ok (.iconst 0, 1) := by decide +kernel
theorem dX10_between_40 : decode cX10_between 40 = .ok (.ireturn, 1) := by decide +kernel
theorem dX10_between_41 : decode cX10_between 41 = .ok (.aload_n 0, 1) := by decide +kernel
theorem dX10_between_42 : decode cX10_between 42 = .ok (.getfield 10, 3) := by decide +kernel
theorem dX10_between_45 : decode cX10_between 45 = .ok (.getfield 138, 3) := by decide +kernel
theorem dX10_between_48 : decode cX10_between 48 = .ok (.bipush 10, 2) := by decide +kernel
theorem dX10_between_50 : decode cX10_between 50 = .ok (.iload_n 2, 1) := by decide +kernel
theorem dX10_between_51 : decode cX10_between 51 = .ok (.iadd, 1) := by decide +kernel
theorem dX10_between_52 : decode cX10_between 52 = .ok (.aaload, 1) := by decide +kernel
theorem dX10_between_53 : decode cX10_between 53 = .ok (.astore 4, 2) := by decide +kernel
theorem dX10_between_55 : decode cX10_between 55 = .ok (.iconst 0, 1) := by decide +kernel
theorem dX10_between_56 : decode cX10_between 56 = .ok (.istore 5, 2) := by decide +kernel
theorem dX10_between_58 : decode cX10_between 58 = .ok (.iconst 0, 1) := by decide +kernel
theorem dX10_between_59 : decode cX10_between 59 = .ok (.istore 6, 2) := by decide +kernel
theorem dX10_between_61 : decode cX10_between 61 = .ok (.iconst 0, 1) := by decide +kernel
theorem dX10_between_62 : decode cX10_between 62 = .ok (.istore 7, 2) := by decide +kernel
theorem dX10_between_64 : decode cX10_between 64 = .ok (.iload 7, 2) := by decide +kernel
theorem dX10_between_66 : decode cX10_between 66 = .ok (.ldc 210, 2) := by decide +kernel
theorem dX10_between_68 : decode cX10_between 68 = .ok (.if_icmp .ge 66, 3) := by decide +kernel
theorem dX10_between_71 : decode cX10_between 71 = .ok (.aload_n 0, 1) := by decide +kernel
theorem dX10_between_72 : decode cX10_between 72 = .ok (.getfield 37, 3) := by decide +kernel
theorem dX10_between_75 : decode cX10_between 75 = .ok (.invokevirtual 211, 3) := by decide +kernel
theorem dX10_between_78 : decode cX10_between 78 = .ok (.ifCond .eq 56, 3) := by decide +kernel
theorem dX10_between_81 : decode cX10_between 81 = .ok (.aload 4, 2) := by decide +kernel
theorem dX10_between_83 : decode cX10_between 83 = .ok (.aload_n 0, 1) := by decide +kernel
theorem dX10_between_84 : decode cX10_between 84 = .ok (.getfield 37, 3) := by decide +kernel
theorem dX10_between_87 : decode cX10_between 87 = .ok (.getfield 188, 3) := by decide +kernel
theorem dX10_between_90 : decode cX10_between 90 = .ok (.invokevirtual 290, 3) := by decide +kernel
theorem dX10_between_93 : decode cX10_between 93 = .ok (.istore 8, 2) := by decide +kernel
theorem dX10_between_95 : decode cX10_between 95 = .ok (.iload 6, 2) := by decide +kernel
theorem dX10_between_97 : decode cX10_between 97 = .ok (.ifCond .eq 24, 3) := by decide +kernel
theorem dX10_between_100 : decode cX10_between 100 = .ok (.iload_n 3, 1) := by decide +kernel
theorem dX10_between_101 : decode cX10_between 101 = .ok (.ifCond .ne 13, 3) := by decide +kernel
theorem dX10_between_104 : decode cX10_between 104 = .ok (.iload 8, 2) := by decide +kernel
theorem dX10_between_106 : decode cX10_between 106 = .ok (.iload 5, 2) := by decide +kernel
theorem dX10_between_108 : decode cX10_between 108 = .ok (.if_icmp .ge 17, 3) := by decide +kernel
theorem dX10_between_111 : decode cX10_between 111 = .ok (.goto 10, 3) := by decide +kernel
theorem dX10_between_114 : decode cX10_between 114 = .ok (.iload 8, 2) := by decide +kernel
theorem dX10_between_116 : decode cX10_between 116 = .ok (.iload 5, 2) := by decide +kernel
theorem dX10_between_118 : decode cX10_between 118 = .ok (.if_icmp .le 7, 3) := by decide +kernel
theorem dX10_between_121 : decode cX10_between 121 = .ok (.iload 8, 2) := by decide +kernel
theorem dX10_between_123 : decode cX10_between 123 = .ok (.istore 5, 2) := by decide +kernel
theorem dX10_between_125 : decode cX10_between 125 = .ok (.iconst 1, 1) := by decide +kernel
theorem dX10_between_126 : decode cX10_between 126 = .ok (.istore 6, 2) := by decide +kernel
theorem dX10_between_128 : decode cX10_between 128 = .ok (.iinc 7 1, 3) := by decide +kernel
theorem dX10_between_131 : decode cX10_between 131 = .ok (.goto (-67), 3) := by decide +kernel
theorem dX10_between_134 : decode cX10_between 134 = .ok (.iload 5, 2) := by decide +kernel
theorem dX10_between_136 : decode cX10_between 136 = .ok (.ireturn, 1) := by decide +kernel
theorem dX10_worth_0 : decode cX10_worth 0 = .ok (.aload_n 0, 1) := by decide +kernel
theorem dX10_worth_1 : decode cX10_worth 1 = .ok (.iload_n 1, 1) := by decide +kernel
theorem dX10_worth_2 : decode cX10_worth 2 = .ok (.invokevirtual 182, 3) := by decide +kernel
theorem dX10_worth_5 : decode cX10_worth 5 = .ok (.ifCond .eq 25, 3) := by decide +kernel
theorem dX10_worth_8 : decode cX10_worth 8 = .ok (.aload_n 0, 1) := by decide +kernel
theorem dX10_worth_9 : decode cX10_worth 9 = .ok (.getfield 10, 3) := by decide +kernel
theorem dX10_worth_12 : decode cX10_worth 12 = .ok (.iload_n 2, 1) := by decide +kernel
theorem dX10_worth_13 : decode cX10_worth 13 = .ok (.invokevirtual 251, 3) := by decide +kernel
theorem dX10_worth_16 : decode cX10_worth 16 = .ok (.ifCond .eq 14, 3) := by decide +kernel
theorem dX10_worth_19 : decode cX10_worth 19 = .ok (.aload_n 0, 1) := by decide +kernel
theorem dX10_worth_20 : decode cX10_worth 20 = .ok (.getfield 37, 3) := by decide +kernel
theorem dX10_worth_23 : decode cX10_worth 23 = .ok (.iload_n 1, 1) := by decide +kernel
theorem dX10_worth_24 : decode cX10_worth 24 = .ok (.invokevirtual 185, 3) := by decide +kernel
theorem dX10_worth_27 : decode cX10_worth 27 = .ok (.ifCond .ge 5, 3) := by decide +kernel
theorem dX10_worth_30 : decode cX10_worth 30 = .ok (.iconst 0, 1) := by decide +kernel
theorem dX10_worth_31 : decode cX10_worth 31 = .ok (.ireturn, 1) := by decide +kernel
theorem dX10_worth_32 : decode cX10_worth 32 = .ok (.aload_n 0, 1) := by decide +kernel
theorem dX10_worth_33 : decode cX10_worth 33 = .ok (.getfield 10, 3) := by decide +kernel
theorem dX10_worth_36 : decode cX10_worth 36 = .ok (.getfield 138, 3) := by decide +kernel
theorem dX10_worth_39 : decode cX10_worth 39 = .ok (.bipush 10, 2) := by decide +kernel
theorem dX10_worth_41 : decode cX10_worth 41 = .ok (.iload_n 2, 1) := by decide +kernel
theorem dX10_worth_42 : decode cX10_worth 42 = .ok (.iadd, 1) := by decide +kernel
theorem dX10_worth_43 : decode cX10_worth 43 = .ok (.aaload, 1) := by decide +kernel
theorem dX10_worth_44 : decode cX10_worth 44 = .ok (.aload_n 0, 1) := by decide +kernel
theorem dX10_worth_45 : decode cX10_worth 45 = .ok (.getfield 37, 3) := by decide +kernel
theorem dX10_worth_48 : decode cX10_worth 48 = .ok (.getfield 188, 3) := by decide +kernel
theorem dX10_worth_51 : decode cX10_worth 51 = .ok (.invokevirtual 290, 3) := by decide +kernel
theorem dX10_worth_54 : decode cX10_worth 54 = .ok (.ireturn, 1) := by decide +kernel
theorem dX10_isTrue_0 : decode cX10_isTrue 0 = .ok (.aload_n 0, 1) := by decide +kernel
theorem dX10_isTrue_1 : decode cX10_isTrue 1 = .ok (.iload_n 1, 1) := by decide +kernel
theorem dX10_isTrue_2 : decode cX10_isTrue 2 = .ok (.invokevirtual 182, 3) := by decide +kernel
theorem dX10_isTrue_5 : decode cX10_isTrue 5 = .ok (.ifCond .eq 23, 3) := by decide +kernel
theorem dX10_isTrue_8 : decode cX10_isTrue 8 = .ok (.aload_n 0, 1) := by decide +kernel
theorem dX10_isTrue_9 : decode cX10_isTrue 9 = .ok (.getfield 10, 3) := by decide +kernel
theorem dX10_isTrue_12 : decode cX10_isTrue 12 = .ok (.iload_n 2, 1) := by decide +kernel
theorem dX10_isTrue_13 : decode cX10_isTrue 13 = .ok (.invokevirtual 156, 3) := by decide +kernel
theorem dX10_isTrue_16 : decode cX10_isTrue 16 = .ok (.ifCond .eq 12, 3) := by decide +kernel
theorem dX10_isTrue_19 : decode cX10_isTrue 19 = .ok (.iload_n 3, 1) := by decide +kernel
theorem dX10_isTrue_20 : decode cX10_isTrue 20 = .ok (.ifCond .lt 8, 3) := by decide +kernel
theorem dX10_isTrue_23 : decode cX10_isTrue 23 = .ok (.iload_n 3, 1) := by decide +kernel
theorem dX10_isTrue_24 : decode cX10_isTrue 24 = .ok (.iconst 2, 1) := by decide +kernel
theorem dX10_isTrue_25 : decode cX10_isTrue 25 = .ok (.if_icmp .le 7, 3) := by decide +kernel
theorem dX10_isTrue_28 : decode cX10_isTrue 28 = .ok (.sipush (-204), 3) := by decide +kernel
theorem dX10_isTrue_31 : decode cX10_isTrue 31 = .ok (.ireturn, 1) := by decide +kernel
theorem dX10_isTrue_32 : decode cX10_isTrue 32 = .ok (.aload_n 0, 1) := by decide +kernel
theorem dX10_isTrue_33 : decode cX10_isTrue 33 = .ok (.getfield 37, 3) := by decide +kernel
theorem dX10_isTrue_36 : decode cX10_isTrue 36 = .ok (.iload_n 1, 1) := by decide +kernel
theorem dX10_isTrue_37 : decode cX10_isTrue 37 = .ok (.invokevirtual 185, 3) := by decide +kernel
theorem dX10_isTrue_40 : decode cX10_isTrue 40 = .ok (.istore 4, 2) := by decide +kernel
theorem dX10_isTrue_42 : decode cX10_isTrue 42 = .ok (.iload 4, 2) := by decide +kernel
theorem dX10_isTrue_44 : decode cX10_isTrue 44 = .ok (.ifCond .ge 20, 3) := by decide +kernel
theorem dX10_isTrue_47 : decode cX10_isTrue 47 = .ok (.iload 4, 2) := by decide +kernel
theorem dX10_isTrue_49 : decode cX10_isTrue 49 = .ok (.bipush (-3), 2) := by decide +kernel
theorem dX10_isTrue_51 : decode cX10_isTrue 51 = .ok (.if_icmp .ne 9, 3) := by decide +kernel
theorem dX10_isTrue_54 : decode cX10_isTrue 54 = .ok (.sipush (-203), 3) := by decide +kernel
theorem dX10_isTrue_57 : decode cX10_isTrue 57 = .ok (.goto 6, 3) := by decide +kernel
theorem dX10_isTrue_60 : decode cX10_isTrue 60 = .ok (.sipush (-201), 3) := by decide +kernel
theorem dX10_isTrue_63 : decode cX10_isTrue 63 = .ok (.ireturn, 1) := by decide +kernel
theorem dX10_isTrue_64 : decode cX10_isTrue 64 = .ok (.aload_n 0, 1) := by decide +kernel
theorem dX10_isTrue_65 : decode cX10_isTrue 65 = .ok (.getfield 10, 3) := by decide +kernel
theorem dX10_isTrue_68 : decode cX10_isTrue 68 = .ok (.getfield 138, 3) := by decide +kernel
theorem dX10_isTrue_71 : decode cX10_isTrue 71 = .ok (.iload_n 2, 1) := by decide +kernel
theorem dX10_isTrue_72 : decode cX10_isTrue 72 = .ok (.aaload, 1) := by decide +kernel
theorem dX10_isTrue_73 : decode cX10_isTrue 73 = .ok (.astore 5, 2) := by decide +kernel
theorem dX10_isTrue_75 : decode cX10_isTrue 75 = .ok (.iload_n 3, 1) := by decide +kernel
theorem dX10_isTrue_76 : decode cX10_isTrue 76 = .ok (.iconst 1, 1) := by decide +kernel
theorem dX10_isTrue_77 : decode cX10_isTrue 77 = .ok (.if_icmp .ne 12, 3) := by decide +kernel
theorem dX10_isTrue_80 : decode cX10_isTrue 80 = .ok (.aload_n 0, 1) := by decide +kernel
theorem dX10_isTrue_81 : decode cX10_isTrue 81 = .ok (.aload 5, 2) := by decide +kernel
theorem dX10_isTrue_83 : decode cX10_isTrue 83 = .ok (.iconst 0, 1) := by decide +kernel
theorem dX10_isTrue_84 : decode cX10_isTrue 84 = .ok (.iconst (-1), 1) := by decide +kernel
theorem dX10_isTrue_85 : decode cX10_isTrue 85 = .ok (.invokevirtual 296, 3) := by decide +kernel
theorem dX10_isTrue_88 : decode cX10_isTrue 88 = .ok (.ireturn, 1) := by decide +kernel
theorem dX10_isTrue_89 : decode cX10_isTrue 89 = .ok (.iload_n 3, 1) := by decide +kernel
theorem dX10_isTrue_90 : decode cX10_isTrue 90 = .ok (.iconst 2, 1) := by decide +kernel
theorem dX10_isTrue_91 : decode cX10_isTrue 91 = .ok (.if_icmp .ne 14, 3) := by decide +kernel
theorem dX10_isTrue_94 : decode cX10_isTrue 94 = .ok (.aload_n 0, 1) := by decide +kernel
theorem dX10_isTrue_95 : decode cX10_isTrue 95 = .ok (.aload 5, 2) := by decide +kernel
theorem dX10_isTrue_97 : decode cX10_isTrue 97 = .ok (.iconst 1, 1) := by decide +kernel
theorem dX10_isTrue_98 : decode cX10_isTrue 98 = .ok (.iconst 1, 1) := by decide +kernel
theorem dX10_isTrue_99 : decode cX10_isTrue 99 = .ok (.invokevirtual 296, 3) := by decide +kernel
theorem dX10_isTrue_102 : decode cX10_isTrue 102 = .ok (.goto 9, 3) := by decide +kernel
theorem dX10_isTrue_105 : decode cX10_isTrue 105 = .ok (.aload_n 0, 1) := by decide +kernel
theorem dX10_isTrue_106 : decode cX10_isTrue 106 = .ok (.aload 5, 2) := by decide +kernel
theorem dX10_isTrue_108 : decode cX10_isTrue 108 = .ok (.invokevirtual 300, 3) := by decide +kernel
theorem dX10_isTrue_111 : decode cX10_isTrue 111 = .ok (.ireturn, 1) := by decide +kernel
theorem dX10_yearsTrue_0 : decode cX10_yearsTrue 0 = .ok (.iconst 0, 1) := by decide +kernel
theorem dX10_yearsTrue_1 : decode cX10_yearsTrue 1 = .ok (.istore_n 2, 1) := by decide +kernel
theorem dX10_yearsTrue_2 : decode cX10_yearsTrue 2 = .ok (.bipush (-99), 2) := by decide +kernel
theorem dX10_yearsTrue_4 : decode cX10_yearsTrue 4 = .ok (.istore_n 3, 1) := by decide +kernel
theorem dX10_yearsTrue_5 : decode cX10_yearsTrue 5 = .ok (.iload_n 3, 1) := by decide +kernel
theorem dX10_yearsTrue_6 : decode cX10_yearsTrue 6 = .ok (.bipush 99, 2) := by decide +kernel
theorem dX10_yearsTrue_8 : decode cX10_yearsTrue 8 = .ok (.if_icmp .gt 39, 3) := by decide +kernel
theorem dX10_yearsTrue_11 : decode cX10_yearsTrue 11 = .ok (.aload_n 1, 1) := by decide +kernel
theorem dX10_yearsTrue_12 : decode cX10_yearsTrue 12 = .ok (.aload_n 1, 1) := by decide +kernel
theorem dX10_yearsTrue_13 : decode cX10_yearsTrue 13 = .ok (.aload_n 0, 1) := by decide +kernel
theorem dX10_yearsTrue_14 : decode cX10_yearsTrue 14 = .ok (.getfield 37, 3) := by decide +kernel
theorem dX10_yearsTrue_17 : decode cX10_yearsTrue 17 = .ok (.getfield 188, 3) := by decide +kernel
theorem dX10_yearsTrue_20 : decode cX10_yearsTrue 20 = .ok (.aload_n 0, 1) := by decide +kernel
theorem dX10_yearsTrue_21 : decode cX10_yearsTrue 21 = .ok (.getfield 10, 3) := by decide +kernel
theorem dX10_yearsTrue_24 : decode cX10_yearsTrue 24 = .ok (.getfield 110, 3) := by decide +kernel
theorem dX10_yearsTrue_27 : decode cX10_yearsTrue 27 = .ok (.iload_n 3, 1) := by decide +kernel
theorem dX10_yearsTrue_28 : decode cX10_yearsTrue 28 = .ok (.iadd, 1) := by decide +kernel
theorem dX10_yearsTrue_29 : decode cX10_yearsTrue 29 = .ok (.invokevirtual 304, 3) := by decide +kernel
theorem dX10_yearsTrue_32 : decode cX10_yearsTrue 32 = .ok (.invokevirtual 308, 3) := by decide +kernel
theorem dX10_yearsTrue_35 : decode cX10_yearsTrue 35 = .ok (.ifCond .eq 6, 3) := by decide +kernel
theorem dX10_yearsTrue_38 : decode cX10_yearsTrue 38 = .ok (.iinc 2 1, 3) := by decide +kernel
theorem dX10_yearsTrue_41 : decode cX10_yearsTrue 41 = .ok (.iinc 3 1, 3) := by decide +kernel
theorem dX10_yearsTrue_44 : decode cX10_yearsTrue 44 = .ok (.goto (-39), 3) := by decide +kernel
theorem dX10_yearsTrue_47 : decode cX10_yearsTrue 47 = .ok (.iload_n 2, 1) := by decide +kernel
theorem dX10_yearsTrue_48 : decode cX10_yearsTrue 48 = .ok (.ireturn, 1) := by decide +kernel
theorem dX10_nearestTrue_0 : decode cX10_nearestTrue 0 = .ok (.iconst 0, 1) := by decide +kernel
theorem dX10_nearestTrue_1 : decode cX10_nearestTrue 1 = .ok (.istore 4, 2) := by decide +kernel
theorem dX10_nearestTrue_3 : decode cX10_nearestTrue 3 = .ok (.iload 4, 2) := by decide +kernel
theorem dX10_nearestTrue_5 : decode cX10_nearestTrue 5 = .ok (.bipush 100, 2) := by decide +kernel
theorem dX10_nearestTrue_7 : decode cX10_nearestTrue 7 = .ok (.if_icmp .ge 55, 3) := by decide +kernel
theorem dX10_nearestTrue_10 : decode cX10_nearestTrue 10 = .ok (.iload_n 2, 1) := by decide +kernel
theorem dX10_nearestTrue_11 : decode cX10_nearestTrue 11 = .ok (.iload 4, 2) := by decide +kernel
theorem dX10_nearestTrue_13 : decode cX10_nearestTrue 13 = .ok (.iload_n 3, 1) := by decide +kernel
theorem dX10_nearestTrue_14 : decode cX10_nearestTrue 14 = .ok (.imul, 1) := by decide +kernel
theorem dX10_nearestTrue_15 : decode cX10_nearestTrue 15 = .ok (.iadd, 1) := by decide +kernel
theorem dX10_nearestTrue_16 : decode cX10_nearestTrue 16 = .ok (.istore 5, 2) := by decide +kernel
theorem dX10_nearestTrue_18 : decode cX10_nearestTrue 18 = .ok (.iload 5, 2) := by decide +kernel
theorem dX10_nearestTrue_20 : decode cX10_nearestTrue 20 = .ok (.bipush 99, 2) := by decide +kernel
theorem dX10_nearestTrue_22 : decode cX10_nearestTrue 22 = .ok (.if_icmp .gt 34, 3) := by decide +kernel
theorem dX10_nearestTrue_25 : decode cX10_nearestTrue 25 = .ok (.aload_n 1, 1) := by decide +kernel
theorem dX10_nearestTrue_26 : decode cX10_nearestTrue 26 = .ok (.aload_n 1, 1) := by decide +kernel
theorem dX10_nearestTrue_27 : decode cX10_nearestTrue 27 = .ok (.aload_n 0, 1) := by decide +kernel
theorem dX10_nearestTrue_28 : decode cX10_nearestTrue 28 = .ok (.getfield 37, 3) := by decide +kernel
theorem dX10_nearestTrue_31 : decode cX10_nearestTrue 31 = .ok (.getfield 188, 3) := by decide +kernel
theorem dX10_nearestTrue_34 : decode cX10_nearestTrue 34 = .ok (.aload_n 0, 1) := by decide +kernel
theorem dX10_nearestTrue_35 : decode cX10_nearestTrue 35 = .ok (.getfield 10, 3) := by decide +kernel
theorem dX10_nearestTrue_38 : decode cX10_nearestTrue 38 = .ok (.getfield 110, 3) := by decide +kernel
theorem dX10_nearestTrue_41 : decode cX10_nearestTrue 41 = .ok (.iload 5, 2) := by decide +kernel
theorem dX10_nearestTrue_43 : decode cX10_nearestTrue 43 = .ok (.iadd, 1) := by decide +kernel
theorem dX10_nearestTrue_44 : decode cX10_nearestTrue 44 = .ok (.invokevirtual 304, 3) := by decide +kernel
theorem dX10_nearestTrue_47 : decode cX10_nearestTrue 47 = .ok (.invokevirtual 308, 3) := by decide +kernel
theorem dX10_nearestTrue_50 : decode cX10_nearestTrue 50 = .ok (.ifCond .eq 6, 3) := by decide +kernel
theorem dX10_nearestTrue_53 : decode cX10_nearestTrue 53 = .ok (.iload 5, 2) := by decide +kernel
theorem dX10_nearestTrue_55 : decode cX10_nearestTrue 55 = .ok (.ireturn, 1) := by decide +kernel
theorem dX10_nearestTrue_56 : decode cX10_nearestTrue 56 = .ok (.iinc 4 1, 3) := by decide +kernel
theorem dX10_nearestTrue_59 : decode cX10_nearestTrue 59 = .ok (.goto (-56), 3) := by decide +kernel
theorem dX10_nearestTrue_62 : decode cX10_nearestTrue 62 = .ok (.sipush (-200), 3) := by decide +kernel
theorem dX10_nearestTrue_65 : decode cX10_nearestTrue 65 = .ok (.ireturn, 1) := by decide +kernel
theorem dX10_together_0 : decode cX10_together 0 = .ok (.iload_n 3, 1) := by decide +kernel
theorem dX10_together_1 : decode cX10_together 1 = .ok (.invokestatic 150, 3) := by decide +kernel
theorem dX10_together_4 : decode cX10_together 4 = .ok (.istore 4, 2) := by decide +kernel
theorem dX10_together_6 : decode cX10_together 6 = .ok (.aload_n 0, 1) := by decide +kernel
theorem dX10_together_7 : decode cX10_together 7 = .ok (.iload_n 1, 1) := by decide +kernel
theorem dX10_together_8 : decode cX10_together 8 = .ok (.invokevirtual 182, 3) := by decide +kernel
theorem dX10_together_11 : decode cX10_together 11 = .ok (.ifCond .eq 48, 3) := by decide +kernel
theorem dX10_together_14 : decode cX10_together 14 = .ok (.aload_n 0, 1) := by decide +kernel
theorem dX10_together_15 : decode cX10_together 15 = .ok (.getfield 10, 3) := by decide +kernel
theorem dX10_together_18 : decode cX10_together 18 = .ok (.iload_n 2, 1) := by decide +kernel
theorem dX10_together_19 : decode cX10_together 19 = .ok (.invokevirtual 106, 3) := by decide +kernel
theorem dX10_together_22 : decode cX10_together 22 = .ok (.ifCond .eq 37, 3) := by decide +kernel
theorem dX10_together_25 : decode cX10_together 25 = .ok (.iload_n 3, 1) := by decide +kernel
theorem dX10_together_26 : decode cX10_together 26 = .ok (.aload_n 0, 1) := by decide +kernel
theorem dX10_together_27 : decode cX10_together 27 = .ok (.getfield 10, 3) := by decide +kernel
theorem dX10_together_30 : decode cX10_together 30 = .ok (.getfield 99, 3) := by decide +kernel
theorem dX10_together_33 : decode cX10_together 33 = .ok (.iconst (-1), 1) := by decide +kernel
theorem dX10_together_34 : decode cX10_together 34 = .ok (.ixor, 1) := by decide +kernel
theorem dX10_together_35 : decode cX10_together 35 = .ok (.iand, 1) := by decide +kernel
theorem dX10_together_36 : decode cX10_together 36 = .ok (.ifCond .ne 23, 3) := by decide +kernel
theorem dX10_together_39 : decode cX10_together 39 = .ok (.iload_n 3, 1) := by decide +kernel
theorem dX10_together_40 : decode cX10_together 40 = .ok (.iload_n 2, 1) := by decide +kernel
theorem dX10_together_41 : decode cX10_together 41 = .ok (.ishr, 1) := by decide +kernel
theorem dX10_together_42 : decode cX10_together 42 = .ok (.iconst 1, 1) := by decide +kernel
theorem dX10_together_43 : decode cX10_together 43 = .ok (.iand, 1) := by decide +kernel
theorem dX10_together_44 : decode cX10_together 44 = .ok (.ifCond .ne 15, 3) := by decide +kernel
theorem dX10_together_47 : decode cX10_together 47 = .ok (.iload 4, 2) := by decide +kernel
theorem dX10_together_49 : decode cX10_together 49 = .ok (.iconst 2, 1) := by decide +kernel
theorem dX10_together_50 : decode cX10_together 50 = .ok (.if_icmp .lt 9, 3) := by decide +kernel
theorem dX10_together_53 : decode cX10_together 53 = .ok (.iload 4, 2) := by decide +kernel
theorem dX10_together_55 : decode cX10_together 55 = .ok (.iconst 5, 1) := by decide +kernel
theorem dX10_together_56 : decode cX10_together 56 = .ok (.if_icmp .le 7, 3) := by decide +kernel
theorem dX10_together_59 : decode cX10_together 59 = .ok (.sipush (-4000), 3) := by decide +kernel
theorem dX10_together_62 : decode cX10_together 62 = .ok (.ireturn, 1) := by decide +kernel
theorem dX10_together_63 : decode cX10_together 63 = .ok (.aload_n 0, 1) := by decide +kernel
theorem dX10_together_64 : decode cX10_together 64 = .ok (.getfield 37, 3) := by decide +kernel
theorem dX10_together_67 : decode cX10_together 67 = .ok (.iload_n 1, 1) := by decide +kernel
theorem dX10_together_68 : decode cX10_together 68 = .ok (.invokevirtual 185, 3) := by decide +kernel
theorem dX10_together_71 : decode cX10_together 71 = .ok (.istore 5, 2) := by decide +kernel
theorem dX10_together_73 : decode cX10_together 73 = .ok (.iload 5, 2) := by decide +kernel
theorem dX10_together_75 : decode cX10_together 75 = .ok (.ifCond .ge 20, 3) := by decide +kernel
theorem dX10_together_78 : decode cX10_together 78 = .ok (.iload 5, 2) := by decide +kernel
theorem dX10_together_80 : decode cX10_together 80 = .ok (.bipush (-3), 2) := by decide +kernel
theorem dX10_together_82 : decode cX10_together 82 = .ok (.if_icmp .ne 9, 3) := by decide +kernel
theorem dX10_together_85 : decode cX10_together 85 = .ok (.sipush (-3000), 3) := by decide +kernel
theorem dX10_together_88 : decode cX10_together 88 = .ok (.goto 6, 3) := by decide +kernel
theorem dX10_together_91 : decode cX10_together 91 = .ok (.sipush (-2000), 3) := by decide +kernel
theorem dX10_together_94 : decode cX10_together 94 = .ok (.ireturn, 1) := by decide +kernel
theorem dX10_together_95 : decode cX10_together 95 = .ok (.aload_n 0, 1) := by decide +kernel
theorem dX10_together_96 : decode cX10_together 96 = .ok (.getfield 37, 3) := by decide +kernel
theorem dX10_together_99 : decode cX10_together 99 = .ok (.getfield 188, 3) := by decide +kernel
theorem dX10_together_102 : decode cX10_together 102 = .ok (.iload_n 2, 1) := by decide +kernel
theorem dX10_together_103 : decode cX10_together 103 = .ok (.iaload, 1) := by decide +kernel
theorem dX10_together_104 : decode cX10_together 104 = .ok (.aload_n 0, 1) := by decide +kernel
theorem dX10_together_105 : decode cX10_together 105 = .ok (.getfield 10, 3) := by decide +kernel
theorem dX10_together_108 : decode cX10_together 108 = .ok (.getfield 110, 3) := by decide +kernel
theorem dX10_together_111 : decode cX10_together 111 = .ok (.iadd, 1) := by decide +kernel
theorem dX10_together_112 : decode cX10_together 112 = .ok (.istore 6, 2) := by decide +kernel
theorem dX10_together_114 : decode cX10_together 114 = .ok (.iconst 0, 1) := by decide +kernel
theorem dX10_together_115 : decode cX10_together 115 = .ok (.istore 7, 2) := by decide +kernel
theorem dX10_together_117 : decode cX10_together 117 = .ok (.iload 7, 2) := by decide +kernel
theorem dX10_together_119 : decode cX10_together 119 = .ok (.bipush 6, 2) := by decide +kernel
theorem dX10_together_121 : decode cX10_together 121 = .ok (.if_icmp .ge 41, 3) := by decide +kernel
theorem dX10_together_124 : decode cX10_together 124 = .ok (.iload_n 3, 1) := by decide +kernel
theorem dX10_together_125 : decode cX10_together 125 = .ok (.iload 7, 2) := by decide +kernel
theorem dX10_together_127 : decode cX10_together 127 = .ok (.ishr, 1) := by decide +kernel
theorem dX10_together_128 : decode cX10_together 128 = .ok (.iconst 1, 1) := by decide +kernel
theorem dX10_together_129 : decode cX10_together 129 = .ok (.iand, 1) := by decide +kernel
theorem dX10_together_130 : decode cX10_together 130 = .ok (.ifCond .eq 26, 3) := by decide +kernel
theorem dX10_together_133 : decode cX10_together 133 = .ok (.iload 6, 2) := by decide +kernel
theorem dX10_together_135 : decode cX10_together 135 = .ok (.aload_n 0, 1) := by decide +kernel
theorem dX10_together_136 : decode cX10_together 136 = .ok (.getfield 37, 3) := by decide +kernel
theorem dX10_together_139 : decode cX10_together 139 = .ok (.getfield 188, 3) := by decide +kernel
theorem dX10_together_142 : decode cX10_together 142 = .ok (.iload 7, 2) := by decide +kernel
theorem dX10_together_144 : decode cX10_together 144 = .ok (.iaload, 1) := by decide +kernel
theorem dX10_together_145 : decode cX10_together 145 = .ok (.aload_n 0, 1) := by decide +kernel
theorem dX10_together_146 : decode cX10_together 146 = .ok (.getfield 10, 3) := by decide +kernel
theorem dX10_together_149 : decode cX10_together 149 = .ok (.getfield 110, 3) := by decide +kernel
theorem dX10_together_152 : decode cX10_together 152 = .ok (.iadd, 1) := by decide +kernel
theorem dX10_together_153 : decode cX10_together 153 = .ok (.isub, 1) := by decide +kernel
theorem dX10_together_154 : decode cX10_together 154 = .ok (.istore 6, 2) := by decide +kernel
theorem dX10_together_156 : decode cX10_together 156 = .ok (.iinc 7 1, 3) := by decide +kernel

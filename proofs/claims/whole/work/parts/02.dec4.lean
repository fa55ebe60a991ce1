theorem dX8_sweep_29 : decode cX8_sweep 29 = .ok (.ireturn, 1) := by decide +kernel
theorem dX8_counter_0 : decode cX8_counter 0 = .ok (.iload_n 1, 1) := by decide +kernel
theorem dX8_counter_1 : decode cX8_counter 1 = .ok (.i2l, 1) := by decide +kernel
theorem dX8_counter_2 : decode cX8_counter 2 = .ok (.lconst 0, 1) := by decide +kernel
theorem dX8_counter_3 : decode cX8_counter 3 = .ok (.ldc2_w 138, 3) := by decide +kernel
theorem dX8_counter_6 : decode cX8_counter 6 = .ok (.invokestatic 49, 3) := by decide +kernel
theorem dX8_counter_9 : decode cX8_counter 9 = .ok (.ifCond .ne 8, 3) := by decide +kernel
theorem dX8_counter_12 : decode cX8_counter 12 = .ok (.aload_n 0, 1) := by decide +kernel
theorem dX8_counter_13 : decode cX8_counter 13 = .ok (.invokevirtual 81, 3) := by decide +kernel
theorem dX8_counter_16 : decode cX8_counter 16 = .ok (.ireturn, 1) := by decide +kernel
theorem dX8_counter_17 : decode cX8_counter 17 = .ok (.aload_n 0, 1) := by decide +kernel
theorem dX8_counter_18 : decode cX8_counter 18 = .ok (.invokevirtual 87, 3) := by decide +kernel
theorem dX8_counter_21 : decode cX8_counter 21 = .ok (.aload_n 0, 1) := by decide +kernel
theorem dX8_counter_22 : decode cX8_counter 22 = .ok (.getfield 7, 3) := by decide +kernel
theorem dX8_counter_25 : decode cX8_counter 25 = .ok (.iconst 3, 1) := by decide +kernel
theorem dX8_counter_26 : decode cX8_counter 26 = .ok (.iaload, 1) := by decide +kernel
theorem dX8_counter_27 : decode cX8_counter 27 = .ok (.istore_n 2, 1) := by decide +kernel
theorem dX8_counter_28 : decode cX8_counter 28 = .ok (.aload_n 0, 1) := by decide +kernel
theorem dX8_counter_29 : decode cX8_counter 29 = .ok (.getfield 7, 3) := by decide +kernel
theorem dX8_counter_32 : decode cX8_counter 32 = .ok (.iconst 3, 1) := by decide +kernel
theorem dX8_counter_33 : decode cX8_counter 33 = .ok (.iload_n 1, 1) := by decide +kernel
theorem dX8_counter_34 : decode cX8_counter 34 = .ok (.iastore, 1) := by decide +kernel
theorem dX8_counter_35 : decode cX8_counter 35 = .ok (.iload_n 2, 1) := by decide +kernel
theorem dX8_counter_36 : decode cX8_counter 36 = .ok (.ireturn, 1) := by decide +kernel
theorem dX8_undo_0 : decode cX8_undo 0 = .ok (.aload_n 0, 1) := by decide +kernel
theorem dX8_undo_1 : decode cX8_undo 1 = .ok (.getfield 60, 3) := by decide +kernel
theorem dX8_undo_4 : decode cX8_undo 4 = .ok (.ifCond .ne 8, 3) := by decide +kernel
theorem dX8_undo_7 : decode cX8_undo 7 = .ok (.aload_n 0, 1) := by decide +kernel
theorem dX8_undo_8 : decode cX8_undo 8 = .ok (.invokevirtual 140, 3) := by decide +kernel
theorem dX8_undo_11 : decode cX8_undo 11 = .ok (.ireturn, 1) := by decide +kernel
theorem dX8_undo_12 : decode cX8_undo 12 = .ok (.aload_n 0, 1) := by decide +kernel
theorem dX8_undo_13 : decode cX8_undo 13 = .ok (.dup, 1) := by decide +kernel
theorem dX8_undo_14 : decode cX8_undo 14 = .ok (.getfield 60, 3) := by decide +kernel
theorem dX8_undo_17 : decode cX8_undo 17 = .ok (.iconst 1, 1) := by decide +kernel
theorem dX8_undo_18 : decode cX8_undo 18 = .ok (.isub, 1) := by decide +kernel
theorem dX8_undo_19 : decode cX8_undo 19 = .ok (.putfield 60, 3) := by decide +kernel
theorem dX8_undo_22 : decode cX8_undo 22 = .ok (.aload_n 0, 1) := by decide +kernel
theorem dX8_undo_23 : decode cX8_undo 23 = .ok (.sipush 2034, 3) := by decide +kernel
theorem dX8_undo_26 : decode cX8_undo 26 = .ok (.sipush 678, 3) := by decide +kernel
theorem dX8_undo_29 : decode cX8_undo 29 = .ok (.aload_n 0, 1) := by decide +kernel
theorem dX8_undo_30 : decode cX8_undo 30 = .ok (.getfield 60, 3) := by decide +kernel
theorem dX8_undo_33 : decode cX8_undo 33 = .ok (.imul, 1) := by decide +kernel
theorem dX8_undo_34 : decode cX8_undo 34 = .ok (.iadd, 1) := by decide +kernel
theorem dX8_undo_35 : decode cX8_undo 35 = .ok (.iconst 0, 1) := by decide +kernel
theorem dX8_undo_36 : decode cX8_undo 36 = .ok (.invokevirtual 64, 3) := by decide +kernel
theorem dX8_undo_39 : decode cX8_undo 39 = .ok (.aload_n 0, 1) := by decide +kernel
theorem dX8_undo_40 : decode cX8_undo 40 = .ok (.getfield 60, 3) := by decide +kernel
theorem dX8_undo_43 : decode cX8_undo 43 = .ok (.ireturn, 1) := by decide +kernel
theorem dX8_ofPoint_0 : decode cX8_ofPoint 0 = .ok (.iload_n 2, 1) := by decide +kernel
theorem dX8_ofPoint_1 : decode cX8_ofPoint 1 = .ok (.ifCond .ne 16, 3) := by decide +kernel
theorem dX8_ofPoint_4 : decode cX8_ofPoint 4 = .ok (.aload_n 0, 1) := by decide +kernel
theorem dX8_ofPoint_5 : decode cX8_ofPoint 5 = .ok (.getfield 7, 3) := by decide +kernel
theorem dX8_ofPoint_8 : decode cX8_ofPoint 8 = .ok (.sipush 128, 3) := by decide +kernel
theorem dX8_ofPoint_11 : decode cX8_ofPoint 11 = .ok (.iload_n 1, 1) := by decide +kernel
theorem dX8_ofPoint_12 : decode cX8_ofPoint 12 = .ok (.iadd, 1) := by decide +kernel
theorem dX8_ofPoint_13 : decode cX8_ofPoint 13 = .ok (.iaload, 1) := by decide +kernel
theorem dX8_ofPoint_14 : decode cX8_ofPoint 14 = .ok (.goto 44, 3) := by decide +kernel
theorem dX8_ofPoint_17 : decode cX8_ofPoint 17 = .ok (.iload_n 2, 1) := by decide +kernel
theorem dX8_ofPoint_18 : decode cX8_ofPoint 18 = .ok (.iconst 1, 1) := by decide +kernel
theorem dX8_ofPoint_19 : decode cX8_ofPoint 19 = .ok (.if_icmp .ne 16, 3) := by decide +kernel
theorem dX8_ofPoint_22 : decode cX8_ofPoint 22 = .ok (.aload_n 0, 1) := by decide +kernel
theorem dX8_ofPoint_23 : decode cX8_ofPoint 23 = .ok (.getfield 7, 3) := by decide +kernel
theorem dX8_ofPoint_26 : decode cX8_ofPoint 26 = .ok (.sipush 250, 3) := by decide +kernel
theorem dX8_ofPoint_29 : decode cX8_ofPoint 29 = .ok (.iload_n 1, 1) := by decide +kernel
theorem dX8_ofPoint_30 : decode cX8_ofPoint 30 = .ok (.iadd, 1) := by decide +kernel
theorem dX8_ofPoint_31 : decode cX8_ofPoint 31 = .ok (.iaload, 1) := by decide +kernel
theorem dX8_ofPoint_32 : decode cX8_ofPoint 32 = .ok (.goto 26, 3) := by decide +kernel
theorem dX8_ofPoint_35 : decode cX8_ofPoint 35 = .ok (.iload_n 2, 1) := by decide +kernel
theorem dX8_ofPoint_36 : decode cX8_ofPoint 36 = .ok (.iconst 2, 1) := by decide +kernel
theorem dX8_ofPoint_37 : decode cX8_ofPoint 37 = .ok (.if_icmp .ne 16, 3) := by decide +kernel
theorem dX8_ofPoint_40 : decode cX8_ofPoint 40 = .ok (.aload_n 0, 1) := by decide +kernel
theorem dX8_ofPoint_41 : decode cX8_ofPoint 41 = .ok (.getfield 7, 3) := by decide +kernel
theorem dX8_ofPoint_44 : decode cX8_ofPoint 44 = .ok (.sipush 372, 3) := by decide +kernel
theorem dX8_ofPoint_47 : decode cX8_ofPoint 47 = .ok (.iload_n 1, 1) := by decide +kernel
theorem dX8_ofPoint_48 : decode cX8_ofPoint 48 = .ok (.iadd, 1) := by decide +kernel
theorem dX8_ofPoint_49 : decode cX8_ofPoint 49 = .ok (.iaload, 1) := by decide +kernel
theorem dX8_ofPoint_50 : decode cX8_ofPoint 50 = .ok (.goto 8, 3) := by decide +kernel
theorem dX8_ofPoint_53 : decode cX8_ofPoint 53 = .ok (.aload_n 0, 1) := by decide +kernel
theorem dX8_ofPoint_54 : decode cX8_ofPoint 54 = .ok (.iload_n 1, 1) := by decide +kernel
theorem dX8_ofPoint_55 : decode cX8_ofPoint 55 = .ok (.invokevirtual 143, 3) := by decide +kernel
theorem dX8_ofPoint_58 : decode cX8_ofPoint 58 = .ok (.ireturn, 1) := by decide +kernel
theorem dX8_of_0 : decode cX8_of 0 = .ok (.aload_n 0, 1) := by decide +kernel
theorem dX8_of_1 : decode cX8_of 1 = .ok (.iload_n 1, 1) := by decide +kernel
theorem dX8_of_2 : decode cX8_of 2 = .ok (.invokevirtual 94, 3) := by decide +kernel
theorem dX8_of_5 : decode cX8_of 5 = .ok (.istore_n 3, 1) := by decide +kernel
theorem dX8_of_6 : decode cX8_of 6 = .ok (.iload_n 3, 1) := by decide +kernel
theorem dX8_of_7 : decode cX8_of 7 = .ok (.ifCond .lt 15, 3) := by decide +kernel
theorem dX8_of_10 : decode cX8_of 10 = .ok (.iload_n 2, 1) := by decide +kernel
theorem dX8_of_11 : decode cX8_of 11 = .ok (.i2l, 1) := by decide +kernel
theorem dX8_of_12 : decode cX8_of 12 = .ok (.lconst 0, 1) := by decide +kernel
theorem dX8_of_13 : decode cX8_of 13 = .ok (.ldc2_w 146, 3) := by decide +kernel
theorem dX8_of_16 : decode cX8_of 16 = .ok (.invokestatic 49, 3) := by decide +kernel
theorem dX8_of_19 : decode cX8_of 19 = .ok (.ifCond .ne 10, 3) := by decide +kernel
theorem dX8_of_22 : decode cX8_of 22 = .ok (.aload_n 0, 1) := by decide +kernel
theorem dX8_of_23 : decode cX8_of 23 = .ok (.invokevirtual 81, 3) := by decide +kernel
theorem dX8_of_26 : decode cX8_of 26 = .ok (.goto 9, 3) := by decide +kernel
theorem dX8_of_29 : decode cX8_of 29 = .ok (.aload_n 0, 1) := by decide +kernel
theorem dX8_of_30 : decode cX8_of 30 = .ok (.iload_n 3, 1) := by decide +kernel
theorem dX8_of_31 : decode cX8_of 31 = .ok (.iload_n 2, 1) := by decide +kernel
theorem dX8_of_32 : decode cX8_of 32 = .ok (.invokevirtual 148, 3) := by decide +kernel
theorem dX8_of_35 : decode cX8_of 35 = .ok (.ireturn, 1) := by decide +kernel
theorem dX8_nth_0 : decode cX8_nth 0 = .ok (.iload_n 1, 1) := by decide +kernel
theorem dX8_nth_1 : decode cX8_nth 1 = .ok (.ifCond .ge 8, 3) := by decide +kernel
theorem dX8_nth_4 : decode cX8_nth 4 = .ok (.aload_n 0, 1) := by decide +kernel
theorem dX8_nth_5 : decode cX8_nth 5 = .ok (.invokevirtual 81, 3) := by decide +kernel
theorem dX8_nth_8 : decode cX8_nth 8 = .ok (.ireturn, 1) := by decide +kernel
theorem dX8_nth_9 : decode cX8_nth 9 = .ok (.iload_n 1, 1) := by decide +kernel
theorem dX8_nth_10 : decode cX8_nth 10 = .ok (.istore_n 2, 1) := by decide +kernel
theorem dX8_nth_11 : decode cX8_nth 11 = .ok (.iconst 0, 1) := by decide +kernel
theorem dX8_nth_12 : decode cX8_nth 12 = .ok (.istore_n 3, 1) := by decide +kernel
theorem dX8_nth_13 : decode cX8_nth 13 = .ok (.iload_n 3, 1) := by decide +kernel
theorem dX8_nth_14 : decode cX8_nth 14 = .ok (.aload_n 0, 1) := by decide +kernel
theorem dX8_nth_15 : decode cX8_nth 15 = .ok (.getfield 7, 3) := by decide +kernel
theorem dX8_nth_18 : decode cX8_nth 18 = .ok (.iconst 0, 1) := by decide +kernel
theorem dX8_nth_19 : decode cX8_nth 19 = .ok (.iaload, 1) := by decide +kernel
theorem dX8_nth_20 : decode cX8_nth 20 = .ok (.if_icmp .ge 34, 3) := by decide +kernel
theorem dX8_nth_23 : decode cX8_nth 23 = .ok (.aload_n 0, 1) := by decide +kernel
theorem dX8_nth_24 : decode cX8_nth 24 = .ok (.iload_n 3, 1) := by decide +kernel
theorem dX8_nth_25 : decode cX8_nth 25 = .ok (.invokevirtual 57, 3) := by decide +kernel
theorem dX8_nth_28 : decode cX8_nth 28 = .ok (.ifCond .eq 20, 3) := by decide +kernel
theorem dX8_nth_31 : decode cX8_nth 31 = .ok (.iload_n 2, 1) := by decide +kernel
theorem dX8_nth_32 : decode cX8_nth 32 = .ok (.ifCond .ne 13, 3) := by decide +kernel
theorem dX8_nth_35 : decode cX8_nth 35 = .ok (.aload_n 0, 1) := by decide +kernel
theorem dX8_nth_36 : decode cX8_nth 36 = .ok (.getfield 7, 3) := by decide +kernel
theorem dX8_nth_39 : decode cX8_nth 39 = .ok (.bipush 6, 2) := by decide +kernel
theorem dX8_nth_41 : decode cX8_nth 41 = .ok (.iload_n 3, 1) := by decide +kernel
theorem dX8_nth_42 : decode cX8_nth 42 = .ok (.iadd, 1) := by decide +kernel
theorem dX8_nth_43 : decode cX8_nth 43 = .ok (.iaload, 1) := by decide +kernel
theorem dX8_nth_44 : decode cX8_nth 44 = .ok (.ireturn, 1) := by decide +kernel
theorem dX8_nth_45 : decode cX8_nth 45 = .ok (.iinc 2 (-1), 3) := by decide +kernel
theorem dX8_nth_48 : decode cX8_nth 48 = .ok (.iinc 3 1, 3) := by decide +kernel
theorem dX8_nth_51 : decode cX8_nth 51 = .ok (.goto (-38), 3) := by decide +kernel
theorem dX8_nth_54 : decode cX8_nth 54 = .ok (.ldc 152, 2) := by decide +kernel
theorem dX8_nth_56 : decode cX8_nth 56 = .ok (.ireturn, 1) := by decide +kernel
theorem dX8_count_0 : decode cX8_count 0 = .ok (.iload_n 1, 1) := by decide +kernel
theorem dX8_count_1 : decode cX8_count 1 = .ok (.iload_n 2, 1) := by decide +kernel
theorem dX8_count_2 : decode cX8_count 2 = .ok (.iload_n 3, 1) := by decide +kernel
theorem dX8_count_3 : decode cX8_count 3 = .ok (.iload 4, 2) := by decide +kernel
theorem dX8_count_5 : decode cX8_count 5 = .ok (.invokestatic 127, 3) := by decide +kernel
theorem dX8_count_8 : decode cX8_count 8 = .ok (.ifCond .ne 8, 3) := by decide +kernel
theorem dX8_count_11 : decode cX8_count 11 = .ok (.aload_n 0, 1) := by decide +kernel
theorem dX8_count_12 : decode cX8_count 12 = .ok (.invokevirtual 81, 3) := by decide +kernel
theorem dX8_count_15 : decode cX8_count 15 = .ok (.ireturn, 1) := by decide +kernel
theorem dX8_count_16 : decode cX8_count 16 = .ok (.aload_n 0, 1) := by decide +kernel
theorem dX8_count_17 : decode cX8_count 17 = .ok (.dup, 1) := by decide +kernel
theorem dX8_count_18 : decode cX8_count 18 = .ok (.getfield 153, 3) := by decide +kernel
theorem dX8_count_21 : decode cX8_count 21 = .ok (.aload_n 0, 1) := by decide +kernel
theorem dX8_count_22 : decode cX8_count 22 = .ok (.getfield 7, 3) := by decide +kernel
theorem dX8_count_25 : decode cX8_count 25 = .ok (.iconst 0, 1) := by decide +kernel
theorem dX8_count_26 : decode cX8_count 26 = .ok (.iaload, 1) := by decide +kernel
theorem dX8_count_27 : decode cX8_count 27 = .ok (.invokestatic 156, 3) := by decide +kernel
theorem dX8_count_30 : decode cX8_count 30 = .ok (.aload_n 0, 1) := by decide +kernel
theorem dX8_count_31 : decode cX8_count 31 = .ok (.getfield 7, 3) := by decide +kernel
theorem dX8_count_34 : decode cX8_count 34 = .ok (.iconst 1, 1) := by decide +kernel
theorem dX8_count_35 : decode cX8_count 35 = .ok (.iaload, 1) := by decide +kernel
theorem dX8_count_36 : decode cX8_count 36 = .ok (.invokestatic 156, 3) := by decide +kernel
theorem dX8_count_39 : decode cX8_count 39 = .ok (.iadd, 1) := by decide +kernel
theorem dX8_count_40 : decode cX8_count 40 = .ok (.iadd, 1) := by decide +kernel
theorem dX8_count_41 : decode cX8_count 41 = .ok (.putfield 153, 3) := by decide +kernel
theorem dX8_count_44 : decode cX8_count 44 = .ok (.iconst 0, 1) := by decide +kernel
theorem dX8_count_45 : decode cX8_count 45 = .ok (.istore 5, 2) := by decide +kernel
theorem dX8_count_47 : decode cX8_count 47 = .ok (.iconst 0, 1) := by decide +kernel
theorem dX8_count_48 : decode cX8_count 48 = .ok (.istore 6, 2) := by decide +kernel
theorem dX8_count_50 : decode cX8_count 50 = .ok (.iload 6, 2) := by decide +kernel
theorem dX8_count_52 : decode cX8_count 52 = .ok (.aload_n 0, 1) := by decide +kernel
theorem dX8_count_53 : decode cX8_count 53 = .ok (.getfield 7, 3) := by decide +kernel
theorem dX8_count_56 : decode cX8_count 56 = .ok (.iconst 0, 1) := by decide +kernel
theorem dX8_count_57 : decode cX8_count 57 = .ok (.iaload, 1) := by decide +kernel
theorem dX8_count_58 : decode cX8_count 58 = .ok (.if_icmp .ge 47, 3) := by decide +kernel
theorem dX8_count_61 : decode cX8_count 61 = .ok (.iload 5, 2) := by decide +kernel
theorem dX8_count_63 : decode cX8_count 63 = .ok (.aload_n 0, 1) := by decide +kernel
theorem dX8_count_64 : decode cX8_count 64 = .ok (.iload 6, 2) := by decide +kernel
theorem dX8_count_66 : decode cX8_count 66 = .ok (.invokevirtual 57, 3) := by decide +kernel
theorem dX8_count_69 : decode cX8_count 69 = .ok (.ifCond .eq 26, 3) := by decide +kernel
theorem dX8_count_72 : decode cX8_count 72 = .ok (.aload_n 0, 1) := by decide +kernel
theorem dX8_count_73 : decode cX8_count 73 = .ok (.iload 6, 2) := by decide +kernel
theorem dX8_count_75 : decode cX8_count 75 = .ok (.iload_n 1, 1) := by decide +kernel
theorem dX8_count_76 : decode cX8_count 76 = .ok (.iload_n 2, 1) := by decide +kernel
theorem dX8_count_77 : decode cX8_count 77 = .ok (.iload_n 3, 1) := by decide +kernel
theorem dX8_count_78 : decode cX8_count 78 = .ok (.iload 4, 2) := by decide +kernel
theorem dX8_count_80 : decode cX8_count 80 = .ok (.invokevirtual 120, 3) := by decide +kernel
theorem dX8_count_83 : decode cX8_count 83 = .ok (.ifCond .eq 12, 3) := by decide +kernel
theorem dX8_count_86 : decode cX8_count 86 = .ok (.aload_n 0, 1) := by decide +kernel
theorem dX8_count_87 : decode cX8_count 87 = .ok (.iload 6, 2) := by decide +kernel
theorem dX8_count_89 : decode cX8_count 89 = .ok (.invokevirtual 143, 3) := by decide +kernel
theorem dX8_count_92 : decode cX8_count 92 = .ok (.goto 4, 3) := by decide +kernel
theorem dX8_count_95 : decode cX8_count 95 = .ok (.iconst 0, 1) := by decide +kernel
theorem dX8_count_96 : decode cX8_count 96 = .ok (.iadd, 1) := by decide +kernel
theorem dX8_count_97 : decode cX8_count 97 = .ok (.istore 5, 2) := by decide +kernel
theorem dX8_count_99 : decode cX8_count 99 = .ok (.iinc 6 1, 3) := by decide +kernel
theorem dX8_count_102 : decode cX8_count 102 = .ok (.goto (-52), 3) := by decide +kernel
theorem dX8_count_105 : decode cX8_count 105 = .ok (.iload 5, 2) := by decide +kernel
theorem dX8_count_107 : decode cX8_count 107 = .ok (.ireturn, 1) := by decide +kernel
theorem dX8_manyIn_0 : decode cX8_manyIn 0 = .ok (.iconst 0, 1) := by decide +kernel
theorem dX8_manyIn_1 : decode cX8_manyIn 1 = .ok (.istore 5, 2) := by decide +kernel
theorem dX8_manyIn_3 : decode cX8_manyIn 3 = .ok (.iconst 0, 1) := by decide +kernel
theorem dX8_manyIn_4 : decode cX8_manyIn 4 = .ok (.istore 6, 2) := by decide +kernel
theorem dX8_manyIn_6 : decode cX8_manyIn 6 = .ok (.iload 6, 2) := by decide +kernel
theorem dX8_manyIn_8 : decode cX8_manyIn 8 = .ok (.aload_n 0, 1) := by decide +kernel
theorem dX8_manyIn_9 : decode cX8_manyIn 9 = .ok (.getfield 7, 3) := by decide +kernel
theorem dX8_manyIn_12 : decode cX8_manyIn 12 = .ok (.iconst 0, 1) := by decide +kernel
theorem dX8_manyIn_13 : decode cX8_manyIn 13 = .ok (.iaload, 1) := by decide +kernel
theorem dX8_manyIn_14 : decode cX8_manyIn 14 = .ok (.if_icmp .ge 42, 3) := by decide +kernel
theorem dX8_manyIn_17 : decode cX8_manyIn 17 = .ok (.iload 5, 2) := by decide +kernel
theorem dX8_manyIn_19 : decode cX8_manyIn 19 = .ok (.aload_n 0, 1) := by decide +kernel
theorem dX8_manyIn_20 : decode cX8_manyIn 20 = .ok (.iload 6, 2) := by decide +kernel
theorem dX8_manyIn_22 : decode cX8_manyIn 22 = .ok (.invokevirtual 57, 3) := by decide +kernel
theorem dX8_manyIn_25 : decode cX8_manyIn 25 = .ok (.ifCond .eq 21, 3) := by decide +kernel
theorem dX8_manyIn_28 : decode cX8_manyIn 28 = .ok (.aload_n 0, 1) := by decide +kernel
theorem dX8_manyIn_29 : decode cX8_manyIn 29 = .ok (.iload 6, 2) := by decide +kernel
theorem dX8_manyIn_31 : decode cX8_manyIn 31 = .ok (.iload_n 1, 1) := by decide +kernel
theorem dX8_manyIn_32 : decode cX8_manyIn 32 = .ok (.iload_n 2, 1) := by decide +kernel
theorem dX8_manyIn_33 : decode cX8_manyIn 33 = .ok (.iload_n 3, 1) := by decide +kernel
theorem dX8_manyIn_34 : decode cX8_manyIn 34 = .ok (.iload 4, 2) := by decide +kernel
theorem dX8_manyIn_36 : decode cX8_manyIn 36 = .ok (.invokevirtual 120, 3) := by decide +kernel
theorem dX8_manyIn_39 : decode cX8_manyIn 39 = .ok (.ifCond .eq 7, 3) := by decide +kernel
theorem dX8_manyIn_42 : decode cX8_manyIn 42 = .ok (.iconst 1, 1) := by decide +kernel
theorem dX8_manyIn_43 : decode cX8_manyIn 43 = .ok (.goto 4, 3) := by decide +kernel
theorem dX8_manyIn_46 : decode cX8_manyIn 46 = .ok (.iconst 0, 1) := by decide +kernel
theorem dX8_manyIn_47 : decode cX8_manyIn 47 = .ok (.iadd, 1) := by decide +kernel
theorem dX8_manyIn_48 : decode cX8_manyIn 48 = .ok (.istore 5, 2) := by decide +kernel
theorem dX8_manyIn_50 : decode cX8_manyIn 50 = .ok (.iinc 6 1, 3) := by decide +kernel
theorem dX8_manyIn_53 : decode cX8_manyIn 53 = .ok (.goto (-47), 3) := by decide +kernel
theorem dX8_manyIn_56 : decode cX8_manyIn 56 = .ok (.iload 5, 2) := by decide +kernel
theorem dX8_manyIn_58 : decode cX8_manyIn 58 = .ok (.ireturn, 1) := by decide +kernel
theorem dX8_many_0 : decode cX8_many 0 = .ok (.iload_n 1, 1) := by decide +kernel
theorem dX8_many_1 : decode cX8_many 1 = .ok (.iload_n 2, 1) := by decide +kernel
theorem dX8_many_2 : decode cX8_many 2 = .ok (.iload_n 3, 1) := by decide +kernel
theorem dX8_many_3 : decode cX8_many 3 = .ok (.iload 4, 2) := by decide +kernel
theorem dX8_many_5 : decode cX8_many 5 = .ok (.invokestatic 127, 3) := by decide +kernel
theorem dX8_many_8 : decode cX8_many 8 = .ok (.ifCond .eq 15, 3) := by decide +kernel
theorem dX8_many_11 : decode cX8_many 11 = .ok (.aload_n 0, 1) := by decide +kernel
theorem dX8_many_12 : decode cX8_many 12 = .ok (.iload_n 1, 1) := by decide +kernel
theorem dX8_many_13 : decode cX8_many 13 = .ok (.iload_n 2, 1) := by decide +kernel
theorem dX8_many_14 : decode cX8_many 14 = .ok (.iload_n 3, 1) := by decide +kernel
theorem dX8_many_15 : decode cX8_many 15 = .ok (.iload 4, 2) := by decide +kernel
theorem dX8_many_17 : decode cX8_many 17 = .ok (.invokevirtual 159, 3) := by decide +kernel
theorem dX8_many_20 : decode cX8_many 20 = .ok (.goto 7, 3) := by decide +kernel
theorem dX8_many_23 : decode cX8_many 23 = .ok (.aload_n 0, 1) := by decide +kernel
theorem dX8_many_24 : decode cX8_many 24 = .ok (.invokevirtual 81, 3) := by decide +kernel
theorem dX8_many_27 : decode cX8_many 27 = .ok (.ireturn, 1) := by decide +kernel
theorem dX8_kth_0 : decode cX8_kth 0 = .ok (.iload_n 1, 1) := by decide +kernel
theorem dX8_kth_1 : decode cX8_kth 1 = .ok (.iload_n 2, 1) := by decide +kernel
theorem dX8_kth_2 : decode cX8_kth 2 = .ok (.iload_n 3, 1) := by decide +kernel
theorem dX8_kth_3 : decode cX8_kth 3 = .ok (.iload 4, 2) := by decide +kernel
theorem dX8_kth_5 : decode cX8_kth 5 = .ok (.invokestatic 127, 3) := by decide +kernel
theorem dX8_kth_8 : decode cX8_kth 8 = .ok (.ifCond .eq 8, 3) := by decide +kernel
theorem dX8_kth_11 : decode cX8_kth 11 = .ok (.iload 5, 2) := by decide +kernel
theorem dX8_kth_13 : decode cX8_kth 13 = .ok (.ifCond .ge 8, 3) := by decide +kernel
theorem dX8_kth_16 : decode cX8_kth 16 = .ok (.aload_n 0, 1) := by decide +kernel
theorem dX8_kth_17 : decode cX8_kth 17 = .ok (.invokevirtual 81, 3) := by decide +kernel
theorem dX8_kth_20 : decode cX8_kth 20 = .ok (.ireturn, 1) := by decide +kernel
theorem dX8_kth_21 : decode cX8_kth 21 = .ok (.aload_n 0, 1) := by decide +kernel
theorem dX8_kth_22 : decode cX8_kth 22 = .ok (.iload_n 1, 1) := by decide +kernel
theorem dX8_kth_23 : decode cX8_kth 23 = .ok (.iload_n 2, 1) := by decide +kernel
theorem dX8_kth_24 : decode cX8_kth 24 = .ok (.iload_n 3, 1) := by decide +kernel
theorem dX8_kth_25 : decode cX8_kth 25 = .ok (.iload 4, 2) := by decide +kernel
theorem dX8_kth_27 : decode cX8_kth 27 = .ok (.invokevirtual 131, 3) := by decide +kernel
theorem dX8_kth_30 : decode cX8_kth 30 = .ok (.iload 5, 2) := by decide +kernel
theorem dX8_kth_32 : decode cX8_kth 32 = .ok (.aload_n 0, 1) := by decide +kernel
theorem dX8_kth_33 : decode cX8_kth 33 = .ok (.getfield 113, 3) := by decide +kernel
theorem dX8_kth_36 : decode cX8_kth 36 = .ok (.if_icmp .ge 21, 3) := by decide +kernel
theorem dX8_kth_39 : decode cX8_kth 39 = .ok (.aload_n 0, 1) := by decide +kernel
theorem dX8_kth_40 : decode cX8_kth 40 = .ok (.getfield 7, 3) := by decide +kernel
theorem dX8_kth_43 : decode cX8_kth 43 = .ok (.bipush 6, 2) := by decide +kernel
theorem dX8_kth_45 : decode cX8_kth 45 = .ok (.aload_n 0, 1) := by decide +kernel
theorem dX8_kth_46 : decode cX8_kth 46 = .ok (.getfield 33, 3) := by decide +kernel
theorem dX8_kth_49 : decode cX8_kth 49 = .ok (.iload 5, 2) := by decide +kernel
theorem dX8_kth_51 : decode cX8_kth 51 = .ok (.iaload, 1) := by decide +kernel
theorem dX8_kth_52 : decode cX8_kth 52 = .ok (.iadd, 1) := by decide +kernel
theorem dX8_kth_53 : decode cX8_kth 53 = .ok (.iaload, 1) := by decide +kernel
theorem dX8_kth_54 : decode cX8_kth 54 = .ok (.goto 5, 3) := by decide +kernel
theorem dX8_kth_57 : decode cX8_kth 57 = .ok (.ldc 152, 2) := by decide +kernel
theorem dX8_kth_59 : decode cX8_kth 59 = .ok (.ireturn, 1) := by decide +kernel
theorem dX8_half_0 : decode cX8_half 0 = .ok (.iload_n 1, 1) := by decide +kernel
theorem dX8_half_1 : decode cX8_half 1 = .ok (.iload_n 2, 1) := by decide +kernel
theorem dX8_half_2 : decode cX8_half 2 = .ok (.iload_n 3, 1) := by decide +kernel
theorem dX8_half_3 : decode cX8_half 3 = .ok (.iload 4, 2) := by decide +kernel
theorem dX8_half_5 : decode cX8_half 5 = .ok (.invokestatic 127, 3) := by decide +kernel
theorem dX8_half_8 : decode cX8_half 8 = .ok (.ifCond .ne 8, 3) := by decide +kernel
theorem dX8_half_11 : decode cX8_half 11 = .ok (.aload_n 0, 1) := by decide +kernel
theorem dX8_half_12 : decode cX8_half 12 = .ok (.invokevirtual 81, 3) := by decide +kernel
theorem dX8_half_15 : decode cX8_half 15 = .ok (.ireturn, 1) := by decide +kernel
theorem dX8_half_16 : decode cX8_half 16 = .ok (.aload_n 0, 1) := by decide +kernel
theorem dX8_half_17 : decode cX8_half 17 = .ok (.iload_n 1, 1) := by decide +kernel
theorem dX8_half_18 : decode cX8_half 18 = .ok (.iload_n 2, 1) := by decide +kernel
theorem dX8_half_19 : decode cX8_half 19 = .ok (.iload_n 3, 1) := by decide +kernel
theorem dX8_half_20 : decode cX8_half 20 = .ok (.iload 4, 2) := by decide +kernel
theorem dX8_half_22 : decode cX8_half 22 = .ok (.invokevirtual 131, 3) := by decide +kernel
theorem dX8_half_25 : decode cX8_half 25 = .ok (.aload_n 0, 1) := by decide +kernel
theorem dX8_half_26 : decode cX8_half 26 = .ok (.getfield 113, 3) := by decide +kernel
theorem dX8_half_29 : decode cX8_half 29 = .ok (.ifCond .ne 8, 3) := by decide +kernel
theorem dX8_half_32 : decode cX8_half 32 = .ok (.ldc 152, 2) := by decide +kernel
theorem dX8_half_34 : decode cX8_half 34 = .ok (.goto 27, 3) := by decide +kernel
theorem dX8_half_37 : decode cX8_half 37 = .ok (.aload_n 0, 1) := by decide +kernel
theorem dX8_half_38 : decode cX8_half 38 = .ok (.getfield 7, 3) := by decide +kernel
theorem dX8_half_41 : decode cX8_half 41 = .ok (.sipush 128, 3) := by decide +kernel
theorem dX8_half_44 : decode cX8_half 44 = .ok (.aload_n 0, 1) := by decide +kernel
theorem dX8_half_45 : decode cX8_half 45 = .ok (.getfield 33, 3) := by decide +kernel
theorem dX8_half_48 : decode cX8_half 48 = .ok (.aload_n 0, 1) := by decide +kernel
theorem dX8_half_49 : decode cX8_half 49 = .ok (.getfield 113, 3) := by decide +kernel
theorem dX8_half_52 : decode cX8_half 52 = .ok (.iconst 1, 1) := by decide +kernel
theorem dX8_half_53 : decode cX8_half 53 = .ok (.iadd, 1) := by decide +kernel
theorem dX8_half_54 : decode cX8_half 54 = .ok (.iconst 2, 1) := by decide +kernel
theorem dX8_half_55 : decode cX8_half 55 = .ok (.idiv, 1) := by decide +kernel
theorem dX8_half_56 : decode cX8_half 56 = .ok (.iconst 1, 1) := by decide +kernel
theorem dX8_half_57 : decode cX8_half 57 = .ok (.isub, 1) := by decide +kernel
theorem dX8_half_58 : decode cX8_half 58 = .ok (.iaload, 1) := by decide +kernel
theorem dX8_half_59 : decode cX8_half 59 = .ok (.iadd, 1) := by decide +kernel
theorem dX8_half_60 : decode cX8_half 60 = .ok (.iaload, 1) := by decide +kernel
theorem dX8_half_61 : decode cX8_half 61 = .ok (.ireturn, 1) := by decide +kernel
theorem dX8_below_0 : decode cX8_below 0 = .ok (.iload_n 1, 1) := by decide +kernel
theorem dX8_below_1 : decode cX8_below 1 = .ok (.invokestatic 53, 3) := by decide +kernel
theorem dX8_below_4 : decode cX8_below 4 = .ok (.ifCond .eq 25, 3) := by decide +kernel
theorem dX8_below_7 : decode cX8_below 7 = .ok (.iload_n 2, 1) := by decide +kernel
theorem dX8_below_8 : decode cX8_below 8 = .ok (.invokestatic 53, 3) := by decide +kernel
theorem dX8_below_11 : decode cX8_below 11 = .ok (.ifCond .eq 18, 3) := by decide +kernel
theorem dX8_below_14 : decode cX8_below 14 = .ok (.aload_n 0, 1) := by decide +kernel
theorem dX8_below_15 : decode cX8_below 15 = .ok (.sipush (-500), 3) := by decide +kernel
theorem dX8_below_18 : decode cX8_below 18 = .ok (.iload_n 1, 1) := by decide +kernel
theorem dX8_below_19 : decode cX8_below 19 = .ok (.sipush (-500), 3) := by decide +kernel
theorem dX8_below_22 : decode cX8_below 22 = .ok (.iload_n 2, 1) := by decide +kernel
theorem dX8_below_23 : decode cX8_below 23 = .ok (.invokevirtual 159, 3) := by decide +kernel
theorem dX8_below_26 : decode cX8_below 26 = .ok (.goto 7, 3) := by decide +kernel
theorem dX8_below_29 : decode cX8_below 29 = .ok (.aload_n 0, 1) := by decide +kernel
theorem dX8_below_30 : decode cX8_below 30 = .ok (.invokevirtual 81, 3) := by decide +kernel
theorem dX8_below_33 : decode cX8_below 33 = .ok (.ireturn, 1) := by decide +kernel
theorem dX8_ring_0 : decode cX8_ring 0 = .ok (.iload_n 1, 1) := by decide +kernel
theorem dX8_ring_1 : decode cX8_ring 1 = .ok (.invokestatic 53, 3) := by decide +kernel
theorem dX8_ring_4 : decode cX8_ring 4 = .ok (.ifCond .eq 22, 3) := by decide +kernel
theorem dX8_ring_7 : decode cX8_ring 7 = .ok (.iload_n 2, 1) := by decide +kernel
theorem dX8_ring_8 : decode cX8_ring 8 = .ok (.invokestatic 53, 3) := by decide +kernel
theorem dX8_ring_11 : decode cX8_ring 11 = .ok (.ifCond .eq 15, 3) := by decide +kernel
theorem dX8_ring_14 : decode cX8_ring 14 = .ok (.iload_n 3, 1) := by decide +kernel
theorem dX8_ring_15 : decode cX8_ring 15 = .ok (.i2l, 1) := by decide +kernel
theorem dX8_ring_16 : decode cX8_ring 16 = .ok (.lconst 1, 1) := by decide +kernel
theorem dX8_ring_17 : decode cX8_ring 17 = .ok (.ldc2_w 163, 3) := by decide +kernel
theorem dX8_ring_20 : decode cX8_ring 20 = .ok (.invokestatic 49, 3) := by decide +kernel
theorem dX8_ring_23 : decode cX8_ring 23 = .ok (.ifCond .ne 8, 3) := by decide +kernel
theorem dX8_ring_26 : decode cX8_ring 26 = .ok (.aload_n 0, 1) := by decide +kernel
theorem dX8_ring_27 : decode cX8_ring 27 = .ok (.invokevirtual 81, 3) := by decide +kernel
theorem dX8_ring_30 : decode cX8_ring 30 = .ok (.ireturn, 1) := by decide +kernel
theorem dX8_ring_31 : decode cX8_ring 31 = .ok (.aload_n 0, 1) := by decide +kernel
theorem dX8_ring_32 : decode cX8_ring 32 = .ok (.invokevirtual 72, 3) := by decide +kernel
theorem dX8_ring_35 : decode cX8_ring 35 = .ok (.iload_n 3, 1) := by decide +kernel
theorem dX8_ring_36 : decode cX8_ring 36 = .ok (.if_icmp .ge 6, 3) := by decide +kernel
theorem dX8_ring_39 : decode cX8_ring 39 = .ok (.ldc 152, 2) := by decide +kernel
theorem dX8_ring_41 : decode cX8_ring 41 = .ok (.ireturn, 1) := by decide +kernel
theorem dX8_ring_42 : decode cX8_ring 42 = .ok (.iconst 0, 1) := by decide +kernel
theorem dX8_ring_43 : decode cX8_ring 43 = .ok (.istore 4, 2) := by decide +kernel
theorem dX8_ring_45 : decode cX8_ring 45 = .ok (.aload_n 0, 1) := by decide +kernel
theorem dX8_ring_46 : decode cX8_ring 46 = .ok (.iload_n 1, 1) := by decide +kernel
theorem dX8_ring_47 : decode cX8_ring 47 = .ok (.iload 4, 2) := by decide +kernel
theorem dX8_ring_49 : decode cX8_ring 49 = .ok (.isub, 1) := by decide +kernel
theorem dX8_ring_50 : decode cX8_ring 50 = .ok (.iload_n 1, 1) := by decide +kernel
theorem dX8_ring_51 : decode cX8_ring 51 = .ok (.iload 4, 2) := by decide +kernel
theorem dX8_ring_53 : decode cX8_ring 53 = .ok (.iadd, 1) := by decide +kernel
theorem dX8_ring_54 : decode cX8_ring 54 = .ok (.iload_n 2, 1) := by decide +kernel
theorem dX8_ring_55 : decode cX8_ring 55 = .ok (.iload 4, 2) := by decide +kernel
theorem dX8_ring_57 : decode cX8_ring 57 = .ok (.isub, 1) := by decide +kernel
theorem dX8_ring_58 : decode cX8_ring 58 = .ok (.iload_n 2, 1) := by decide +kernel
theorem dX8_ring_59 : decode cX8_ring 59 = .ok (.iload 4, 2) := by decide +kernel
theorem dX8_ring_61 : decode cX8_ring 61 = .ok (.iadd, 1) := by decide +kernel
theorem dX8_ring_62 : decode cX8_ring 62 = .ok (.invokevirtual 159, 3) := by decide +kernel
theorem dX8_ring_65 : decode cX8_ring 65 = .ok (.iload_n 3, 1) := by decide +kernel
theorem dX8_ring_66 : decode cX8_ring 66 = .ok (.if_icmp .ge 9, 3) := by decide +kernel
theorem dX8_ring_69 : decode cX8_ring 69 = .ok (.iinc 4 1, 3) := by decide +kernel
theorem dX8_ring_72 : decode cX8_ring 72 = .ok (.goto (-27), 3) := by decide +kernel
theorem dX8_ring_75 : decode cX8_ring 75 = .ok (.iload 4, 2) := by decide +kernel
theorem dX8_ring_77 : decode cX8_ring 77 = .ok (.ireturn, 1) := by decide +kernel
theorem dX8_abs_0 : decode cX8_abs 0 = .ok (.iload_n 0, 1) := by decide +kernel
theorem dX8_abs_1 : decode cX8_abs 1 = .ok (.ifCond .ge 8, 3) := by decide +kernel
theorem dX8_abs_4 : decode cX8_abs 4 = .ok (.iload_n 0, 1) := by decide +kernel
theorem dX8_abs_5 : decode cX8_abs 5 = .ok (.ineg, 1) := by decide +kernel
theorem dX8_abs_6 : decode cX8_abs 6 = .ok (.goto 4, 3) := by decide +kernel
theorem dX8_abs_9 : decode cX8_abs 9 = .ok (.iload_n 0, 1) := by decide +kernel
theorem dX8_abs_10 : decode cX8_abs 10 = .ok (.ireturn, 1) := by decide +kernel
theorem dX8_apart_0 : decode cX8_apart 0 = .ok (.aload_n 0, 1) := by decide +kernel
theorem dX8_apart_1 : decode cX8_apart 1 = .ok (.getfield 7, 3) := by decide +kernel
theorem dX8_apart_4 : decode cX8_apart 4 = .ok (.sipush 128, 3) := by decide +kernel
theorem dX8_apart_7 : decode cX8_apart 7 = .ok (.iload_n 1, 1) := by decide +kernel
theorem dX8_apart_8 : decode cX8_apart 8 = .ok (.iadd, 1) := by decide +kernel
theorem dX8_apart_9 : decode cX8_apart 9 = .ok (.iaload, 1) := by decide +kernel
theorem dX8_apart_10 : decode cX8_apart 10 = .ok (.iload_n 2, 1) := by decide +kernel
theorem dX8_apart_11 : decode cX8_apart 11 = .ok (.isub, 1) := by decide +kernel
theorem dX8_apart_12 : decode cX8_apart 12 = .ok (.invokestatic 165, 3) := by decide +kernel
theorem dX8_apart_15 : decode cX8_apart 15 = .ok (.istore 4, 2) := by decide +kernel
theorem dX8_apart_17 : decode cX8_apart 17 = .ok (.aload_n 0, 1) := by decide +kernel
theorem dX8_apart_18 : decode cX8_apart 18 = .ok (.getfield 7, 3) := by decide +kernel
theorem dX8_apart_21 : decode cX8_apart 21 = .ok (.sipush 250, 3) := by decide +kernel
theorem dX8_apart_24 : decode cX8_apart 24 = .ok (.iload_n 1, 1) := by decide +kernel
theorem dX8_apart_25 : decode cX8_apart 25 = .ok (.iadd, 1) := by decide +kernel
theorem dX8_apart_26 : decode cX8_apart 26 = .ok (.iaload, 1) := by decide +kernel
theorem dX8_apart_27 : decode cX8_apart 27 = .ok (.iload_n 3, 1) := by decide +kernel
theorem dX8_apart_28 : decode cX8_apart 28 = .ok (.isub, 1) := by decide +kernel
theorem dX8_apart_29 : decode cX8_apart 29 = .ok (.invokestatic 165, 3) := by decide +kernel
theorem dX8_apart_32 : decode cX8_apart 32 = .ok (.istore 5, 2) := by decide +kernel
theorem dX8_apart_34 : decode cX8_apart 34 = .ok (.iload 4, 2) := by decide +kernel
theorem dX8_apart_36 : decode cX8_apart 36 = .ok (.iload 5, 2) := by decide +kernel
theorem dX8_apart_38 : decode cX8_apart 38 = .ok (.if_icmp .le 8, 3) := by decide +kernel
theorem dX8_apart_41 : decode cX8_apart 41 = .ok (.iload 4, 2) := by decide +kernel
theorem dX8_apart_43 : decode cX8_apart 43 = .ok (.goto 5, 3) := by decide +kernel
theorem dX8_apart_46 : decode cX8_apart 46 = .ok (.iload 5, 2) := by decide +kernel
theorem dX8_apart_48 : decode cX8_apart 48 = .ok (.ireturn, 1) := by decide +kernel
theorem dX8_near_0 : decode cX8_near 0 = .ok (.iload_n 1, 1) := by decide +kernel
theorem dX8_near_1 : decode cX8_near 1 = .ok (.invokestatic 53, 3) := by decide +kernel
theorem dX8_near_4 : decode cX8_near 4 = .ok (.ifCond .eq 10, 3) := by decide +kernel
theorem dX8_near_7 : decode cX8_near 7 = .ok (.iload_n 2, 1) := by decide +kernel
theorem dX8_near_8 : decode cX8_near 8 = .ok (.invokestatic 53, 3) := by decide +kernel
theorem dX8_near_11 : decode cX8_near 11 = .ok (.ifCond .ne 8, 3) := by decide +kernel
theorem dX8_near_14 : decode cX8_near 14 = .ok (.aload_n 0, 1) := by decide +kernel
theorem dX8_near_15 : decode cX8_near 15 = .ok (.invokevirtual 81, 3) := by decide +kernel
theorem dX8_near_18 : decode cX8_near 18 = .ok (.ireturn, 1) := by decide +kernel
theorem dX8_near_19 : decode cX8_near 19 = .ok (.ldc 152, 2) := by decide +kernel
theorem dX8_near_21 : decode cX8_near 21 = .ok (.istore_n 3, 1) := by decide +kernel
theorem dX8_near_22 : decode cX8_near 22 = .ok (.sipush 2000, 3) := by decide +kernel
theorem dX8_near_25 : decode cX8_near 25 = .ok (.istore 4, 2) := by decide +kernel
theorem dX8_near_27 : decode cX8_near 27 = .ok (.iconst 0, 1) := by decide +kernel
theorem dX8_near_28 : decode cX8_near 28 = .ok (.istore 5, 2) := by decide +kernel
theorem dX8_near_30 : decode cX8_near 30 = .ok (.iload 5, 2) := by decide +kernel
theorem dX8_near_32 : decode cX8_near 32 = .ok (.aload_n 0, 1) := by decide +kernel
theorem dX8_near_33 : decode cX8_near 33 = .ok (.getfield 7, 3) := by decide +kernel
theorem dX8_near_36 : decode cX8_near 36 = .ok (.iconst 0, 1) := by decide +kernel
theorem dX8_near_37 : decode cX8_near 37 = .ok (.iaload, 1) := by decide +kernel
theorem dX8_near_38 : decode cX8_near 38 = .ok (.if_icmp .ge 78, 3) := by decide +kernel
theorem dX8_near_41 : decode cX8_near 41 = .ok (.aload_n 0, 1) := by decide +kernel
theorem dX8_near_42 : decode cX8_near 42 = .ok (.iload 5, 2) := by decide +kernel
theorem dX8_near_44 : decode cX8_near 44 = .ok (.invokevirtual 57, 3) := by decide +kernel
theorem dX8_near_47 : decode cX8_near 47 = .ok (.ifCond .eq 20, 3) := by decide +kernel
theorem dX8_near_50 : decode cX8_near 50 = .ok (.aload_n 0, 1) := by decide +kernel
theorem dX8_near_51 : decode cX8_near 51 = .ok (.iload 5, 2) := by decide +kernel
theorem dX8_near_53 : decode cX8_near 53 = .ok (.iload_n 1, 1) := by decide +kernel
theorem dX8_near_54 : decode cX8_near 54 = .ok (.iload_n 2, 1) := by decide +kernel
theorem dX8_near_55 : decode cX8_near 55 = .ok (.invokevirtual 168, 3) := by decide +kernel
theorem dX8_near_58 : decode cX8_near 58 = .ok (.iload 4, 2) := by decide +kernel
theorem dX8_near_60 : decode cX8_near 60 = .ok (.if_icmp .ge 7, 3) := by decide +kernel
theorem dX8_near_63 : decode cX8_near 63 = .ok (.iconst 1, 1) := by decide +kernel
theorem dX8_near_64 : decode cX8_near 64 = .ok (.goto 4, 3) := by decide +kernel
theorem dX8_near_67 : decode cX8_near 67 = .ok (.iconst 0, 1) := by decide +kernel
theorem dX8_near_68 : decode cX8_near 68 = .ok (.istore 6, 2) := by decide +kernel
theorem dX8_near_70 : decode cX8_near 70 = .ok (.iload 6, 2) := by decide +kernel
theorem dX8_near_72 : decode cX8_near 72 = .ok (.ifCond .eq 16, 3) := by decide +kernel
theorem dX8_near_75 : decode cX8_near 75 = .ok (.aload_n 0, 1) := by decide +kernel
theorem dX8_near_76 : decode cX8_near 76 = .ok (.getfield 7, 3) := by decide +kernel
theorem dX8_near_79 : decode cX8_near 79 = .ok (.bipush 6, 2) := by decide +kernel
theorem dX8_near_81 : decode cX8_near 81 = .ok (.iload 5, 2) := by decide +kernel
theorem dX8_near_83 : decode cX8_near 83 = .ok (.iadd, 1) := by decide +kernel
theorem dX8_near_84 : decode cX8_near 84 = .ok (.iaload, 1) := by decide +kernel
theorem dX8_near_85 : decode cX8_near 85 = .ok (.goto 4, 3) := by decide +kernel
theorem dX8_near_88 : decode cX8_near 88 = .ok (.iload_n 3, 1) := by decide +kernel
theorem dX8_near_89 : decode cX8_near 89 = .ok (.istore_n 3, 1) := by decide +kernel
theorem dX8_near_90 : decode cX8_near 90 = .ok (.iload 6, 2) := by decide +kernel
theorem dX8_near_92 : decode cX8_near 92 = .ok (.ifCond .eq 14, 3) := by decide +kernel
theorem dX8_near_95 : decode cX8_near 95 = .ok (.aload_n 0, 1) := by decide +kernel
theorem dX8_near_96 : decode cX8_near 96 = .ok (.iload 5, 2) := by decide +kernel
theorem dX8_near_98 : decode cX8_near 98 = .ok (.iload_n 1, 1) := by decide +kernel
theorem dX8_near_99 : decode cX8_near 99 = .ok (.iload_n 2, 1) := by decide +kernel
theorem dX8_near_100 : decode cX8_near 100 = .ok (.invokevirtual 168, 3) := by decide +kernel
theorem dX8_near_103 : decode cX8_near 103 = .ok (.goto 5, 3) := by decide +kernel
theorem dX8_near_106 : decode cX8_near 106 = .ok (.iload 4, 2) := by decide +kernel
theorem dX8_near_108 : decode cX8_near 108 = .ok (.istore 4, 2) := by decide +kernel
theorem dX8_near_110 : decode cX8_near 110 = .ok (.iinc 5 1, 3) := by decide +kernel
theorem dX8_near_113 : decode cX8_near 113 = .ok (.goto (-83), 3) := by decide +kernel
theorem dX8_near_116 : decode cX8_near 116 = .ok (.iload_n 3, 1) := by decide +kernel
theorem dX8_near_117 : decode cX8_near 117 = .ok (.ireturn, 1) := by decide +kernel
theorem dX8_strip_0 : decode cX8_strip 0 = .ok (.iload_n 1, 1) := by decide +kernel
theorem dX8_strip_1 : decode cX8_strip 1 = .ok (.i2l, 1) := by decide +kernel
theorem dX8_strip_2 : decode cX8_strip 2 = .ok (.lconst 0, 1) := by decide +kernel
theorem dX8_strip_3 : decode cX8_strip 3 = .ok (.lconst 1, 1) := by decide +kernel
theorem dX8_strip_4 : decode cX8_strip 4 = .ok (.invokestatic 49, 3) := by decide +kernel
theorem dX8_strip_7 : decode cX8_strip 7 = .ok (.ifCond .ne 8, 3) := by decide +kernel
theorem dX8_strip_10 : decode cX8_strip 10 = .ok (.aload_n 0, 1) := by decide +kernel
theorem dX8_strip_11 : decode cX8_strip 11 = .ok (.invokevirtual 81, 3) := by decide +kernel
theorem dX8_strip_14 : decode cX8_strip 14 = .ok (.ireturn, 1) := by decide +kernel
theorem dX8_strip_15 : decode cX8_strip 15 = .ok (.aload_n 0, 1) := by decide +kernel
theorem dX8_strip_16 : decode cX8_strip 16 = .ok (.sipush (-500), 3) := by decide +kernel
theorem dX8_strip_19 : decode cX8_strip 19 = .ok (.sipush 500, 3) := by decide +kernel
theorem dX8_strip_22 : decode cX8_strip 22 = .ok (.sipush (-500), 3) := by decide +kernel
theorem dX8_strip_25 : decode cX8_strip 25 = .ok (.sipush 500, 3) := by decide +kernel
theorem dX8_strip_28 : decode cX8_strip 28 = .ok (.invokevirtual 131, 3) := by decide +kernel
theorem dX8_strip_31 : decode cX8_strip 31 = .ok (.iconst 0, 1) := by decide +kernel
theorem dX8_strip_32 : decode cX8_strip 32 = .ok (.istore_n 2, 1) := by decide +kernel
theorem dX8_strip_33 : decode cX8_strip 33 = .ok (.iconst 0, 1) := by decide +kernel
theorem dX8_strip_34 : decode cX8_strip 34 = .ok (.istore_n 3, 1) := by decide +kernel
theorem dX8_strip_35 : decode cX8_strip 35 = .ok (.iconst 1, 1) := by decide +kernel
theorem dX8_strip_36 : decode cX8_strip 36 = .ok (.istore 4, 2) := by decide +kernel
theorem dX8_strip_38 : decode cX8_strip 38 = .ok (.iload 4, 2) := by decide +kernel
theorem dX8_strip_40 : decode cX8_strip 40 = .ok (.aload_n 0, 1) := by decide +kernel
theorem dX8_strip_41 : decode cX8_strip 41 = .ok (.getfield 113, 3) := by decide +kernel
theorem dX8_strip_44 : decode cX8_strip 44 = .ok (.if_icmp .ge 88, 3) := by decide +kernel
theorem dX8_strip_47 : decode cX8_strip 47 = .ok (.aload_n 0, 1) := by decide +kernel
theorem dX8_strip_48 : decode cX8_strip 48 = .ok (.getfield 7, 3) := by decide +kernel
theorem dX8_strip_51 : decode cX8_strip 51 = .ok (.sipush 128, 3) := by decide +kernel
theorem dX8_strip_54 : decode cX8_strip 54 = .ok (.aload_n 0, 1) := by decide +kernel
theorem dX8_strip_55 : decode cX8_strip 55 = .ok (.getfield 33, 3) := by decide +kernel
theorem dX8_strip_58 : decode cX8_strip 58 = .ok (.iload 4, 2) := by decide +kernel
theorem dX8_strip_60 : decode cX8_strip 60 = .ok (.iaload, 1) := by decide +kernel
theorem dX8_strip_61 : decode cX8_strip 61 = .ok (.iadd, 1) := by decide +kernel
theorem dX8_strip_62 : decode cX8_strip 62 = .ok (.iaload, 1) := by decide +kernel
theorem dX8_strip_63 : decode cX8_strip 63 = .ok (.aload_n 0, 1) := by decide +kernel
theorem dX8_strip_64 : decode cX8_strip 64 = .ok (.getfield 7, 3) := by decide +kernel
theorem dX8_strip_67 : decode cX8_strip 67 = .ok (.sipush 128, 3) := by decide +kernel
theorem dX8_strip_70 : decode cX8_strip 70 = .ok (.aload_n 0, 1) := by decide +kernel
theorem dX8_strip_71 : decode cX8_strip 71 = .ok (.getfield 33, 3) := by decide +kernel
theorem dX8_strip_74 : decode cX8_strip 74 = .ok (.iload 4, 2) := by decide +kernel
theorem dX8_strip_76 : decode cX8_strip 76 = .ok (.iconst 1, 1) := by decide +kernel
theorem dX8_strip_77 : decode cX8_strip 77 = .ok (.isub, 1) := by decide +kernel
theorem dX8_strip_78 : decode cX8_strip 78 = .ok (.iaload, 1) := by decide +kernel
theorem dX8_strip_79 : decode cX8_strip 79 = .ok (.iadd, 1) := by decide +kernel
theorem dX8_strip_80 : decode cX8_strip 80 = .ok (.iaload, 1) := by decide +kernel
theorem dX8_strip_81 : decode cX8_strip 81 = .ok (.isub, 1) := by decide +kernel
theorem dX8_strip_82 : decode cX8_strip 82 = .ok (.istore 5, 2) := by decide +kernel
theorem dX8_strip_84 : decode cX8_strip 84 = .ok (.iload 5, 2) := by decide +kernel
theorem dX8_strip_86 : decode cX8_strip 86 = .ok (.iload_n 2, 1) := by decide +kernel
theorem dX8_strip_87 : decode cX8_strip 87 = .ok (.if_icmp .le 24, 3) := by decide +kernel
theorem dX8_strip_90 : decode cX8_strip 90 = .ok (.aload_n 0, 1) := by decide +kernel
theorem dX8_strip_91 : decode cX8_strip 91 = .ok (.getfield 7, 3) := by decide +kernel
theorem dX8_strip_94 : decode cX8_strip 94 = .ok (.sipush 128, 3) := by decide +kernel
theorem dX8_strip_97 : decode cX8_strip 97 = .ok (.aload_n 0, 1) := by decide +kernel
theorem dX8_strip_98 : decode cX8_strip 98 = .ok (.getfield 33, 3) := by decide +kernel
theorem dX8_strip_101 : decode cX8_strip 101 = .ok (.iload 4, 2) := by decide +kernel
theorem dX8_strip_103 : decode cX8_strip 103 = .ok (.iconst 1, 1) := by decide +kernel
theorem dX8_strip_104 : decode cX8_strip 104 = .ok (.isub, 1) := by decide +kernel
theorem dX8_strip_105 : decode cX8_strip 105 = .ok (.iaload, 1) := by decide +kernel
theorem dX8_strip_106 : decode cX8_strip 106 = .ok (.iadd, 1) := by decide +kernel
theorem dX8_strip_107 : decode cX8_strip 107 = .ok (.iaload, 1) := by decide +kernel
theorem dX8_strip_108 : decode cX8_strip 108 = .ok (.goto 4, 3) := by decide +kernel
theorem dX8_strip_111 : decode cX8_strip 111 = .ok (.iload_n 3, 1) := by decide +kernel
theorem dX8_strip_112 : decode cX8_strip 112 = .ok (.istore_n 3, 1) := by decide +kernel
theorem dX8_strip_113 : decode cX8_strip 113 = .ok (.iload 5, 2) := by decide +kernel
theorem dX8_strip_115 : decode cX8_strip 115 = .ok (.iload_n 2, 1) := by decide +kernel
theorem dX8_strip_116 : decode cX8_strip 116 = .ok (.if_icmp .le 8, 3) := by decide +kernel
theorem dX8_strip_119 : decode cX8_strip 119 = .ok (.iload 5, 2) := by decide +kernel
theorem dX8_strip_121 : decode cX8_strip 121 = .ok (.goto 4, 3) := by decide +kernel
theorem dX8_strip_124 : decode cX8_strip 124 = .ok (.iload_n 2, 1) := by decide +kernel
theorem dX8_strip_125 : decode cX8_strip 125 = .ok (.istore_n 2, 1) := by decide +kernel
theorem dX8_strip_126 : decode cX8_strip 126 = .ok (.iinc 4 1, 3) := by decide +kernel
theorem dX8_strip_129 : decode cX8_strip 129 = .ok (.goto (-91), 3) := by decide +kernel
theorem dX8_strip_132 : decode cX8_strip 132 = .ok (.iload_n 2, 1) := by decide +kernel
theorem dX8_strip_133 : decode cX8_strip 133 = .ok (.ifCond .ne 8, 3) := by decide +kernel
theorem dX8_strip_136 : decode cX8_strip 136 = .ok (.ldc 152, 2) := by decide +kernel
theorem dX8_strip_138 : decode cX8_strip 138 = .ok (.goto 12, 3) := by decide +kernel
theorem dX8_strip_141 : decode cX8_strip 141 = .ok (.iload_n 1, 1) := by decide +kernel
theorem dX8_strip_142 : decode cX8_strip 142 = .ok (.ifCond .ne 7, 3) := by decide +kernel
theorem dX8_strip_145 : decode cX8_strip 145 = .ok (.iload_n 2, 1) := by decide +kernel
theorem dX8_strip_146 : decode cX8_strip 146 = .ok (.goto 4, 3) := by decide +kernel
theorem dX8_strip_149 : decode cX8_strip 149 = .ok (.iload_n 3, 1) := by decide +kernel
theorem dX8_strip_150 : decode cX8_strip 150 = .ok (.ireturn, 1) := by decide +kernel
theorem dX8_square_0 : decode cX8_square 0 = .ok (.iload_n 1, 1) := by decide +kernel
theorem dX8_square_1 : decode cX8_square 1 = .ok (.i2l, 1) := by decide +kernel
theorem dX8_square_2 : decode cX8_square 2 = .ok (.lconst 0, 1) := by decide +kernel
theorem dX8_square_3 : decode cX8_square 3 = .ok (.ldc2_w 172, 3) := by decide +kernel
theorem dX8_square_6 : decode cX8_square 6 = .ok (.invokestatic 49, 3) := by decide +kernel
theorem dX8_square_9 : decode cX8_square 9 = .ok (.ifCond .eq 15, 3) := by decide +kernel
theorem dX8_square_12 : decode cX8_square 12 = .ok (.iload_n 2, 1) := by decide +kernel
theorem dX8_square_13 : decode cX8_square 13 = .ok (.i2l, 1) := by decide +kernel
theorem dX8_square_14 : decode cX8_square 14 = .ok (.lconst 0, 1) := by decide +kernel
theorem dX8_square_15 : decode cX8_square 15 = .ok (.ldc2_w 174, 3) := by decide +kernel
theorem dX8_square_18 : decode cX8_square 18 = .ok (.invokestatic 49, 3) := by decide +kernel
theorem dX8_square_21 : decode cX8_square 21 = .ok (.ifCond .ne 8, 3) := by decide +kernel
theorem dX8_square_24 : decode cX8_square 24 = .ok (.aload_n 0, 1) := by decide +kernel
theorem dX8_square_25 : decode cX8_square 25 = .ok (.invokevirtual 81, 3) := by decide +kernel
theorem dX8_square_28 : decode cX8_square 28 = .ok (.ireturn, 1) := by decide +kernel
theorem dX8_square_29 : decode cX8_square 29 = .ok (.iconst 0, 1) := by decide +kernel
theorem dX8_square_30 : decode cX8_square 30 = .ok (.istore_n 3, 1) := by decide +kernel
theorem dX8_square_31 : decode cX8_square 31 = .ok (.iconst 0, 1) := by decide +kernel
theorem dX8_square_32 : decode cX8_square 32 = .ok (.istore 4, 2) := by decide +kernel
theorem dX8_square_34 : decode cX8_square 34 = .ok (.iconst 0, 1) := by decide +kernel
theorem dX8_square_35 : decode cX8_square 35 = .ok (.istore 5, 2) := by decide +kernel
theorem dX8_square_37 : decode cX8_square 37 = .ok (.iconst 0, 1) := by decide +kernel
theorem dX8_square_38 : decode cX8_square 38 = .ok (.istore 6, 2) := by decide +kernel
theorem dX8_square_40 : decode cX8_square 40 = .ok (.iload 6, 2) := by decide +kernel
theorem dX8_square_42 : decode cX8_square 42 = .ok (.aload_n 0, 1) := by decide +kernel
theorem dX8_square_43 : decode cX8_square 43 = .ok (.getfield 7, 3) := by decide +kernel
theorem dX8_square_46 : decode cX8_square 46 = .ok (.iconst 0, 1) := by decide +kernel
theorem dX8_square_47 : decode cX8_square 47 = .ok (.iaload, 1) := by decide +kernel
theorem dX8_square_48 : decode cX8_square 48 = .ok (.if_icmp .ge 180, 3) := by decide +kernel
theorem dX8_square_51 : decode cX8_square 51 = .ok (.iconst 0, 1) := by decide +kernel
theorem dX8_square_52 : decode cX8_square 52 = .ok (.istore 7, 2) := by decide +kernel
theorem dX8_square_54 : decode cX8_square 54 = .ok (.iload 7, 2) := by decide +kernel
theorem dX8_square_56 : decode cX8_square 56 = .ok (.aload_n 0, 1) := by decide +kernel
theorem dX8_square_57 : decode cX8_square 57 = .ok (.getfield 7, 3) := by decide +kernel
theorem dX8_square_60 : decode cX8_square 60 = .ok (.iconst 0, 1) := by decide +kernel
theorem dX8_square_61 : decode cX8_square 61 = .ok (.iaload, 1) := by decide +kernel
theorem dX8_square_62 : decode cX8_square 62 = .ok (.if_icmp .ge 160, 3) := by decide +kernel
theorem dX8_square_65 : decode cX8_square 65 = .ok (.aload_n 0, 1) := by decide +kernel
theorem dX8_square_66 : decode cX8_square 66 = .ok (.getfield 7, 3) := by decide +kernel
theorem dX8_square_69 : decode cX8_square 69 = .ok (.sipush 128, 3) := by decide +kernel
theorem dX8_square_72 : decode cX8_square 72 = .ok (.iload 6, 2) := by decide +kernel
theorem dX8_square_74 : decode cX8_square 74 = .ok (.iadd, 1) := by decide +kernel
theorem dX8_square_75 : decode cX8_square 75 = .ok (.iaload, 1) := by decide +kernel
theorem dX8_square_76 : decode cX8_square 76 = .ok (.istore 8, 2) := by decide +kernel
theorem dX8_square_78 : decode cX8_square 78 = .ok (.aload_n 0, 1) := by decide +kernel
theorem dX8_square_79 : decode cX8_square 79 = .ok (.getfield 7, 3) := by decide +kernel
theorem dX8_square_82 : decode cX8_square 82 = .ok (.sipush 250, 3) := by decide +kernel
theorem dX8_square_85 : decode cX8_square 85 = .ok (.iload 7, 2) := by decide +kernel
theorem dX8_square_87 : decode cX8_square 87 = .ok (.iadd, 1) := by decide +kernel
theorem dX8_square_88 : decode cX8_square 88 = .ok (.iaload, 1) := by decide +kernel
theorem dX8_square_89 : decode cX8_square 89 = .ok (.istore 9, 2) := by decide +kernel
theorem dX8_square_91 : decode cX8_square 91 = .ok (.aload_n 0, 1) := by decide +kernel
theorem dX8_square_92 : decode cX8_square 92 = .ok (.iload 6, 2) := by decide +kernel
theorem dX8_square_94 : decode cX8_square 94 = .ok (.invokevirtual 57, 3) := by decide +kernel
theorem dX8_square_97 : decode cX8_square 97 = .ok (.ifCond .eq 31, 3) := by decide +kernel
theorem dX8_square_100 : decode cX8_square 100 = .ok (.aload_n 0, 1) := by decide +kernel
theorem dX8_square_101 : decode cX8_square 101 = .ok (.iload 7, 2) := by decide +kernel
theorem dX8_square_103 : decode cX8_square 103 = .ok (.invokevirtual 57, 3) := by decide +kernel
theorem dX8_square_106 : decode cX8_square 106 = .ok (.ifCond .eq 22, 3) := by decide +kernel
theorem dX8_square_109 : decode cX8_square 109 = .ok (.aload_n 0, 1) := by decide +kernel
theorem dX8_square_110 : decode cX8_square 110 = .ok (.iload 8, 2) := by decide +kernel
theorem dX8_square_112 : decode cX8_square 112 = .ok (.iload 8, 2) := by decide +kernel
theorem dX8_square_114 : decode cX8_square 114 = .ok (.iload_n 1, 1) := by decide +kernel
theorem dX8_square_115 : decode cX8_square 115 = .ok (.iadd, 1) := by decide +kernel
theorem dX8_square_116 : decode cX8_square 116 = .ok (.iload 9, 2) := by decide +kernel
theorem dX8_square_118 : decode cX8_square 118 = .ok (.iload 9, 2) := by decide +kernel
theorem dX8_square_120 : decode cX8_square 120 = .ok (.iload_n 1, 1) := by decide +kernel
theorem dX8_square_121 : decode cX8_square 121 = .ok (.iadd, 1) := by decide +kernel
theorem dX8_square_122 : decode cX8_square 122 = .ok (.invokevirtual 159, 3) := by decide +kernel
theorem dX8_square_125 : decode cX8_square 125 = .ok (.goto 4, 3) := by decide +kernel
theorem dX8_square_128 : decode cX8_square 128 = .ok (.iconst 0, 1) := by decide +kernel
theorem dX8_square_129 : decode cX8_square 129 = .ok (.istore 10, 2) := by decide +kernel
theorem dX8_square_131 : decode cX8_square 131 = .ok (.iload 10, 2) := by decide +kernel
theorem dX8_square_133 : decode cX8_square 133 = .ok (.iload_n 3, 1) := by decide +kernel
theorem dX8_square_134 : decode cX8_square 134 = .ok (.if_icmp .gt 35, 3) := by decide +kernel
theorem dX8_square_137 : decode cX8_square 137 = .ok (.iload 10, 2) := by decide +kernel
theorem dX8_square_139 : decode cX8_square 139 = .ok (.iload_n 3, 1) := by decide +kernel
theorem dX8_square_140 : decode cX8_square 140 = .ok (.if_icmp .ne 33, 3) := by decide +kernel
theorem dX8_square_143 : decode cX8_square 143 = .ok (.iload 10, 2) := by decide +kernel
theorem dX8_square_145 : decode cX8_square 145 = .ok (.ifCond .le 28, 3) := by decide +kernel
theorem dX8_square_148 : decode cX8_square 148 = .ok (.iload 8, 2) := by decide +kernel
theorem dX8_square_150 : decode cX8_square 150 = .ok (.iload 4, 2) := by decide +kernel
theorem dX8_square_152 : decode cX8_square 152 = .ok (.if_icmp .lt 17, 3) := by decide +kernel
theorem dX8_square_155 : decode cX8_square 155 = .ok (.iload 8, 2) := by decide +kernel
theorem dX8_square_157 : decode cX8_square 157 = .ok (.iload 4, 2) := by decide +kernel
theorem dX8_square_159 : decode cX8_square 159 = .ok (.if_icmp .ne 14, 3) := by decide +kernel
theorem dX8_square_162 : decode cX8_square 162 = .ok (.iload 9, 2) := by decide +kernel
theorem dX8_square_164 : decode cX8_square 164 = .ok (.iload 5, 2) := by decide +kernel
theorem dX8_square_166 : decode cX8_square 166 = .ok (.if_icmp .ge 7, 3) := by decide +kernel
theorem dX8_square_169 : decode cX8_square 169 = .ok (.iconst 1, 1) := by decide +kernel
theorem dX8_square_170 : decode cX8_square 170 = .ok (.goto 4, 3) := by decide +kernel
theorem dX8_square_173 : decode cX8_square 173 = .ok (.iconst 0, 1) := by decide +kernel
theorem dX8_square_174 : decode cX8_square 174 = .ok (.istore 11, 2) := by decide +kernel
theorem dX8_square_176 : decode cX8_square 176 = .ok (.iload 11, 2) := by decide +kernel
theorem dX8_square_178 : decode cX8_square 178 = .ok (.ifCond .eq 8, 3) := by decide +kernel
theorem dX8_square_181 : decode cX8_square 181 = .ok (.iload 10, 2) := by decide +kernel
theorem dX8_square_183 : decode cX8_square 183 = .ok (.goto 4, 3) := by decide +kernel
theorem dX8_square_186 : decode cX8_square 186 = .ok (.iload_n 3, 1) := by decide +kernel
theorem dX8_square_187 : decode cX8_square 187 = .ok (.istore_n 3, 1) := by decide +kernel
theorem dX8_square_188 : decode cX8_square 188 = .ok (.iload 11, 2) := by decide +kernel
theorem dX8_square_190 : decode cX8_square 190 = .ok (.ifCond .eq 8, 3) := by decide +kernel
theorem dX8_square_193 : decode cX8_square 193 = .ok (.iload 8, 2) := by decide +kernel
theorem dX8_square_195 : decode cX8_square 195 = .ok (.goto 5, 3) := by decide +kernel
theorem dX8_square_198 : decode cX8_square 198 = .ok (.iload 4, 2) := by decide +kernel
theorem dX8_square_200 : decode cX8_square 200 = .ok (.istore 4, 2) := by decide +kernel
theorem dX8_square_202 : decode cX8_square 202 = .ok (.iload 11, 2) := by decide +kernel
theorem dX8_square_204 : decode cX8_square 204 = .ok (.ifCond .eq 8, 3) := by decide +kernel
theorem dX8_square_207 : decode cX8_square 207 = .ok (.iload 9, 2) := by decide +kernel
theorem dX8_square_209 : decode cX8_square 209 = .ok (.goto 5, 3) := by decide +kernel
theorem dX8_square_212 : decode cX8_square 212 = .ok (.iload 5, 2) := by decide +kernel
theorem dX8_square_214 : decode cX8_square 214 = .ok (.istore 5, 2) := by decide +kernel
theorem dX8_square_216 : decode cX8_square 216 = .ok (.iinc 7 1, 3) := by decide +kernel
theorem dX8_square_219 : decode cX8_square 219 = .ok (.goto (-165), 3) := by decide +kernel
theorem dX8_square_222 : decode cX8_square 222 = .ok (.iinc 6 1, 3) := by decide +kernel
theorem dX8_square_225 : decode cX8_square 225 = .ok (.goto (-185), 3) := by decide +kernel
theorem dX8_square_228 : decode cX8_square 228 = .ok (.iload_n 3, 1) := by decide +kernel
theorem dX8_square_229 : decode cX8_square 229 = .ok (.ifCond .ne 8, 3) := by decide +kernel
theorem dX8_square_232 : decode cX8_square 232 = .ok (.ldc 152, 2) := by decide +kernel
theorem dX8_square_234 : decode cX8_square 234 = .ok (.goto 23, 3) := by decide +kernel
theorem dX8_square_237 : decode cX8_square 237 = .ok (.iload_n 2, 1) := by decide +kernel
theorem dX8_square_238 : decode cX8_square 238 = .ok (.ifCond .ne 7, 3) := by decide +kernel
theorem dX8_square_241 : decode cX8_square 241 = .ok (.iload_n 3, 1) := by decide +kernel
theorem dX8_square_242 : decode cX8_square 242 = .ok (.goto 15, 3) := by decide +kernel
theorem dX8_square_245 : decode cX8_square 245 = .ok (.iload_n 2, 1) := by decide +kernel
theorem dX8_square_246 : decode cX8_square 246 = .ok (.iconst 1, 1) := by decide +kernel
theorem dX8_square_247 : decode cX8_square 247 = .ok (.if_icmp .ne 8, 3) := by decide +kernel
theorem dX8_square_250 : decode cX8_square 250 = .ok (.iload 4, 2) := by decide +kernel
theorem dX8_square_252 : decode cX8_square 252 = .ok (.goto 5, 3) := by decide +kernel
theorem dX8_square_255 : decode cX8_square 255 = .ok (.iload 5, 2) := by decide +kernel
theorem dX8_square_257 : decode cX8_square 257 = .ok (.ireturn, 1) := by decide +kernel
theorem dX8_pairs_0 : decode cX8_pairs 0 = .ok (.iconst 0, 1) := by decide +kernel
theorem dX8_pairs_1 : decode cX8_pairs 1 = .ok (.istore_n 1, 1) := by decide +kernel
theorem dX8_pairs_2 : decode cX8_pairs 2 = .ok (.iconst 0, 1) := by decide +kernel
theorem dX8_pairs_3 : decode cX8_pairs 3 = .ok (.istore_n 2, 1) := by decide +kernel
theorem dX8_pairs_4 : decode cX8_pairs 4 = .ok (.iload_n 2, 1) := by decide +kernel
theorem dX8_pairs_5 : decode cX8_pairs 5 = .ok (.aload_n 0, 1) := by decide +kernel
theorem dX8_pairs_6 : decode cX8_pairs 6 = .ok (.getfield 7, 3) := by decide +kernel
theorem dX8_pairs_9 : decode cX8_pairs 9 = .ok (.iconst 0, 1) := by decide +kernel
theorem dX8_pairs_10 : decode cX8_pairs 10 = .ok (.iaload, 1) := by decide +kernel
theorem dX8_pairs_11 : decode cX8_pairs 11 = .ok (.if_icmp .ge 97, 3) := by decide +kernel
theorem dX8_pairs_14 : decode cX8_pairs 14 = .ok (.iconst 0, 1) := by decide +kernel
theorem dX8_pairs_15 : decode cX8_pairs 15 = .ok (.istore_n 3, 1) := by decide +kernel
theorem dX8_pairs_16 : decode cX8_pairs 16 = .ok (.iload_n 3, 1) := by decide +kernel
theorem dX8_pairs_17 : decode cX8_pairs 17 = .ok (.aload_n 0, 1) := by decide +kernel
theorem dX8_pairs_18 : decode cX8_pairs 18 = .ok (.getfield 7, 3) := by decide +kernel
theorem dX8_pairs_21 : decode cX8_pairs 21 = .ok (.iconst 0, 1) := by decide +kernel
theorem dX8_pairs_22 : decode cX8_pairs 22 = .ok (.iaload, 1) := by decide +kernel
theorem dX8_pairs_23 : decode cX8_pairs 23 = .ok (.if_icmp .ge 79, 3) := by decide +kernel
theorem dX8_pairs_26 : decode cX8_pairs 26 = .ok (.iload_n 1, 1) := by decide +kernel
theorem dX8_pairs_27 : decode cX8_pairs 27 = .ok (.aload_n 0, 1) := by decide +kernel
theorem dX8_pairs_28 : decode cX8_pairs 28 = .ok (.iload_n 2, 1) := by decide +kernel
theorem dX8_pairs_29 : decode cX8_pairs 29 = .ok (.invokevirtual 57, 3) := by decide +kernel
theorem dX8_pairs_32 : decode cX8_pairs 32 = .ok (.ifCond .eq 61, 3) := by decide +kernel
theorem dX8_pairs_35 : decode cX8_pairs 35 = .ok (.aload_n 0, 1) := by decide +kernel
theorem dX8_pairs_36 : decode cX8_pairs 36 = .ok (.iload_n 3, 1) := by decide +kernel
theorem dX8_pairs_37 : decode cX8_pairs 37 = .ok (.invokevirtual 57, 3) := by decide +kernel
theorem dX8_pairs_40 : decode cX8_pairs 40 = .ok (.ifCond .eq 53, 3) := by decide +kernel
theorem dX8_pairs_43 : decode cX8_pairs 43 = .ok (.aload_n 0, 1) := by decide +kernel
theorem dX8_pairs_44 : decode cX8_pairs 44 = .ok (.getfield 7, 3) := by decide +kernel
theorem dX8_pairs_47 : decode cX8_pairs 47 = .ok (.sipush 128, 3) := by decide +kernel
theorem dX8_pairs_50 : decode cX8_pairs 50 = .ok (.iload_n 2, 1) := by decide +kernel
theorem dX8_pairs_51 : decode cX8_pairs 51 = .ok (.iadd, 1) := by decide +kernel
theorem dX8_pairs_52 : decode cX8_pairs 52 = .ok (.iaload, 1) := by decide +kernel
theorem dX8_pairs_53 : decode cX8_pairs 53 = .ok (.aload_n 0, 1) := by decide +kernel
theorem dX8_pairs_54 : decode cX8_pairs 54 = .ok (.getfield 7, 3) := by decide +kernel
theorem dX8_pairs_57 : decode cX8_pairs 57 = .ok (.sipush 128, 3) := by decide +kernel
theorem dX8_pairs_60 : decode cX8_pairs 60 = .ok (.iload_n 3, 1) := by decide +kernel
theorem dX8_pairs_61 : decode cX8_pairs 61 = .ok (.iadd, 1) := by decide +kernel
theorem dX8_pairs_62 : decode cX8_pairs 62 = .ok (.iaload, 1) := by decide +kernel
theorem dX8_pairs_63 : decode cX8_pairs 63 = .ok (.if_icmp .ge 30, 3) := by decide +kernel
theorem dX8_pairs_66 : decode cX8_pairs 66 = .ok (.aload_n 0, 1) := by decide +kernel
theorem dX8_pairs_67 : decode cX8_pairs 67 = .ok (.getfield 7, 3) := by decide +kernel
theorem dX8_pairs_70 : decode cX8_pairs 70 = .ok (.sipush 250, 3) := by decide +kernel
theorem dX8_pairs_73 : decode cX8_pairs 73 = .ok (.iload_n 2, 1) := by decide +kernel
theorem dX8_pairs_74 : decode cX8_pairs 74 = .ok (.iadd, 1) := by decide +kernel
theorem dX8_pairs_75 : decode cX8_pairs 75 = .ok (.iaload, 1) := by decide +kernel
theorem dX8_pairs_76 : decode cX8_pairs 76 = .ok (.aload_n 0, 1) := by decide +kernel
theorem dX8_pairs_77 : decode cX8_pairs 77 = .ok (.getfield 7, 3) := by decide +kernel
theorem dX8_pairs_80 : decode cX8_pairs 80 = .ok (.sipush 250, 3) := by decide +kernel
theorem dX8_pairs_83 : decode cX8_pairs 83 = .ok (.iload_n 3, 1) := by decide +kernel
theorem dX8_pairs_84 : decode cX8_pairs 84 = .ok (.iadd, 1) := by decide +kernel
theorem dX8_pairs_85 : decode cX8_pairs 85 = .ok (.iaload, 1) := by decide +kernel
theorem dX8_pairs_86 : decode cX8_pairs 86 = .ok (.if_icmp .ge 7, 3) := by decide +kernel
theorem dX8_pairs_89 : decode cX8_pairs 89 = .ok (.iconst 1, 1) := by decide +kernel
theorem dX8_pairs_90 : decode cX8_pairs 90 = .ok (.goto 4, 3) := by decide +kernel
theorem dX8_pairs_93 : decode cX8_pairs 93 = .ok (.iconst 0, 1) := by decide +kernel
theorem dX8_pairs_94 : decode cX8_pairs 94 = .ok (.iadd, 1) := by decide +kernel
theorem dX8_pairs_95 : decode cX8_pairs 95 = .ok (.istore_n 1, 1) := by decide +kernel
theorem dX8_pairs_96 : decode cX8_pairs 96 = .ok (.iinc 3 1, 3) := by decide +kernel
theorem dX8_pairs_99 : decode cX8_pairs 99 = .ok (.goto (-83), 3) := by decide +kernel
theorem dX8_pairs_102 : decode cX8_pairs 102 = .ok (.iinc 2 1, 3) := by decide +kernel
theorem dX8_pairs_105 : decode cX8_pairs 105 = .ok (.goto (-101), 3) := by decide +kernel
theorem dX8_pairs_108 : decode cX8_pairs 108 = .ok (.iload_n 1, 1) := by decide +kernel
theorem dX8_pairs_109 : decode cX8_pairs 109 = .ok (.ireturn, 1) := by decide +kernel
theorem dX8_isStair_0 : decode cX8_isStair 0 = .ok (.iconst 0, 1) := by decide +kernel
theorem dX8_isStair_1 : decode cX8_isStair 1 = .ok (.istore_n 2, 1) := by decide +kernel
theorem dX8_isStair_2 : decode cX8_isStair 2 = .ok (.iload_n 2, 1) := by decide +kernel
theorem dX8_isStair_3 : decode cX8_isStair 3 = .ok (.aload_n 0, 1) := by decide +kernel
theorem dX8_isStair_4 : decode cX8_isStair 4 = .ok (.getfield 7, 3) := by decide +kernel
theorem dX8_isStair_7 : decode cX8_isStair 7 = .ok (.iconst 0, 1) := by decide +kernel
theorem dX8_isStair_8 : decode cX8_isStair 8 = .ok (.iaload, 1) := by decide +kernel
theorem dX8_isStair_9 : decode cX8_isStair 9 = .ok (.if_icmp .ge 121, 3) := by decide +kernel
theorem dX8_isStair_12 : decode cX8_isStair 12 = .ok (.aload_n 0, 1) := by decide +kernel
theorem dX8_isStair_13 : decode cX8_isStair 13 = .ok (.getfield 7, 3) := by decide +kernel
theorem dX8_isStair_16 : decode cX8_isStair 16 = .ok (.sipush 128, 3) := by decide +kernel
theorem dX8_isStair_19 : decode cX8_isStair 19 = .ok (.iload_n 2, 1) := by decide +kernel
theorem dX8_isStair_20 : decode cX8_isStair 20 = .ok (.iadd, 1) := by decide +kernel
theorem dX8_isStair_21 : decode cX8_isStair 21 = .ok (.iaload, 1) := by decide +kernel
theorem dX8_isStair_22 : decode cX8_isStair 22 = .ok (.aload_n 0, 1) := by decide +kernel
theorem dX8_isStair_23 : decode cX8_isStair 23 = .ok (.getfield 7, 3) := by decide +kernel
theorem dX8_isStair_26 : decode cX8_isStair 26 = .ok (.sipush 128, 3) := by decide +kernel
theorem dX8_isStair_29 : decode cX8_isStair 29 = .ok (.iload_n 1, 1) := by decide +kernel
theorem dX8_isStair_30 : decode cX8_isStair 30 = .ok (.iadd, 1) := by decide +kernel
theorem dX8_isStair_31 : decode cX8_isStair 31 = .ok (.iaload, 1) := by decide +kernel
theorem dX8_isStair_32 : decode cX8_isStair 32 = .ok (.if_icmp .ne 30, 3) := by decide +kernel
theorem dX8_isStair_35 : decode cX8_isStair 35 = .ok (.aload_n 0, 1) := by decide +kernel
theorem dX8_isStair_36 : decode cX8_isStair 36 = .ok (.getfield 7, 3) := by decide +kernel
theorem dX8_isStair_39 : decode cX8_isStair 39 = .ok (.sipush 250, 3) := by decide +kernel
theorem dX8_isStair_42 : decode cX8_isStair 42 = .ok (.iload_n 2, 1) := by decide +kernel
theorem dX8_isStair_43 : decode cX8_isStair 43 = .ok (.iadd, 1) := by decide +kernel
theorem dX8_isStair_44 : decode cX8_isStair 44 = .ok (.iaload, 1) := by decide +kernel
theorem dX8_isStair_45 : decode cX8_isStair 45 = .ok (.aload_n 0, 1) := by decide +kernel
theorem dX8_isStair_46 : decode cX8_isStair 46 = .ok (.getfield 7, 3) := by decide +kernel
theorem dX8_isStair_49 : decode cX8_isStair 49 = .ok (.sipush 250, 3) := by decide +kernel
theorem dX8_isStair_52 : decode cX8_isStair 52 = .ok (.iload_n 1, 1) := by decide +kernel
theorem dX8_isStair_53 : decode cX8_isStair 53 = .ok (.iadd, 1) := by decide +kernel
theorem dX8_isStair_54 : decode cX8_isStair 54 = .ok (.iaload, 1) := by decide +kernel
theorem dX8_isStair_55 : decode cX8_isStair 55 = .ok (.if_icmp .ne 7, 3) := by decide +kernel
theorem dX8_isStair_58 : decode cX8_isStair 58 = .ok (.iconst 1, 1) := by decide +kernel
theorem dX8_isStair_59 : decode cX8_isStair 59 = .ok (.goto 4, 3) := by decide +kernel
theorem dX8_isStair_62 : decode cX8_isStair 62 = .ok (.iconst 0, 1) := by decide +kernel
theorem dX8_isStair_63 : decode cX8_isStair 63 = .ok (.istore_n 3, 1) := by decide +kernel
theorem dX8_isStair_64 : decode cX8_isStair 64 = .ok (.aload_n 0, 1) := by decide +kernel
theorem dX8_isStair_65 : decode cX8_isStair 65 = .ok (.iload_n 2, 1) := by decide +kernel
theorem dX8_isStair_66 : decode cX8_isStair 66 = .ok (.invokevirtual 57, 3) := by decide +kernel
theorem dX8_isStair_69 : decode cX8_isStair 69 = .ok (.ifCond .eq 55, 3) := by decide +kernel
theorem dX8_isStair_72 : decode cX8_isStair 72 = .ok (.iload_n 3, 1) := by decide +kernel
theorem dX8_isStair_73 : decode cX8_isStair 73 = .ok (.ifCond .ne 51, 3) := by decide +kernel
theorem dX8_isStair_76 : decode cX8_isStair 76 = .ok (.aload_n 0, 1) := by decide +kernel
theorem dX8_isStair_77 : decode cX8_isStair 77 = .ok (.getfield 7, 3) := by decide +kernel
theorem dX8_isStair_80 : decode cX8_isStair 80 = .ok (.sipush 128, 3) := by decide +kernel
theorem dX8_isStair_83 : decode cX8_isStair 83 = .ok (.iload_n 2, 1) := by decide +kernel
theorem dX8_isStair_84 : decode cX8_isStair 84 = .ok (.iadd, 1) := by decide +kernel
theorem dX8_isStair_85 : decode cX8_isStair 85 = .ok (.iaload, 1) := by decide +kernel
theorem dX8_isStair_86 : decode cX8_isStair 86 = .ok (.aload_n 0, 1) := by decide +kernel
theorem dX8_isStair_87 : decode cX8_isStair 87 = .ok (.getfield 7, 3) := by decide +kernel
theorem dX8_isStair_90 : decode cX8_isStair 90 = .ok (.sipush 128, 3) := by decide +kernel
theorem dX8_isStair_93 : decode cX8_isStair 93 = .ok (.iload_n 1, 1) := by decide +kernel
theorem dX8_isStair_94 : decode cX8_isStair 94 = .ok (.iadd, 1) := by decide +kernel
theorem dX8_isStair_95 : decode cX8_isStair 95 = .ok (.iaload, 1) := by decide +kernel
theorem dX8_isStair_96 : decode cX8_isStair 96 = .ok (.if_icmp .lt 28, 3) := by decide +kernel
theorem dX8_isStair_99 : decode cX8_isStair 99 = .ok (.aload_n 0, 1) := by decide +kernel
theorem dX8_isStair_100 : decode cX8_isStair 100 = .ok (.getfield 7, 3) := by decide +kernel
theorem dX8_isStair_103 : decode cX8_isStair 103 = .ok (.sipush 250, 3) := by decide +kernel
theorem dX8_isStair_106 : decode cX8_isStair 106 = .ok (.iload_n 2, 1) := by decide +kernel
theorem dX8_isStair_107 : decode cX8_isStair 107 = .ok (.iadd, 1) := by decide +kernel
theorem dX8_isStair_108 : decode cX8_isStair 108 = .ok (.iaload, 1) := by decide +kernel
theorem dX8_isStair_109 : decode cX8_isStair 109 = .ok (.aload_n 0, 1) := by decide +kernel
theorem dX8_isStair_110 : decode cX8_isStair 110 = .ok (.getfield 7, 3) := by decide +kernel
theorem dX8_isStair_113 : decode cX8_isStair 113 = .ok (.sipush 250, 3) := by decide +kernel
theorem dX8_isStair_116 : decode cX8_isStair 116 = .ok (.iload_n 1, 1) := by decide +kernel
theorem dX8_isStair_117 : decode cX8_isStair 117 = .ok (.iadd, 1) := by decide +kernel
theorem dX8_isStair_118 : decode cX8_isStair 118 = .ok (.iaload, 1) := by decide +kernel
theorem dX8_isStair_119 : decode cX8_isStair 119 = .ok (.if_icmp .lt 5, 3) := by decide +kernel
theorem dX8_isStair_122 : decode cX8_isStair 122 = .ok (.iconst 0, 1) := by decide +kernel
theorem dX8_isStair_123 : decode cX8_isStair 123 = .ok (.ireturn, 1) := by decide +kernel
theorem dX8_isStair_124 : decode cX8_isStair 124 = .ok (.iinc 2 1, 3) := by decide +kernel
theorem dX8_isStair_127 : decode cX8_isStair 127 = .ok (.goto (-125), 3) := by decide +kernel
theorem dX8_isStair_130 : decode cX8_isStair 130 = .ok (.iconst 1, 1) := by decide +kernel
theorem dX8_isStair_131 : decode cX8_isStair 131 = .ok (.ireturn, 1) := by decide +kernel
theorem dX8_stair_0 : decode cX8_stair 0 = .ok (.iload_n 1, 1) := by decide +kernel
theorem dX8_stair_1 : decode cX8_stair 1 = .ok (.iconst (-1), 1) := by decide +kernel
theorem dX8_stair_2 : decode cX8_stair 2 = .ok (.if_icmp .ge 8, 3) := by decide +kernel
theorem dX8_stair_5 : decode cX8_stair 5 = .ok (.aload_n 0, 1) := by decide +kernel
theorem dX8_stair_6 : decode cX8_stair 6 = .ok (.invokevirtual 81, 3) := by decide +kernel
theorem dX8_stair_9 : decode cX8_stair 9 = .ok (.ireturn, 1) := by decide +kernel
theorem dX8_stair_10 : decode cX8_stair 10 = .ok (.aload_n 0, 1) := by decide +kernel
theorem dX8_stair_11 : decode cX8_stair 11 = .ok (.iconst 0, 1) := by decide +kernel
theorem dX8_stair_12 : decode cX8_stair 12 = .ok (.putfield 113, 3) := by decide +kernel
theorem dX8_stair_15 : decode cX8_stair 15 = .ok (.iconst 0, 1) := by decide +kernel
theorem dX8_stair_16 : decode cX8_stair 16 = .ok (.istore_n 2, 1) := by decide +kernel
theorem dX8_stair_17 : decode cX8_stair 17 = .ok (.iload_n 2, 1) := by decide +kernel
theorem dX8_stair_18 : decode cX8_stair 18 = .ok (.aload_n 0, 1) := by decide +kernel
theorem dX8_stair_19 : decode cX8_stair 19 = .ok (.getfield 7, 3) := by decide +kernel
theorem dX8_stair_22 : decode cX8_stair 22 = .ok (.iconst 0, 1) := by decide +kernel
theorem dX8_stair_23 : decode cX8_stair 23 = .ok (.iaload, 1) := by decide +kernel
theorem dX8_stair_24 : decode cX8_stair 24 = .ok (.if_icmp .ge 30, 3) := by decide +kernel
theorem dX8_stair_27 : decode cX8_stair 27 = .ok (.aload_n 0, 1) := by decide +kernel
theorem dX8_stair_28 : decode cX8_stair 28 = .ok (.iload_n 2, 1) := by decide +kernel
theorem dX8_stair_29 : decode cX8_stair 29 = .ok (.invokevirtual 57, 3) := by decide +kernel
theorem dX8_stair_32 : decode cX8_stair 32 = .ok (.ifCond .eq 16, 3) := by decide +kernel
theorem dX8_stair_35 : decode cX8_stair 35 = .ok (.aload_n 0, 1) := by decide +kernel
theorem dX8_stair_36 : decode cX8_stair 36 = .ok (.iload_n 2, 1) := by decide +kernel
theorem dX8_stair_37 : decode cX8_stair 37 = .ok (.invokevirtual 176, 3) := by decide +kernel
theorem dX8_stair_40 : decode cX8_stair 40 = .ok (.ifCond .eq 8, 3) := by decide +kernel
theorem dX8_stair_43 : decode cX8_stair 43 = .ok (.aload_n 0, 1) := by decide +kernel
theorem dX8_stair_44 : decode cX8_stair 44 = .ok (.iload_n 2, 1) := by decide +kernel
theorem dX8_stair_45 : decode cX8_stair 45 = .ok (.invokevirtual 124, 3) := by decide +kernel
theorem dX8_stair_48 : decode cX8_stair 48 = .ok (.iinc 2 1, 3) := by decide +kernel
theorem dX8_stair_51 : decode cX8_stair 51 = .ok (.goto (-34), 3) := by decide +kernel
theorem dX8_stair_54 : decode cX8_stair 54 = .ok (.iload_n 1, 1) := by decide +kernel
theorem dX8_stair_55 : decode cX8_stair 55 = .ok (.iconst (-1), 1) := by decide +kernel
theorem dX8_stair_56 : decode cX8_stair 56 = .ok (.if_icmp .ne 10, 3) := by decide +kernel
theorem dX8_stair_59 : decode cX8_stair 59 = .ok (.aload_n 0, 1) := by decide +kernel
theorem dX8_stair_60 : decode cX8_stair 60 = .ok (.getfield 113, 3) := by decide +kernel
theorem dX8_stair_63 : decode cX8_stair 63 = .ok (.goto 30, 3) := by decide +kernel
theorem dX8_stair_66 : decode cX8_stair 66 = .ok (.iload_n 1, 1) := by decide +kernel
theorem dX8_stair_67 : decode cX8_stair 67 = .ok (.aload_n 0, 1) := by decide +kernel
theorem dX8_stair_68 : decode cX8_stair 68 = .ok (.getfield 113, 3) := by decide +kernel
theorem dX8_stair_71 : decode cX8_stair 71 = .ok (.if_icmp .ge 20, 3) := by decide +kernel
theorem dX8_stair_74 : decode cX8_stair 74 = .ok (.aload_n 0, 1) := by decide +kernel
theorem dX8_stair_75 : decode cX8_stair 75 = .ok (.getfield 7, 3) := by decide +kernel
theorem dX8_stair_78 : decode cX8_stair 78 = .ok (.bipush 6, 2) := by decide +kernel
theorem dX8_stair_80 : decode cX8_stair 80 = .ok (.aload_n 0, 1) := by decide +kernel
theorem dX8_stair_81 : decode cX8_stair 81 = .ok (.getfield 33, 3) := by decide +kernel
theorem dX8_stair_84 : decode cX8_stair 84 = .ok (.iload_n 1, 1) := by decide +kernel
theorem dX8_stair_85 : decode cX8_stair 85 = .ok (.iaload, 1) := by decide +kernel
theorem dX8_stair_86 : decode cX8_stair 86 = .ok (.iadd, 1) := by decide +kernel
theorem dX8_stair_87 : decode cX8_stair 87 = .ok (.iaload, 1) := by decide +kernel
theorem dX8_stair_88 : decode cX8_stair 88 = .ok (.goto 5, 3) := by decide +kernel
theorem dX8_stair_91 : decode cX8_stair 91 = .ok (.ldc 152, 2) := by decide +kernel
theorem dX8_stair_93 : decode cX8_stair 93 = .ok (.ireturn, 1) := by decide +kernel
theorem dX8_layersOf_0 : decode cX8_layersOf 0 = .ok (.iload_n 1, 1) := by decide +kernel
theorem dX8_layersOf_1 : decode cX8_layersOf 1 = .ok (.ifCond .ne 12, 3) := by decide +kernel
theorem dX8_layersOf_4 : decode cX8_layersOf 4 = .ok (.aload_n 0, 1) := by decide +kernel
theorem dX8_layersOf_5 : decode cX8_layersOf 5 = .ok (.getfield 7, 3) := by decide +kernel
theorem dX8_layersOf_8 : decode cX8_layersOf 8 = .ok (.iconst 0, 1) := by decide +kernel
theorem dX8_layersOf_9 : decode cX8_layersOf 9 = .ok (.iaload, 1) := by decide +kernel
theorem dX8_layersOf_10 : decode cX8_layersOf 10 = .ok (.goto 49, 3) := by decide +kernel
theorem dX8_layersOf_13 : decode cX8_layersOf 13 = .ok (.iload_n 1, 1) := by decide +kernel
theorem dX8_layersOf_14 : decode cX8_layersOf 14 = .ok (.iconst 1, 1) := by decide +kernel
theorem dX8_layersOf_15 : decode cX8_layersOf 15 = .ok (.if_icmp .ne 12, 3) := by decide +kernel
theorem dX8_layersOf_18 : decode cX8_layersOf 18 = .ok (.aload_n 0, 1) := by decide +kernel
theorem dX8_layersOf_19 : decode cX8_layersOf 19 = .ok (.getfield 7, 3) := by decide +kernel
theorem dX8_layersOf_22 : decode cX8_layersOf 22 = .ok (.iconst 1, 1) := by decide +kernel
theorem dX8_layersOf_23 : decode cX8_layersOf 23 = .ok (.iaload, 1) := by decide +kernel
theorem dX8_layersOf_24 : decode cX8_layersOf 24 = .ok (.goto 35, 3) := by decide +kernel
theorem dX8_layersOf_27 : decode cX8_layersOf 27 = .ok (.iload_n 1, 1) := by decide +kernel
theorem dX8_layersOf_28 : decode cX8_layersOf 28 = .ok (.iconst 2, 1) := by decide +kernel
theorem dX8_layersOf_29 : decode cX8_layersOf 29 = .ok (.if_icmp .ne 12, 3) := by decide +kernel
theorem dX8_layersOf_32 : decode cX8_layersOf 32 = .ok (.aload_n 0, 1) := by decide +kernel
theorem dX8_layersOf_33 : decode cX8_layersOf 33 = .ok (.getfield 7, 3) := by decide +kernel
theorem dX8_layersOf_36 : decode cX8_layersOf 36 = .ok (.iconst 4, 1) := by decide +kernel
theorem dX8_layersOf_37 : decode cX8_layersOf 37 = .ok (.iaload, 1) := by decide +kernel
theorem dX8_layersOf_38 : decode cX8_layersOf 38 = .ok (.goto 21, 3) := by decide +kernel
theorem dX8_layersOf_41 : decode cX8_layersOf 41 = .ok (.iload_n 1, 1) := by decide +kernel
theorem dX8_layersOf_42 : decode cX8_layersOf 42 = .ok (.iconst 3, 1) := by decide +kernel
theorem dX8_layersOf_43 : decode cX8_layersOf 43 = .ok (.if_icmp .ne 10, 3) := by decide +kernel
theorem dX8_layersOf_46 : decode cX8_layersOf 46 = .ok (.aload_n 0, 1) := by decide +kernel
theorem dX8_layersOf_47 : decode cX8_layersOf 47 = .ok (.getfield 153, 3) := by decide +kernel
theorem dX8_layersOf_50 : decode cX8_layersOf 50 = .ok (.goto 9, 3) := by decide +kernel
theorem dX8_layersOf_53 : decode cX8_layersOf 53 = .ok (.aload_n 0, 1) := by decide +kernel
theorem dX8_layersOf_54 : decode cX8_layersOf 54 = .ok (.getfield 7, 3) := by decide +kernel
theorem dX8_layersOf_57 : decode cX8_layersOf 57 = .ok (.iconst 5, 1) := by decide +kernel
theorem dX8_layersOf_58 : decode cX8_layersOf 58 = .ok (.iaload, 1) := by decide +kernel
theorem dX8_layersOf_59 : decode cX8_layersOf 59 = .ok (.ireturn, 1) := by decide +kernel
theorem dX8_layers_0 : decode cX8_layers 0 = .ok (.iload_n 1, 1) := by decide +kernel
theorem dX8_layers_1 : decode cX8_layers 1 = .ok (.i2l, 1) := by decide +kernel
theorem dX8_layers_2 : decode cX8_layers 2 = .ok (.lconst 0, 1) := by decide +kernel
theorem dX8_layers_3 : decode cX8_layers 3 = .ok (.ldc2_w 179, 3) := by decide +kernel
theorem dX8_layers_6 : decode cX8_layers 6 = .ok (.invokestatic 49, 3) := by decide +kernel
theorem dX8_layers_9 : decode cX8_layers 9 = .ok (.ifCond .eq 11, 3) := by decide +kernel
theorem dX8_layers_12 : decode cX8_layers 12 = .ok (.aload_n 0, 1) := by decide +kernel
theorem dX8_layers_13 : decode cX8_layers 13 = .ok (.iload_n 1, 1) := by decide +kernel
theorem dX8_layers_14 : decode cX8_layers 14 = .ok (.invokevirtual 181, 3) := by decide +kernel
theorem dX8_layers_17 : decode cX8_layers 17 = .ok (.goto 7, 3) := by decide +kernel
theorem dX8_layers_20 : decode cX8_layers 20 = .ok (.aload_n 0, 1) := by decide +kernel
theorem dX8_layers_21 : decode cX8_layers 21 = .ok (.invokevirtual 81, 3) := by decide +kernel
theorem dX8_layers_24 : decode cX8_layers 24 = .ok (.ireturn, 1) := by decide +kernel
theorem dX8_inLayer_0 : decode cX8_inLayer 0 = .ok (.iload_n 1, 1) := by decide +kernel
theorem dX8_inLayer_1 : decode cX8_inLayer 1 = .ok (.i2l, 1) := by decide +kernel
theorem dX8_inLayer_2 : decode cX8_inLayer 2 = .ok (.lconst 1, 1) := by decide +kernel
theorem dX8_inLayer_3 : decode cX8_inLayer 3 = .ok (.ldc2_w 184, 3) := by decide +kernel
theorem dX8_inLayer_6 : decode cX8_inLayer 6 = .ok (.invokestatic 49, 3) := by decide +kernel
theorem dX8_inLayer_9 : decode cX8_inLayer 9 = .ok (.ifCond .eq 34, 3) := by decide +kernel
theorem dX8_inLayer_12 : decode cX8_inLayer 12 = .ok (.iload_n 1, 1) := by decide +kernel
theorem dX8_inLayer_13 : decode cX8_inLayer 13 = .ok (.invokestatic 156, 3) := by decide +kernel
theorem dX8_inLayer_16 : decode cX8_inLayer 16 = .ok (.iconst 1, 1) := by decide +kernel
theorem dX8_inLayer_17 : decode cX8_inLayer 17 = .ok (.if_icmp .ne 26, 3) := by decide +kernel
theorem dX8_inLayer_20 : decode cX8_inLayer 20 = .ok (.iload_n 2, 1) := by decide +kernel
theorem dX8_inLayer_21 : decode cX8_inLayer 21 = .ok (.i2l, 1) := by decide +kernel
theorem dX8_inLayer_22 : decode cX8_inLayer 22 = .ok (.lconst 0, 1) := by decide +kernel
theorem dX8_inLayer_23 : decode cX8_inLayer 23 = .ok (.lconst 1, 1) := by decide +kernel
theorem dX8_inLayer_24 : decode cX8_inLayer 24 = .ok (.invokestatic 49, 3) := by decide +kernel
theorem dX8_inLayer_27 : decode cX8_inLayer 27 = .ok (.ifCond .eq 16, 3) := by decide +kernel
theorem dX8_inLayer_30 : decode cX8_inLayer 30 = .ok (.iload_n 3, 1) := by decide +kernel
theorem dX8_inLayer_31 : decode cX8_inLayer 31 = .ok (.iload 4, 2) := by decide +kernel
theorem dX8_inLayer_33 : decode cX8_inLayer 33 = .ok (.iload 5, 2) := by decide +kernel
theorem dX8_inLayer_35 : decode cX8_inLayer 35 = .ok (.iload 6, 2) := by decide +kernel
theorem dX8_inLayer_37 : decode cX8_inLayer 37 = .ok (.invokestatic 127, 3) := by decide +kernel
theorem dX8_inLayer_40 : decode cX8_inLayer 40 = .ok (.ifCond .ne 8, 3) := by decide +kernel
theorem dX8_inLayer_43 : decode cX8_inLayer 43 = .ok (.aload_n 0, 1) := by decide +kernel
theorem dX8_inLayer_44 : decode cX8_inLayer 44 = .ok (.invokevirtual 81, 3) := by decide +kernel
theorem dX8_inLayer_47 : decode cX8_inLayer 47 = .ok (.ireturn, 1) := by decide +kernel
theorem dX8_inLayer_48 : decode cX8_inLayer 48 = .ok (.iload_n 2, 1) := by decide +kernel
theorem dX8_inLayer_49 : decode cX8_inLayer 49 = .ok (.ifCond .ne 12, 3) := by decide +kernel
theorem dX8_inLayer_52 : decode cX8_inLayer 52 = .ok (.aload_n 0, 1) := by decide +kernel
theorem dX8_inLayer_53 : decode cX8_inLayer 53 = .ok (.getfield 7, 3) := by decide +kernel
theorem dX8_inLayer_56 : decode cX8_inLayer 56 = .ok (.iconst 0, 1) := by decide +kernel
theorem dX8_inLayer_57 : decode cX8_inLayer 57 = .ok (.iaload, 1) := by decide +kernel
theorem dX8_inLayer_58 : decode cX8_inLayer 58 = .ok (.goto 9, 3) := by decide +kernel
theorem dX8_inLayer_61 : decode cX8_inLayer 61 = .ok (.aload_n 0, 1) := by decide +kernel
theorem dX8_inLayer_62 : decode cX8_inLayer 62 = .ok (.getfield 7, 3) := by decide +kernel
theorem dX8_inLayer_65 : decode cX8_inLayer 65 = .ok (.iconst 1, 1) := by decide +kernel
theorem dX8_inLayer_66 : decode cX8_inLayer 66 = .ok (.iaload, 1) := by decide +kernel
theorem dX8_inLayer_67 : decode cX8_inLayer 67 = .ok (.istore 7, 2) := by decide +kernel
theorem dX8_inLayer_69 : decode cX8_inLayer 69 = .ok (.iload 7, 2) := by decide +kernel
theorem dX8_inLayer_71 : decode cX8_inLayer 71 = .ok (.iload_n 1, 1) := by decide +kernel
theorem dX8_inLayer_72 : decode cX8_inLayer 72 = .ok (.idiv, 1) := by decide +kernel
theorem dX8_inLayer_73 : decode cX8_inLayer 73 = .ok (.iconst 2, 1) := by decide +kernel
theorem dX8_inLayer_74 : decode cX8_inLayer 74 = .ok (.irem, 1) := by decide +kernel
theorem dX8_inLayer_75 : decode cX8_inLayer 75 = .ok (.ifCond .ne 6, 3) := by decide +kernel
theorem dX8_inLayer_78 : decode cX8_inLayer 78 = .ok (.ldc 152, 2) := by decide +kernel
theorem dX8_inLayer_80 : decode cX8_inLayer 80 = .ok (.ireturn, 1) := by decide +kernel
theorem dX8_inLayer_81 : decode cX8_inLayer 81 = .ok (.iload 7, 2) := by decide +kernel
theorem dX8_inLayer_83 : decode cX8_inLayer 83 = .ok (.iload_n 1, 1) := by decide +kernel
theorem dX8_inLayer_84 : decode cX8_inLayer 84 = .ok (.idiv, 1) := by decide +kernel
theorem dX8_inLayer_85 : decode cX8_inLayer 85 = .ok (.iconst 2, 1) := by decide +kernel
theorem dX8_inLayer_86 : decode cX8_inLayer 86 = .ok (.idiv, 1) := by decide +kernel
theorem dX8_inLayer_87 : decode cX8_inLayer 87 = .ok (.iload_n 1, 1) := by decide +kernel
theorem dX8_inLayer_88 : decode cX8_inLayer 88 = .ok (.imul, 1) := by decide +kernel
theorem dX8_inLayer_89 : decode cX8_inLayer 89 = .ok (.iconst 2, 1) := by decide +kernel
theorem dX8_inLayer_90 : decode cX8_inLayer 90 = .ok (.imul, 1) := by decide +kernel
theorem dX8_inLayer_91 : decode cX8_inLayer 91 = .ok (.istore 8, 2) := by decide +kernel
theorem dX8_inLayer_93 : decode cX8_inLayer 93 = .ok (.iconst 0, 1) := by decide +kernel
theorem dX8_inLayer_94 : decode cX8_inLayer 94 = .ok (.istore 9, 2) := by decide +kernel
theorem dX8_inLayer_96 : decode cX8_inLayer 96 = .ok (.iload 8, 2) := by decide +kernel
theorem dX8_inLayer_98 : decode cX8_inLayer 98 = .ok (.istore 10, 2) := by decide +kernel
theorem dX8_inLayer_100 : decode cX8_inLayer 100 = .ok (.iload 10, 2) := by decide +kernel
theorem dX8_inLayer_102 : decode cX8_inLayer 102 = .ok (.iload 8, 2) := by decide +kernel
theorem dX8_inLayer_104 : decode cX8_inLayer 104 = .ok (.iload_n 1, 1) := by decide +kernel
theorem dX8_inLayer_105 : decode cX8_inLayer 105 = .ok (.iadd, 1) := by decide +kernel
theorem dX8_inLayer_106 : decode cX8_inLayer 106 = .ok (.if_icmp .ge 53, 3) := by decide +kernel
theorem dX8_inLayer_109 : decode cX8_inLayer 109 = .ok (.iload 9, 2) := by decide +kernel
theorem dX8_inLayer_111 : decode cX8_inLayer 111 = .ok (.aload_n 0, 1) := by decide +kernel
theorem dX8_inLayer_112 : decode cX8_inLayer 112 = .ok (.iload_n 2, 1) := by decide +kernel
theorem dX8_inLayer_113 : decode cX8_inLayer 113 = .ok (.ifCond .ne 8, 3) := by decide +kernel
theorem dX8_inLayer_116 : decode cX8_inLayer 116 = .ok (.iload 10, 2) := by decide +kernel
theorem dX8_inLayer_118 : decode cX8_inLayer 118 = .ok (.goto 14, 3) := by decide +kernel
theorem dX8_inLayer_121 : decode cX8_inLayer 121 = .ok (.aload_n 0, 1) := by decide +kernel
theorem dX8_inLayer_122 : decode cX8_inLayer 122 = .ok (.getfield 7, 3) := by decide +kernel
theorem dX8_inLayer_125 : decode cX8_inLayer 125 = .ok (.sipush 616, 3) := by decide +kernel
theorem dX8_inLayer_128 : decode cX8_inLayer 128 = .ok (.iload 10, 2) := by decide +kernel
theorem dX8_inLayer_130 : decode cX8_inLayer 130 = .ok (.iadd, 1) := by decide +kernel
theorem dX8_inLayer_131 : decode cX8_inLayer 131 = .ok (.iaload, 1) := by decide +kernel
theorem dX8_inLayer_132 : decode cX8_inLayer 132 = .ok (.iload_n 3, 1) := by decide +kernel
theorem dX8_inLayer_133 : decode cX8_inLayer 133 = .ok (.iload 4, 2) := by decide +kernel
theorem dX8_inLayer_135 : decode cX8_inLayer 135 = .ok (.iload 5, 2) := by decide +kernel
theorem dX8_inLayer_137 : decode cX8_inLayer 137 = .ok (.iload 6, 2) := by decide +kernel
theorem dX8_inLayer_139 : decode cX8_inLayer 139 = .ok (.invokevirtual 120, 3) := by decide +kernel
theorem dX8_inLayer_142 : decode cX8_inLayer 142 = .ok (.ifCond .eq 7, 3) := by decide +kernel
theorem dX8_inLayer_145 : decode cX8_inLayer 145 = .ok (.iconst 1, 1) := by decide +kernel
theorem dX8_inLayer_146 : decode cX8_inLayer 146 = .ok (.goto 4, 3) := by decide +kernel
theorem dX8_inLayer_149 : decode cX8_inLayer 149 = .ok (.iconst 0, 1) := by decide +kernel
theorem dX8_inLayer_150 : decode cX8_inLayer 150 = .ok (.iadd, 1) := by decide +kernel
theorem dX8_inLayer_151 : decode cX8_inLayer 151 = .ok (.istore 9, 2) := by decide +kernel
theorem dX8_inLayer_153 : decode cX8_inLayer 153 = .ok (.iinc 10 1, 3) := by decide +kernel
theorem dX8_inLayer_156 : decode cX8_inLayer 156 = .ok (.goto (-56), 3) := by decide +kernel
theorem dX8_inLayer_159 : decode cX8_inLayer 159 = .ok (.iload 9, 2) := by decide +kernel
theorem dX8_inLayer_161 : decode cX8_inLayer 161 = .ok (.ireturn, 1) := by decide +kernel
theorem dX8_type_0 : decode cX8_type 0 = .ok (.iload_n 1, 1) := by decide +kernel
theorem dX8_type_1 : decode cX8_type 1 = .ok (.i2l, 1) := by decide +kernel
theorem dX8_type_2 : decode cX8_type 2 = .ok (.lconst 0, 1) := by decide +kernel
theorem dX8_type_3 : decode cX8_type 3 = .ok (.ldc2_w 186, 3) := by decide +kernel
theorem dX8_type_6 : decode cX8_type 6 = .ok (.invokestatic 49, 3) := by decide +kernel
theorem dX8_type_9 : decode cX8_type 9 = .ok (.ifCond .ne 8, 3) := by decide +kernel
theorem dX8_type_12 : decode cX8_type 12 = .ok (.aload_n 0, 1) := by decide +kernel
theorem dX8_type_13 : decode cX8_type 13 = .ok (.invokevirtual 81, 3) := by decide +kernel
theorem dX8_type_16 : decode cX8_type 16 = .ok (.ireturn, 1) := by decide +kernel
theorem dX8_type_17 : decode cX8_type 17 = .ok (.aload_n 0, 1) := by decide +kernel
theorem dX8_type_18 : decode cX8_type 18 = .ok (.getfield 188, 3) := by decide +kernel
theorem dX8_type_21 : decode cX8_type 21 = .ok (.bipush 120, 2) := by decide +kernel
theorem dX8_type_23 : decode cX8_type 23 = .ok (.if_icmp .ne 8, 3) := by decide +kernel
theorem dX8_type_26 : decode cX8_type 26 = .ok (.aload_n 0, 1) := by decide +kernel
theorem dX8_type_27 : decode cX8_type 27 = .ok (.invokevirtual 84, 3) := by decide +kernel
theorem dX8_type_30 : decode cX8_type 30 = .ok (.ireturn, 1) := by decide +kernel
theorem dX8_type_31 : decode cX8_type 31 = .ok (.aload_n 0, 1) := by decide +kernel
theorem dX8_type_32 : decode cX8_type 32 = .ok (.getfield 20, 3) := by decide +kernel
theorem dX8_type_35 : decode cX8_type 35 = .ok (.aload_n 0, 1) := by decide +kernel
theorem dX8_type_36 : decode cX8_type 36 = .ok (.getfield 188, 3) := by decide +kernel
theorem dX8_type_39 : decode cX8_type 39 = .ok (.iload_n 1, 1) := by decide +kernel
theorem dX8_type_40 : decode cX8_type 40 = .ok (.iastore, 1) := by decide +kernel
theorem dX8_type_41 : decode cX8_type 41 = .ok (.aload_n 0, 1) := by decide +kernel
theorem dX8_type_42 : decode cX8_type 42 = .ok (.dup, 1) := by decide +kernel
theorem dX8_type_43 : decode cX8_type 43 = .ok (.getfield 188, 3) := by decide +kernel
theorem dX8_type_46 : decode cX8_type 46 = .ok (.iconst 1, 1) := by decide +kernel
theorem dX8_type_47 : decode cX8_type 47 = .ok (.iadd, 1) := by decide +kernel
theorem dX8_type_48 : decode cX8_type 48 = .ok (.putfield 188, 3) := by decide +kernel
theorem dX8_type_51 : decode cX8_type 51 = .ok (.aload_n 0, 1) := by decide +kernel
theorem dX8_type_52 : decode cX8_type 52 = .ok (.getfield 188, 3) := by decide +kernel
theorem dX8_type_55 : decode cX8_type 55 = .ok (.ireturn, 1) := by decide +kernel
theorem dX8_clear_0 : decode cX8_clear 0 = .ok (.aload_n 0, 1) := by decide +kernel
theorem dX8_clear_1 : decode cX8_clear 1 = .ok (.getfield 188, 3) := by decide +kernel
theorem dX8_clear_4 : decode cX8_clear 4 = .ok (.istore_n 1, 1) := by decide +kernel
theorem dX8_clear_5 : decode cX8_clear 5 = .ok (.aload_n 0, 1) := by decide +kernel
theorem dX8_clear_6 : decode cX8_clear 6 = .ok (.iconst 0, 1) := by decide +kernel
theorem dX8_clear_7 : decode cX8_clear 7 = .ok (.putfield 188, 3) := by decide +kernel
theorem dX8_clear_10 : decode cX8_clear 10 = .ok (.iload_n 1, 1) := by decide +kernel
theorem dX8_clear_11 : decode cX8_clear 11 = .ok (.ireturn, 1) := by decide +kernel
theorem dX8_here_0 : decode cX8_here 0 = .ok (.aload_n 0, 1) := by decide +kernel
theorem dX8_here_1 : decode cX8_here 1 = .ok (.getfield 191, 3) := by decide +kernel
theorem dX8_here_4 : decode cX8_here 4 = .ok (.aload_n 0, 1) := by decide +kernel
theorem dX8_here_5 : decode cX8_here 5 = .ok (.getfield 188, 3) := by decide +kernel
theorem dX8_here_8 : decode cX8_here 8 = .ok (.if_icmp .ge 15, 3) := by decide +kernel
theorem dX8_here_11 : decode cX8_here 11 = .ok (.aload_n 0, 1) := by decide +kernel
theorem dX8_here_12 : decode cX8_here 12 = .ok (.getfield 20, 3) := by decide +kernel
theorem dX8_here_15 : decode cX8_here 15 = .ok (.aload_n 0, 1) := by decide +kernel
theorem dX8_here_16 : decode cX8_here 16 = .ok (.getfield 191, 3) := by decide +kernel
theorem dX8_here_19 : decode cX8_here 19 = .ok (.iaload, 1) := by decide +kernel
theorem dX8_here_20 : decode cX8_here 20 = .ok (.goto 4, 3) := by decide +kernel
theorem dX8_here_23 : decode cX8_here 23 = .ok (.iconst (-1), 1) := by decide +kernel
theorem dX8_here_24 : decode cX8_here 24 = .ok (.ireturn, 1) := by decide +kernel
theorem dX8_next_0 : decode cX8_next 0 = .ok (.aload_n 0, 1) := by decide +kernel
theorem dX8_next_1 : decode cX8_next 1 = .ok (.invokevirtual 194, 3) := by decide +kernel
theorem dX8_next_4 : decode cX8_next 4 = .ok (.bipush 32, 2) := by decide +kernel
theorem dX8_next_6 : decode cX8_next 6 = .ok (.if_icmp .ne 16, 3) := by decide +kernel
theorem dX8_next_9 : decode cX8_next 9 = .ok (.aload_n 0, 1) := by decide +kernel
theorem dX8_next_10 : decode cX8_next 10 = .ok (.dup, 1) := by decide +kernel
theorem dX8_next_11 : decode cX8_next 11 = .ok (.getfield 191, 3) := by decide +kernel
theorem dX8_next_14 : decode cX8_next 14 = .ok (.iconst 1, 1) := by decide +kernel
theorem dX8_next_15 : decode cX8_next 15 = .ok (.iadd, 1) := by decide +kernel
theorem dX8_next_16 : decode cX8_next 16 = .ok (.putfield 191, 3) := by decide +kernel
theorem dX8_next_19 : decode cX8_next 19 = .ok (.goto (-19), 3) := by decide +kernel
theorem dX8_next_22 : decode cX8_next 22 = .ok (.aload_n 0, 1) := by decide +kernel
theorem dX8_next_23 : decode cX8_next 23 = .ok (.aload_n 0, 1) := by decide +kernel
theorem dX8_next_24 : decode cX8_next 24 = .ok (.getfield 191, 3) := by decide +kernel
theorem dX8_next_27 : decode cX8_next 27 = .ok (.putfield 197, 3) := by decide +kernel
theorem dX8_next_30 : decode cX8_next 30 = .ok (.aload_n 0, 1) := by decide +kernel
theorem dX8_next_31 : decode cX8_next 31 = .ok (.invokevirtual 194, 3) := by decide +kernel
theorem dX8_next_34 : decode cX8_next 34 = .ok (.ireturn, 1) := by decide +kernel
theorem dX8_takes_0 : decode cX8_takes 0 = .ok (.aload_n 0, 1) := by decide +kernel
theorem dX8_takes_1 : decode cX8_takes 1 = .ok (.invokevirtual 200, 3) := by decide +kernel
theorem dX8_takes_4 : decode cX8_takes 4 = .ok (.iload_n 1, 1) := by decide +kernel
theorem dX8_takes_5 : decode cX8_takes 5 = .ok (.if_icmp .ne 7, 3) := by decide +kernel
theorem dX8_takes_8 : decode cX8_takes 8 = .ok (.iconst 1, 1) := by decide +kernel
theorem dX8_takes_9 : decode cX8_takes 9 = .ok (.goto 4, 3) := by decide +kernel
theorem dX8_takes_12 : decode cX8_takes 12 = .ok (.iconst 0, 1) := by decide +kernel
theorem dX8_takes_13 : decode cX8_takes 13 = .ok (.istore_n 2, 1) := by decide +kernel
theorem dX8_takes_14 : decode cX8_takes 14 = .ok (.aload_n 0, 1) := by decide +kernel
theorem dX8_takes_15 : decode cX8_takes 15 = .ok (.dup, 1) := by decide +kernel
theorem dX8_takes_16 : decode cX8_takes 16 = .ok (.getfield 191, 3) := by decide +kernel
theorem dX8_takes_19 : decode cX8_takes 19 = .ok (.iload_n 2, 1) := by decide +kernel
theorem dX8_takes_20 : decode cX8_takes 20 = .ok (.ifCond .eq 7, 3) := by decide +kernel
theorem dX8_takes_23 : decode cX8_takes 23 = .ok (.iconst 1, 1) := by decide +kernel
theorem dX8_takes_24 : decode cX8_takes 24 = .ok (.goto 4, 3) := by decide +kernel
theorem dX8_takes_27 : decode cX8_takes 27 = .ok (.iconst 0, 1) := by decide +kernel
theorem dX8_takes_28 : decode cX8_takes 28 = .ok (.iadd, 1) := by decide +kernel
theorem dX8_takes_29 : decode cX8_takes 29 = .ok (.putfield 191, 3) := by decide +kernel
theorem dX8_takes_32 : decode cX8_takes 32 = .ok (.iload_n 2, 1) := by decide +kernel
theorem dX8_takes_33 : decode cX8_takes 33 = .ok (.ireturn, 1) := by decide +kernel
theorem dX8_takesNumber_0 : decode cX8_takesNumber 0 = .ok (.aload_n 0, 1) := by decide +kernel
theorem dX8_takesNumber_1 : decode cX8_takesNumber 1 = .ok (.invokevirtual 200, 3) := by decide +kernel

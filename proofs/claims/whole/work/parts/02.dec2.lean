theorem dX7_of_10 : decode cX7_of 10 = .ok (.ifCond .lt 12, 3) := by decide +kernel
theorem dX7_of_13 : decode cX7_of 13 = .ok (.iload_n 2, 1) := by decide +kernel
theorem dX7_of_14 : decode cX7_of 14 = .ok (.ifCond .lt 8, 3) := by decide +kernel
theorem dX7_of_17 : decode cX7_of 17 = .ok (.iload_n 2, 1) := by decide +kernel
theorem dX7_of_18 : decode cX7_of 18 = .ok (.iconst 3, 1) := by decide +kernel
theorem dX7_of_19 : decode cX7_of 19 = .ok (.if_icmp .le 10, 3) := by decide +kernel
theorem dX7_of_22 : decode cX7_of 22 = .ok (.aload_n 0, 1) := by decide +kernel
theorem dX7_of_23 : decode cX7_of 23 = .ok (.ldc 68, 2) := by decide +kernel
theorem dX7_of_25 : decode cX7_of 25 = .ok (.invokevirtual 69, 3) := by decide +kernel
theorem dX7_of_28 : decode cX7_of 28 = .ok (.ireturn, 1) := by decide +kernel
theorem dX7_of_29 : decode cX7_of 29 = .ok (.iload_n 2, 1) := by decide +kernel
theorem dX7_of_30 : decode cX7_of 30 = .ok (.tableswitch 56 0 2 #[26, 36, 46], 26) := by decide +kernel
theorem dX7_of_56 : decode cX7_of 56 = .ok (.aload_n 0, 1) := by decide +kernel
theorem dX7_of_57 : decode cX7_of 57 = .ok (.getfield 10, 3) := by decide +kernel
theorem dX7_of_60 : decode cX7_of 60 = .ok (.getfield 127, 3) := by decide +kernel
theorem dX7_of_63 : decode cX7_of 63 = .ok (.iload_n 3, 1) := by decide +kernel
theorem dX7_of_64 : decode cX7_of 64 = .ok (.iaload, 1) := by decide +kernel
theorem dX7_of_65 : decode cX7_of 65 = .ok (.ireturn, 1) := by decide +kernel
theorem dX7_of_66 : decode cX7_of 66 = .ok (.aload_n 0, 1) := by decide +kernel
theorem dX7_of_67 : decode cX7_of 67 = .ok (.getfield 10, 3) := by decide +kernel
theorem dX7_of_70 : decode cX7_of 70 = .ok (.getfield 131, 3) := by decide +kernel
theorem dX7_of_73 : decode cX7_of 73 = .ok (.iload_n 3, 1) := by decide +kernel
theorem dX7_of_74 : decode cX7_of 74 = .ok (.iaload, 1) := by decide +kernel
theorem dX7_of_75 : decode cX7_of 75 = .ok (.ireturn, 1) := by decide +kernel
theorem dX7_of_76 : decode cX7_of 76 = .ok (.aload_n 0, 1) := by decide +kernel
theorem dX7_of_77 : decode cX7_of 77 = .ok (.getfield 10, 3) := by decide +kernel
theorem dX7_of_80 : decode cX7_of 80 = .ok (.getfield 134, 3) := by decide +kernel
theorem dX7_of_83 : decode cX7_of 83 = .ok (.iload_n 3, 1) := by decide +kernel
theorem dX7_of_84 : decode cX7_of 84 = .ok (.iaload, 1) := by decide +kernel
theorem dX7_of_85 : decode cX7_of 85 = .ok (.ireturn, 1) := by decide +kernel
theorem dX7_of_86 : decode cX7_of 86 = .ok (.aload_n 0, 1) := by decide +kernel
theorem dX7_of_87 : decode cX7_of 87 = .ok (.getfield 10, 3) := by decide +kernel
theorem dX7_of_90 : decode cX7_of 90 = .ok (.iload_n 3, 1) := by decide +kernel
theorem dX7_of_91 : decode cX7_of 91 = .ok (.invokevirtual 137, 3) := by decide +kernel
theorem dX7_of_94 : decode cX7_of 94 = .ok (.ireturn, 1) := by decide +kernel
theorem dX7_nth_0 : decode cX7_nth 0 = .ok (.iload_n 1, 1) := by decide +kernel
theorem dX7_nth_1 : decode cX7_nth 1 = .ok (.ifCond .ge 10, 3) := by decide +kernel
theorem dX7_nth_4 : decode cX7_nth 4 = .ok (.aload_n 0, 1) := by decide +kernel
theorem dX7_nth_5 : decode cX7_nth 5 = .ok (.ldc 68, 2) := by decide +kernel
theorem dX7_nth_7 : decode cX7_nth 7 = .ok (.invokevirtual 69, 3) := by decide +kernel
theorem dX7_nth_10 : decode cX7_nth 10 = .ok (.ireturn, 1) := by decide +kernel
theorem dX7_nth_11 : decode cX7_nth 11 = .ok (.aload_n 0, 1) := by decide +kernel
theorem dX7_nth_12 : decode cX7_nth 12 = .ok (.getfield 26, 3) := by decide +kernel
theorem dX7_nth_15 : decode cX7_nth 15 = .ok (.aload_n 0, 1) := by decide +kernel
theorem dX7_nth_16 : decode cX7_nth 16 = .ok (.getfield 10, 3) := by decide +kernel
theorem dX7_nth_19 : decode cX7_nth 19 = .ok (.invokevirtual 140, 3) := by decide +kernel
theorem dX7_nth_22 : decode cX7_nth 22 = .ok (.aload_n 0, 1) := by decide +kernel
theorem dX7_nth_23 : decode cX7_nth 23 = .ok (.getfield 26, 3) := by decide +kernel
theorem dX7_nth_26 : decode cX7_nth 26 = .ok (.aload_n 0, 1) := by decide +kernel
theorem dX7_nth_27 : decode cX7_nth 27 = .ok (.getfield 10, 3) := by decide +kernel
theorem dX7_nth_30 : decode cX7_nth 30 = .ok (.iload_n 1, 1) := by decide +kernel
theorem dX7_nth_31 : decode cX7_nth 31 = .ok (.invokevirtual 143, 3) := by decide +kernel
theorem dX7_nth_34 : decode cX7_nth 34 = .ok (.ireturn, 1) := by decide +kernel
theorem dX7_count_0 : decode cX7_count 0 = .ok (.iload_n 1, 1) := by decide +kernel
theorem dX7_count_1 : decode cX7_count 1 = .ok (.iload_n 2, 1) := by decide +kernel
theorem dX7_count_2 : decode cX7_count 2 = .ok (.iload_n 3, 1) := by decide +kernel
theorem dX7_count_3 : decode cX7_count 3 = .ok (.iload 4, 2) := by decide +kernel
theorem dX7_count_5 : decode cX7_count 5 = .ok (.invokestatic 105, 3) := by decide +kernel
theorem dX7_count_8 : decode cX7_count 8 = .ok (.ifCond .ne 10, 3) := by decide +kernel
theorem dX7_count_11 : decode cX7_count 11 = .ok (.aload_n 0, 1) := by decide +kernel
theorem dX7_count_12 : decode cX7_count 12 = .ok (.ldc 68, 2) := by decide +kernel
theorem dX7_count_14 : decode cX7_count 14 = .ok (.invokevirtual 69, 3) := by decide +kernel
theorem dX7_count_17 : decode cX7_count 17 = .ok (.ireturn, 1) := by decide +kernel
theorem dX7_count_18 : decode cX7_count 18 = .ok (.aload_n 0, 1) := by decide +kernel
theorem dX7_count_19 : decode cX7_count 19 = .ok (.dup, 1) := by decide +kernel
theorem dX7_count_20 : decode cX7_count 20 = .ok (.getfield 147, 3) := by decide +kernel
theorem dX7_count_23 : decode cX7_count 23 = .ok (.aload_n 0, 1) := by decide +kernel
theorem dX7_count_24 : decode cX7_count 24 = .ok (.getfield 10, 3) := by decide +kernel
theorem dX7_count_27 : decode cX7_count 27 = .ok (.invokevirtual 150, 3) := by decide +kernel
theorem dX7_count_30 : decode cX7_count 30 = .ok (.iadd, 1) := by decide +kernel
theorem dX7_count_31 : decode cX7_count 31 = .ok (.putfield 147, 3) := by decide +kernel
theorem dX7_count_34 : decode cX7_count 34 = .ok (.aload_n 0, 1) := by decide +kernel
theorem dX7_count_35 : decode cX7_count 35 = .ok (.iload_n 1, 1) := by decide +kernel
theorem dX7_count_36 : decode cX7_count 36 = .ok (.iload_n 2, 1) := by decide +kernel
theorem dX7_count_37 : decode cX7_count 37 = .ok (.iload_n 3, 1) := by decide +kernel
theorem dX7_count_38 : decode cX7_count 38 = .ok (.iload 4, 2) := by decide +kernel
theorem dX7_count_40 : decode cX7_count 40 = .ok (.invokevirtual 109, 3) := by decide +kernel
theorem dX7_count_43 : decode cX7_count 43 = .ok (.aload_n 0, 1) := by decide +kernel
theorem dX7_count_44 : decode cX7_count 44 = .ok (.getfield 26, 3) := by decide +kernel
theorem dX7_count_47 : decode cX7_count 47 = .ok (.aload_n 0, 1) := by decide +kernel
theorem dX7_count_48 : decode cX7_count 48 = .ok (.getfield 10, 3) := by decide +kernel
theorem dX7_count_51 : decode cX7_count 51 = .ok (.invokevirtual 153, 3) := by decide +kernel
theorem dX7_count_54 : decode cX7_count 54 = .ok (.ireturn, 1) := by decide +kernel
theorem dX7_many_0 : decode cX7_many 0 = .ok (.iload_n 1, 1) := by decide +kernel
theorem dX7_many_1 : decode cX7_many 1 = .ok (.iload_n 2, 1) := by decide +kernel
theorem dX7_many_2 : decode cX7_many 2 = .ok (.iload_n 3, 1) := by decide +kernel
theorem dX7_many_3 : decode cX7_many 3 = .ok (.iload 4, 2) := by decide +kernel
theorem dX7_many_5 : decode cX7_many 5 = .ok (.invokestatic 105, 3) := by decide +kernel
theorem dX7_many_8 : decode cX7_many 8 = .ok (.ifCond .ne 10, 3) := by decide +kernel
theorem dX7_many_11 : decode cX7_many 11 = .ok (.aload_n 0, 1) := by decide +kernel
theorem dX7_many_12 : decode cX7_many 12 = .ok (.ldc 68, 2) := by decide +kernel
theorem dX7_many_14 : decode cX7_many 14 = .ok (.invokevirtual 69, 3) := by decide +kernel
theorem dX7_many_17 : decode cX7_many 17 = .ok (.ireturn, 1) := by decide +kernel
theorem dX7_many_18 : decode cX7_many 18 = .ok (.aload_n 0, 1) := by decide +kernel
theorem dX7_many_19 : decode cX7_many 19 = .ok (.iload_n 1, 1) := by decide +kernel
theorem dX7_many_20 : decode cX7_many 20 = .ok (.iload_n 2, 1) := by decide +kernel
theorem dX7_many_21 : decode cX7_many 21 = .ok (.iload_n 3, 1) := by decide +kernel
theorem dX7_many_22 : decode cX7_many 22 = .ok (.iload 4, 2) := by decide +kernel
theorem dX7_many_24 : decode cX7_many 24 = .ok (.invokevirtual 109, 3) := by decide +kernel
theorem dX7_many_27 : decode cX7_many 27 = .ok (.aload_n 0, 1) := by decide +kernel
theorem dX7_many_28 : decode cX7_many 28 = .ok (.getfield 26, 3) := by decide +kernel
theorem dX7_many_31 : decode cX7_many 31 = .ok (.getfield 157, 3) := by decide +kernel
theorem dX7_many_34 : decode cX7_many 34 = .ok (.ireturn, 1) := by decide +kernel
theorem dX7_kth_0 : decode cX7_kth 0 = .ok (.iload_n 1, 1) := by decide +kernel
theorem dX7_kth_1 : decode cX7_kth 1 = .ok (.iload_n 2, 1) := by decide +kernel
theorem dX7_kth_2 : decode cX7_kth 2 = .ok (.iload_n 3, 1) := by decide +kernel
theorem dX7_kth_3 : decode cX7_kth 3 = .ok (.iload 4, 2) := by decide +kernel
theorem dX7_kth_5 : decode cX7_kth 5 = .ok (.invokestatic 105, 3) := by decide +kernel
theorem dX7_kth_8 : decode cX7_kth 8 = .ok (.ifCond .eq 8, 3) := by decide +kernel
theorem dX7_kth_11 : decode cX7_kth 11 = .ok (.iload 5, 2) := by decide +kernel
theorem dX7_kth_13 : decode cX7_kth 13 = .ok (.ifCond .ge 10, 3) := by decide +kernel
theorem dX7_kth_16 : decode cX7_kth 16 = .ok (.aload_n 0, 1) := by decide +kernel
theorem dX7_kth_17 : decode cX7_kth 17 = .ok (.ldc 68, 2) := by decide +kernel
theorem dX7_kth_19 : decode cX7_kth 19 = .ok (.invokevirtual 69, 3) := by decide +kernel
theorem dX7_kth_22 : decode cX7_kth 22 = .ok (.ireturn, 1) := by decide +kernel
theorem dX7_kth_23 : decode cX7_kth 23 = .ok (.aload_n 0, 1) := by decide +kernel
theorem dX7_kth_24 : decode cX7_kth 24 = .ok (.iload_n 1, 1) := by decide +kernel
theorem dX7_kth_25 : decode cX7_kth 25 = .ok (.iload_n 2, 1) := by decide +kernel
theorem dX7_kth_26 : decode cX7_kth 26 = .ok (.iload_n 3, 1) := by decide +kernel
theorem dX7_kth_27 : decode cX7_kth 27 = .ok (.iload 4, 2) := by decide +kernel
theorem dX7_kth_29 : decode cX7_kth 29 = .ok (.invokevirtual 109, 3) := by decide +kernel
theorem dX7_kth_32 : decode cX7_kth 32 = .ok (.aload_n 0, 1) := by decide +kernel
theorem dX7_kth_33 : decode cX7_kth 33 = .ok (.getfield 26, 3) := by decide +kernel
theorem dX7_kth_36 : decode cX7_kth 36 = .ok (.aload_n 0, 1) := by decide +kernel
theorem dX7_kth_37 : decode cX7_kth 37 = .ok (.getfield 10, 3) := by decide +kernel
theorem dX7_kth_40 : decode cX7_kth 40 = .ok (.invokevirtual 160, 3) := by decide +kernel
theorem dX7_kth_43 : decode cX7_kth 43 = .ok (.aload_n 0, 1) := by decide +kernel
theorem dX7_kth_44 : decode cX7_kth 44 = .ok (.getfield 26, 3) := by decide +kernel
theorem dX7_kth_47 : decode cX7_kth 47 = .ok (.aload_n 0, 1) := by decide +kernel
theorem dX7_kth_48 : decode cX7_kth 48 = .ok (.getfield 10, 3) := by decide +kernel
theorem dX7_kth_51 : decode cX7_kth 51 = .ok (.iload 5, 2) := by decide +kernel
theorem dX7_kth_53 : decode cX7_kth 53 = .ok (.invokevirtual 143, 3) := by decide +kernel
theorem dX7_kth_56 : decode cX7_kth 56 = .ok (.ireturn, 1) := by decide +kernel
theorem dX7_half_0 : decode cX7_half 0 = .ok (.iload_n 1, 1) := by decide +kernel
theorem dX7_half_1 : decode cX7_half 1 = .ok (.iload_n 2, 1) := by decide +kernel
theorem dX7_half_2 : decode cX7_half 2 = .ok (.iload_n 3, 1) := by decide +kernel
theorem dX7_half_3 : decode cX7_half 3 = .ok (.iload 4, 2) := by decide +kernel
theorem dX7_half_5 : decode cX7_half 5 = .ok (.invokestatic 105, 3) := by decide +kernel
theorem dX7_half_8 : decode cX7_half 8 = .ok (.ifCond .ne 10, 3) := by decide +kernel
theorem dX7_half_11 : decode cX7_half 11 = .ok (.aload_n 0, 1) := by decide +kernel
theorem dX7_half_12 : decode cX7_half 12 = .ok (.ldc 68, 2) := by decide +kernel
theorem dX7_half_14 : decode cX7_half 14 = .ok (.invokevirtual 69, 3) := by decide +kernel
theorem dX7_half_17 : decode cX7_half 17 = .ok (.ireturn, 1) := by decide +kernel
theorem dX7_half_18 : decode cX7_half 18 = .ok (.aload_n 0, 1) := by decide +kernel
theorem dX7_half_19 : decode cX7_half 19 = .ok (.iload_n 1, 1) := by decide +kernel
theorem dX7_half_20 : decode cX7_half 20 = .ok (.iload_n 2, 1) := by decide +kernel
theorem dX7_half_21 : decode cX7_half 21 = .ok (.iload_n 3, 1) := by decide +kernel
theorem dX7_half_22 : decode cX7_half 22 = .ok (.iload 4, 2) := by decide +kernel
theorem dX7_half_24 : decode cX7_half 24 = .ok (.invokevirtual 109, 3) := by decide +kernel
theorem dX7_half_27 : decode cX7_half 27 = .ok (.aload_n 0, 1) := by decide +kernel
theorem dX7_half_28 : decode cX7_half 28 = .ok (.getfield 26, 3) := by decide +kernel
theorem dX7_half_31 : decode cX7_half 31 = .ok (.getfield 157, 3) := by decide +kernel
theorem dX7_half_34 : decode cX7_half 34 = .ok (.ifCond .ne 6, 3) := by decide +kernel
theorem dX7_half_37 : decode cX7_half 37 = .ok (.ldc 163, 2) := by decide +kernel
theorem dX7_half_39 : decode cX7_half 39 = .ok (.ireturn, 1) := by decide +kernel
theorem dX7_half_40 : decode cX7_half 40 = .ok (.aload_n 0, 1) := by decide +kernel
theorem dX7_half_41 : decode cX7_half 41 = .ok (.getfield 26, 3) := by decide +kernel
theorem dX7_half_44 : decode cX7_half 44 = .ok (.aload_n 0, 1) := by decide +kernel
theorem dX7_half_45 : decode cX7_half 45 = .ok (.getfield 10, 3) := by decide +kernel
theorem dX7_half_48 : decode cX7_half 48 = .ok (.invokevirtual 160, 3) := by decide +kernel
theorem dX7_half_51 : decode cX7_half 51 = .ok (.aload_n 0, 1) := by decide +kernel
theorem dX7_half_52 : decode cX7_half 52 = .ok (.getfield 26, 3) := by decide +kernel
theorem dX7_half_55 : decode cX7_half 55 = .ok (.getfield 157, 3) := by decide +kernel
theorem dX7_half_58 : decode cX7_half 58 = .ok (.iconst 1, 1) := by decide +kernel
theorem dX7_half_59 : decode cX7_half 59 = .ok (.iadd, 1) := by decide +kernel
theorem dX7_half_60 : decode cX7_half 60 = .ok (.iconst 2, 1) := by decide +kernel
theorem dX7_half_61 : decode cX7_half 61 = .ok (.idiv, 1) := by decide +kernel
theorem dX7_half_62 : decode cX7_half 62 = .ok (.istore 5, 2) := by decide +kernel
theorem dX7_half_64 : decode cX7_half 64 = .ok (.aload_n 0, 1) := by decide +kernel
theorem dX7_half_65 : decode cX7_half 65 = .ok (.getfield 10, 3) := by decide +kernel
theorem dX7_half_68 : decode cX7_half 68 = .ok (.getfield 127, 3) := by decide +kernel
theorem dX7_half_71 : decode cX7_half 71 = .ok (.aload_n 0, 1) := by decide +kernel
theorem dX7_half_72 : decode cX7_half 72 = .ok (.getfield 26, 3) := by decide +kernel
theorem dX7_half_75 : decode cX7_half 75 = .ok (.getfield 164, 3) := by decide +kernel
theorem dX7_half_78 : decode cX7_half 78 = .ok (.iload 5, 2) := by decide +kernel
theorem dX7_half_80 : decode cX7_half 80 = .ok (.iconst 1, 1) := by decide +kernel
theorem dX7_half_81 : decode cX7_half 81 = .ok (.isub, 1) := by decide +kernel
theorem dX7_half_82 : decode cX7_half 82 = .ok (.iaload, 1) := by decide +kernel
theorem dX7_half_83 : decode cX7_half 83 = .ok (.iaload, 1) := by decide +kernel
theorem dX7_half_84 : decode cX7_half 84 = .ok (.ireturn, 1) := by decide +kernel
theorem dX7_below_0 : decode cX7_below 0 = .ok (.iload_n 1, 1) := by decide +kernel
theorem dX7_below_1 : decode cX7_below 1 = .ok (.iload_n 2, 1) := by decide +kernel
theorem dX7_below_2 : decode cX7_below 2 = .ok (.invokestatic 64, 3) := by decide +kernel
theorem dX7_below_5 : decode cX7_below 5 = .ok (.ifCond .ne 10, 3) := by decide +kernel
theorem dX7_below_8 : decode cX7_below 8 = .ok (.aload_n 0, 1) := by decide +kernel
theorem dX7_below_9 : decode cX7_below 9 = .ok (.ldc 68, 2) := by decide +kernel
theorem dX7_below_11 : decode cX7_below 11 = .ok (.invokevirtual 69, 3) := by decide +kernel
theorem dX7_below_14 : decode cX7_below 14 = .ok (.ireturn, 1) := by decide +kernel
theorem dX7_below_15 : decode cX7_below 15 = .ok (.aload_n 0, 1) := by decide +kernel
theorem dX7_below_16 : decode cX7_below 16 = .ok (.sipush (-500), 3) := by decide +kernel
theorem dX7_below_19 : decode cX7_below 19 = .ok (.iload_n 1, 1) := by decide +kernel
theorem dX7_below_20 : decode cX7_below 20 = .ok (.sipush (-500), 3) := by decide +kernel
theorem dX7_below_23 : decode cX7_below 23 = .ok (.iload_n 2, 1) := by decide +kernel
theorem dX7_below_24 : decode cX7_below 24 = .ok (.invokevirtual 109, 3) := by decide +kernel
theorem dX7_below_27 : decode cX7_below 27 = .ok (.aload_n 0, 1) := by decide +kernel
theorem dX7_below_28 : decode cX7_below 28 = .ok (.getfield 26, 3) := by decide +kernel
theorem dX7_below_31 : decode cX7_below 31 = .ok (.getfield 157, 3) := by decide +kernel
theorem dX7_below_34 : decode cX7_below 34 = .ok (.ireturn, 1) := by decide +kernel
theorem dX7_ring_0 : decode cX7_ring 0 = .ok (.iload_n 1, 1) := by decide +kernel
theorem dX7_ring_1 : decode cX7_ring 1 = .ok (.iload_n 2, 1) := by decide +kernel
theorem dX7_ring_2 : decode cX7_ring 2 = .ok (.invokestatic 64, 3) := by decide +kernel
theorem dX7_ring_5 : decode cX7_ring 5 = .ok (.ifCond .eq 14, 3) := by decide +kernel
theorem dX7_ring_8 : decode cX7_ring 8 = .ok (.iload_n 3, 1) := by decide +kernel
theorem dX7_ring_9 : decode cX7_ring 9 = .ok (.iconst 1, 1) := by decide +kernel
theorem dX7_ring_10 : decode cX7_ring 10 = .ok (.if_icmp .lt 9, 3) := by decide +kernel
theorem dX7_ring_13 : decode cX7_ring 13 = .ok (.iload_n 3, 1) := by decide +kernel
theorem dX7_ring_14 : decode cX7_ring 14 = .ok (.bipush 60, 2) := by decide +kernel
theorem dX7_ring_16 : decode cX7_ring 16 = .ok (.if_icmp .le 10, 3) := by decide +kernel
theorem dX7_ring_19 : decode cX7_ring 19 = .ok (.aload_n 0, 1) := by decide +kernel
theorem dX7_ring_20 : decode cX7_ring 20 = .ok (.ldc 68, 2) := by decide +kernel
theorem dX7_ring_22 : decode cX7_ring 22 = .ok (.invokevirtual 69, 3) := by decide +kernel
theorem dX7_ring_25 : decode cX7_ring 25 = .ok (.ireturn, 1) := by decide +kernel
theorem dX7_ring_26 : decode cX7_ring 26 = .ok (.aload_n 0, 1) := by decide +kernel
theorem dX7_ring_27 : decode cX7_ring 27 = .ok (.getfield 26, 3) := by decide +kernel
theorem dX7_ring_30 : decode cX7_ring 30 = .ok (.aload_n 0, 1) := by decide +kernel
theorem dX7_ring_31 : decode cX7_ring 31 = .ok (.getfield 10, 3) := by decide +kernel
theorem dX7_ring_34 : decode cX7_ring 34 = .ok (.invokevirtual 140, 3) := by decide +kernel
theorem dX7_ring_37 : decode cX7_ring 37 = .ok (.ldc 163, 2) := by decide +kernel
theorem dX7_ring_39 : decode cX7_ring 39 = .ok (.istore 4, 2) := by decide +kernel
theorem dX7_ring_41 : decode cX7_ring 41 = .ok (.iconst 0, 1) := by decide +kernel
theorem dX7_ring_42 : decode cX7_ring 42 = .ok (.istore 5, 2) := by decide +kernel
theorem dX7_ring_44 : decode cX7_ring 44 = .ok (.iload 5, 2) := by decide +kernel
theorem dX7_ring_46 : decode cX7_ring 46 = .ok (.aload_n 0, 1) := by decide +kernel
theorem dX7_ring_47 : decode cX7_ring 47 = .ok (.getfield 26, 3) := by decide +kernel
theorem dX7_ring_50 : decode cX7_ring 50 = .ok (.getfield 157, 3) := by decide +kernel
theorem dX7_ring_53 : decode cX7_ring 53 = .ok (.if_icmp .ge 67, 3) := by decide +kernel
theorem dX7_ring_56 : decode cX7_ring 56 = .ok (.aload_n 0, 1) := by decide +kernel
theorem dX7_ring_57 : decode cX7_ring 57 = .ok (.getfield 10, 3) := by decide +kernel
theorem dX7_ring_60 : decode cX7_ring 60 = .ok (.aload_n 0, 1) := by decide +kernel
theorem dX7_ring_61 : decode cX7_ring 61 = .ok (.getfield 26, 3) := by decide +kernel
theorem dX7_ring_64 : decode cX7_ring 64 = .ok (.getfield 164, 3) := by decide +kernel
theorem dX7_ring_67 : decode cX7_ring 67 = .ok (.iload 5, 2) := by decide +kernel
theorem dX7_ring_69 : decode cX7_ring 69 = .ok (.iaload, 1) := by decide +kernel
theorem dX7_ring_70 : decode cX7_ring 70 = .ok (.iload_n 1, 1) := by decide +kernel
theorem dX7_ring_71 : decode cX7_ring 71 = .ok (.iload_n 2, 1) := by decide +kernel
theorem dX7_ring_72 : decode cX7_ring 72 = .ok (.invokevirtual 167, 3) := by decide +kernel
theorem dX7_ring_75 : decode cX7_ring 75 = .ok (.istore 6, 2) := by decide +kernel
theorem dX7_ring_77 : decode cX7_ring 77 = .ok (.iload 4, 2) := by decide +kernel
theorem dX7_ring_79 : decode cX7_ring 79 = .ok (.ldc 163, 2) := by decide +kernel
theorem dX7_ring_81 : decode cX7_ring 81 = .ok (.if_icmp .eq 10, 3) := by decide +kernel
theorem dX7_ring_84 : decode cX7_ring 84 = .ok (.iload 6, 2) := by decide +kernel
theorem dX7_ring_86 : decode cX7_ring 86 = .ok (.iload 4, 2) := by decide +kernel
theorem dX7_ring_88 : decode cX7_ring 88 = .ok (.if_icmp .ge 26, 3) := by decide +kernel
theorem dX7_ring_91 : decode cX7_ring 91 = .ok (.aload_n 0, 1) := by decide +kernel
theorem dX7_ring_92 : decode cX7_ring 92 = .ok (.getfield 26, 3) := by decide +kernel
theorem dX7_ring_95 : decode cX7_ring 95 = .ok (.aload_n 0, 1) := by decide +kernel
theorem dX7_ring_96 : decode cX7_ring 96 = .ok (.getfield 10, 3) := by decide +kernel
theorem dX7_ring_99 : decode cX7_ring 99 = .ok (.iload_n 1, 1) := by decide +kernel
theorem dX7_ring_100 : decode cX7_ring 100 = .ok (.iload_n 2, 1) := by decide +kernel
theorem dX7_ring_101 : decode cX7_ring 101 = .ok (.iload 6, 2) := by decide +kernel
theorem dX7_ring_103 : decode cX7_ring 103 = .ok (.invokevirtual 170, 3) := by decide +kernel
theorem dX7_ring_106 : decode cX7_ring 106 = .ok (.iload_n 3, 1) := by decide +kernel
theorem dX7_ring_107 : decode cX7_ring 107 = .ok (.if_icmp .lt 7, 3) := by decide +kernel
theorem dX7_ring_110 : decode cX7_ring 110 = .ok (.iload 6, 2) := by decide +kernel
theorem dX7_ring_112 : decode cX7_ring 112 = .ok (.istore 4, 2) := by decide +kernel
theorem dX7_ring_114 : decode cX7_ring 114 = .ok (.iinc 5 1, 3) := by decide +kernel
theorem dX7_ring_117 : decode cX7_ring 117 = .ok (.goto (-73), 3) := by decide +kernel
theorem dX7_ring_120 : decode cX7_ring 120 = .ok (.iload 4, 2) := by decide +kernel
theorem dX7_ring_122 : decode cX7_ring 122 = .ok (.ireturn, 1) := by decide +kernel
theorem dX7_near_0 : decode cX7_near 0 = .ok (.iload_n 1, 1) := by decide +kernel
theorem dX7_near_1 : decode cX7_near 1 = .ok (.iload_n 2, 1) := by decide +kernel
theorem dX7_near_2 : decode cX7_near 2 = .ok (.invokestatic 64, 3) := by decide +kernel
theorem dX7_near_5 : decode cX7_near 5 = .ok (.ifCond .ne 10, 3) := by decide +kernel
theorem dX7_near_8 : decode cX7_near 8 = .ok (.aload_n 0, 1) := by decide +kernel
theorem dX7_near_9 : decode cX7_near 9 = .ok (.ldc 68, 2) := by decide +kernel
theorem dX7_near_11 : decode cX7_near 11 = .ok (.invokevirtual 69, 3) := by decide +kernel
theorem dX7_near_14 : decode cX7_near 14 = .ok (.ireturn, 1) := by decide +kernel
theorem dX7_near_15 : decode cX7_near 15 = .ok (.aload_n 0, 1) := by decide +kernel
theorem dX7_near_16 : decode cX7_near 16 = .ok (.getfield 26, 3) := by decide +kernel
theorem dX7_near_19 : decode cX7_near 19 = .ok (.aload_n 0, 1) := by decide +kernel
theorem dX7_near_20 : decode cX7_near 20 = .ok (.getfield 10, 3) := by decide +kernel
theorem dX7_near_23 : decode cX7_near 23 = .ok (.invokevirtual 140, 3) := by decide +kernel
theorem dX7_near_26 : decode cX7_near 26 = .ok (.ldc 163, 2) := by decide +kernel
theorem dX7_near_28 : decode cX7_near 28 = .ok (.istore_n 3, 1) := by decide +kernel
theorem dX7_near_29 : decode cX7_near 29 = .ok (.sipush 1001, 3) := by decide +kernel
theorem dX7_near_32 : decode cX7_near 32 = .ok (.istore 4, 2) := by decide +kernel
theorem dX7_near_34 : decode cX7_near 34 = .ok (.iconst 0, 1) := by decide +kernel
theorem dX7_near_35 : decode cX7_near 35 = .ok (.istore 5, 2) := by decide +kernel
theorem dX7_near_37 : decode cX7_near 37 = .ok (.iload 5, 2) := by decide +kernel
theorem dX7_near_39 : decode cX7_near 39 = .ok (.aload_n 0, 1) := by decide +kernel
theorem dX7_near_40 : decode cX7_near 40 = .ok (.getfield 26, 3) := by decide +kernel
theorem dX7_near_43 : decode cX7_near 43 = .ok (.getfield 157, 3) := by decide +kernel
theorem dX7_near_46 : decode cX7_near 46 = .ok (.if_icmp .ge 60, 3) := by decide +kernel
theorem dX7_near_49 : decode cX7_near 49 = .ok (.aload_n 0, 1) := by decide +kernel
theorem dX7_near_50 : decode cX7_near 50 = .ok (.getfield 10, 3) := by decide +kernel
theorem dX7_near_53 : decode cX7_near 53 = .ok (.aload_n 0, 1) := by decide +kernel
theorem dX7_near_54 : decode cX7_near 54 = .ok (.getfield 26, 3) := by decide +kernel
theorem dX7_near_57 : decode cX7_near 57 = .ok (.getfield 164, 3) := by decide +kernel
theorem dX7_near_60 : decode cX7_near 60 = .ok (.iload 5, 2) := by decide +kernel
theorem dX7_near_62 : decode cX7_near 62 = .ok (.iaload, 1) := by decide +kernel
theorem dX7_near_63 : decode cX7_near 63 = .ok (.iload_n 1, 1) := by decide +kernel
theorem dX7_near_64 : decode cX7_near 64 = .ok (.iload_n 2, 1) := by decide +kernel
theorem dX7_near_65 : decode cX7_near 65 = .ok (.invokevirtual 167, 3) := by decide +kernel
theorem dX7_near_68 : decode cX7_near 68 = .ok (.istore 6, 2) := by decide +kernel
theorem dX7_near_70 : decode cX7_near 70 = .ok (.iload 6, 2) := by decide +kernel
theorem dX7_near_72 : decode cX7_near 72 = .ok (.iload 4, 2) := by decide +kernel
theorem dX7_near_74 : decode cX7_near 74 = .ok (.if_icmp .ge 26, 3) := by decide +kernel
theorem dX7_near_77 : decode cX7_near 77 = .ok (.iload 6, 2) := by decide +kernel
theorem dX7_near_79 : decode cX7_near 79 = .ok (.istore 4, 2) := by decide +kernel
theorem dX7_near_81 : decode cX7_near 81 = .ok (.aload_n 0, 1) := by decide +kernel
theorem dX7_near_82 : decode cX7_near 82 = .ok (.getfield 10, 3) := by decide +kernel
theorem dX7_near_85 : decode cX7_near 85 = .ok (.getfield 174, 3) := by decide +kernel
theorem dX7_near_88 : decode cX7_near 88 = .ok (.aload_n 0, 1) := by decide +kernel
theorem dX7_near_89 : decode cX7_near 89 = .ok (.getfield 26, 3) := by decide +kernel
theorem dX7_near_92 : decode cX7_near 92 = .ok (.getfield 164, 3) := by decide +kernel
theorem dX7_near_95 : decode cX7_near 95 = .ok (.iload 5, 2) := by decide +kernel
theorem dX7_near_97 : decode cX7_near 97 = .ok (.iaload, 1) := by decide +kernel
theorem dX7_near_98 : decode cX7_near 98 = .ok (.iaload, 1) := by decide +kernel
theorem dX7_near_99 : decode cX7_near 99 = .ok (.istore_n 3, 1) := by decide +kernel
theorem dX7_near_100 : decode cX7_near 100 = .ok (.iinc 5 1, 3) := by decide +kernel
theorem dX7_near_103 : decode cX7_near 103 = .ok (.goto (-66), 3) := by decide +kernel
theorem dX7_near_106 : decode cX7_near 106 = .ok (.iload_n 3, 1) := by decide +kernel
theorem dX7_near_107 : decode cX7_near 107 = .ok (.ireturn, 1) := by decide +kernel
theorem dX7_strip_0 : decode cX7_strip 0 = .ok (.iload_n 1, 1) := by decide +kernel
theorem dX7_strip_1 : decode cX7_strip 1 = .ok (.ifCond .lt 8, 3) := by decide +kernel
theorem dX7_strip_4 : decode cX7_strip 4 = .ok (.iload_n 1, 1) := by decide +kernel
theorem dX7_strip_5 : decode cX7_strip 5 = .ok (.iconst 1, 1) := by decide +kernel
theorem dX7_strip_6 : decode cX7_strip 6 = .ok (.if_icmp .le 10, 3) := by decide +kernel
theorem dX7_strip_9 : decode cX7_strip 9 = .ok (.aload_n 0, 1) := by decide +kernel
theorem dX7_strip_10 : decode cX7_strip 10 = .ok (.ldc 68, 2) := by decide +kernel
theorem dX7_strip_12 : decode cX7_strip 12 = .ok (.invokevirtual 69, 3) := by decide +kernel
theorem dX7_strip_15 : decode cX7_strip 15 = .ok (.ireturn, 1) := by decide +kernel
theorem dX7_strip_16 : decode cX7_strip 16 = .ok (.aload_n 0, 1) := by decide +kernel
theorem dX7_strip_17 : decode cX7_strip 17 = .ok (.getfield 26, 3) := by decide +kernel
theorem dX7_strip_20 : decode cX7_strip 20 = .ok (.aload_n 0, 1) := by decide +kernel
theorem dX7_strip_21 : decode cX7_strip 21 = .ok (.getfield 10, 3) := by decide +kernel
theorem dX7_strip_24 : decode cX7_strip 24 = .ok (.invokevirtual 140, 3) := by decide +kernel
theorem dX7_strip_27 : decode cX7_strip 27 = .ok (.aload_n 0, 1) := by decide +kernel
theorem dX7_strip_28 : decode cX7_strip 28 = .ok (.getfield 26, 3) := by decide +kernel
theorem dX7_strip_31 : decode cX7_strip 31 = .ok (.aload_n 0, 1) := by decide +kernel
theorem dX7_strip_32 : decode cX7_strip 32 = .ok (.getfield 10, 3) := by decide +kernel
theorem dX7_strip_35 : decode cX7_strip 35 = .ok (.invokevirtual 160, 3) := by decide +kernel
theorem dX7_strip_38 : decode cX7_strip 38 = .ok (.iconst 0, 1) := by decide +kernel
theorem dX7_strip_39 : decode cX7_strip 39 = .ok (.istore_n 2, 1) := by decide +kernel
theorem dX7_strip_40 : decode cX7_strip 40 = .ok (.iconst 0, 1) := by decide +kernel
theorem dX7_strip_41 : decode cX7_strip 41 = .ok (.istore_n 3, 1) := by decide +kernel
theorem dX7_strip_42 : decode cX7_strip 42 = .ok (.iconst 1, 1) := by decide +kernel
theorem dX7_strip_43 : decode cX7_strip 43 = .ok (.istore 4, 2) := by decide +kernel
theorem dX7_strip_45 : decode cX7_strip 45 = .ok (.iload 4, 2) := by decide +kernel
theorem dX7_strip_47 : decode cX7_strip 47 = .ok (.aload_n 0, 1) := by decide +kernel
theorem dX7_strip_48 : decode cX7_strip 48 = .ok (.getfield 26, 3) := by decide +kernel
theorem dX7_strip_51 : decode cX7_strip 51 = .ok (.getfield 157, 3) := by decide +kernel
theorem dX7_strip_54 : decode cX7_strip 54 = .ok (.if_icmp .ge 66, 3) := by decide +kernel
theorem dX7_strip_57 : decode cX7_strip 57 = .ok (.aload_n 0, 1) := by decide +kernel
theorem dX7_strip_58 : decode cX7_strip 58 = .ok (.getfield 10, 3) := by decide +kernel
theorem dX7_strip_61 : decode cX7_strip 61 = .ok (.getfield 127, 3) := by decide +kernel
theorem dX7_strip_64 : decode cX7_strip 64 = .ok (.aload_n 0, 1) := by decide +kernel
theorem dX7_strip_65 : decode cX7_strip 65 = .ok (.getfield 26, 3) := by decide +kernel
theorem dX7_strip_68 : decode cX7_strip 68 = .ok (.getfield 164, 3) := by decide +kernel
theorem dX7_strip_71 : decode cX7_strip 71 = .ok (.iload 4, 2) := by decide +kernel
theorem dX7_strip_73 : decode cX7_strip 73 = .ok (.iconst 1, 1) := by decide +kernel
theorem dX7_strip_74 : decode cX7_strip 74 = .ok (.isub, 1) := by decide +kernel
theorem dX7_strip_75 : decode cX7_strip 75 = .ok (.iaload, 1) := by decide +kernel
theorem dX7_strip_76 : decode cX7_strip 76 = .ok (.iaload, 1) := by decide +kernel
theorem dX7_strip_77 : decode cX7_strip 77 = .ok (.istore 5, 2) := by decide +kernel
theorem dX7_strip_79 : decode cX7_strip 79 = .ok (.aload_n 0, 1) := by decide +kernel
theorem dX7_strip_80 : decode cX7_strip 80 = .ok (.getfield 10, 3) := by decide +kernel
theorem dX7_strip_83 : decode cX7_strip 83 = .ok (.getfield 127, 3) := by decide +kernel
theorem dX7_strip_86 : decode cX7_strip 86 = .ok (.aload_n 0, 1) := by decide +kernel
theorem dX7_strip_87 : decode cX7_strip 87 = .ok (.getfield 26, 3) := by decide +kernel
theorem dX7_strip_90 : decode cX7_strip 90 = .ok (.getfield 164, 3) := by decide +kernel
theorem dX7_strip_93 : decode cX7_strip 93 = .ok (.iload 4, 2) := by decide +kernel
theorem dX7_strip_95 : decode cX7_strip 95 = .ok (.iaload, 1) := by decide +kernel
theorem dX7_strip_96 : decode cX7_strip 96 = .ok (.iaload, 1) := by decide +kernel
theorem dX7_strip_97 : decode cX7_strip 97 = .ok (.iload 5, 2) := by decide +kernel
theorem dX7_strip_99 : decode cX7_strip 99 = .ok (.isub, 1) := by decide +kernel
theorem dX7_strip_100 : decode cX7_strip 100 = .ok (.istore 6, 2) := by decide +kernel
theorem dX7_strip_102 : decode cX7_strip 102 = .ok (.iload 6, 2) := by decide +kernel
theorem dX7_strip_104 : decode cX7_strip 104 = .ok (.iload_n 2, 1) := by decide +kernel
theorem dX7_strip_105 : decode cX7_strip 105 = .ok (.if_icmp .le 9, 3) := by decide +kernel
theorem dX7_strip_108 : decode cX7_strip 108 = .ok (.iload 6, 2) := by decide +kernel
theorem dX7_strip_110 : decode cX7_strip 110 = .ok (.istore_n 2, 1) := by decide +kernel
theorem dX7_strip_111 : decode cX7_strip 111 = .ok (.iload 5, 2) := by decide +kernel
theorem dX7_strip_113 : decode cX7_strip 113 = .ok (.istore_n 3, 1) := by decide +kernel
theorem dX7_strip_114 : decode cX7_strip 114 = .ok (.iinc 4 1, 3) := by decide +kernel
theorem dX7_strip_117 : decode cX7_strip 117 = .ok (.goto (-72), 3) := by decide +kernel
theorem dX7_strip_120 : decode cX7_strip 120 = .ok (.iload_n 2, 1) := by decide +kernel
theorem dX7_strip_121 : decode cX7_strip 121 = .ok (.ifCond .ne 6, 3) := by decide +kernel
theorem dX7_strip_124 : decode cX7_strip 124 = .ok (.ldc 163, 2) := by decide +kernel
theorem dX7_strip_126 : decode cX7_strip 126 = .ok (.ireturn, 1) := by decide +kernel
theorem dX7_strip_127 : decode cX7_strip 127 = .ok (.iload_n 1, 1) := by decide +kernel
theorem dX7_strip_128 : decode cX7_strip 128 = .ok (.ifCond .ne 7, 3) := by decide +kernel
theorem dX7_strip_131 : decode cX7_strip 131 = .ok (.iload_n 2, 1) := by decide +kernel
theorem dX7_strip_132 : decode cX7_strip 132 = .ok (.goto 4, 3) := by decide +kernel
theorem dX7_strip_135 : decode cX7_strip 135 = .ok (.iload_n 3, 1) := by decide +kernel
theorem dX7_strip_136 : decode cX7_strip 136 = .ok (.ireturn, 1) := by decide +kernel
theorem dX7_square_0 : decode cX7_square 0 = .ok (.iload_n 1, 1) := by decide +kernel
theorem dX7_square_1 : decode cX7_square 1 = .ok (.ifCond .lt 19, 3) := by decide +kernel
theorem dX7_square_4 : decode cX7_square 4 = .ok (.iload_n 1, 1) := by decide +kernel
theorem dX7_square_5 : decode cX7_square 5 = .ok (.sipush 300, 3) := by decide +kernel
theorem dX7_square_8 : decode cX7_square 8 = .ok (.if_icmp .gt 12, 3) := by decide +kernel
theorem dX7_square_11 : decode cX7_square 11 = .ok (.iload_n 2, 1) := by decide +kernel
theorem dX7_square_12 : decode cX7_square 12 = .ok (.ifCond .lt 8, 3) := by decide +kernel
theorem dX7_square_15 : decode cX7_square 15 = .ok (.iload_n 2, 1) := by decide +kernel
theorem dX7_square_16 : decode cX7_square 16 = .ok (.iconst 2, 1) := by decide +kernel
theorem dX7_square_17 : decode cX7_square 17 = .ok (.if_icmp .le 10, 3) := by decide +kernel
theorem dX7_square_20 : decode cX7_square 20 = .ok (.aload_n 0, 1) := by decide +kernel
theorem dX7_square_21 : decode cX7_square 21 = .ok (.ldc 68, 2) := by decide +kernel
theorem dX7_square_23 : decode cX7_square 23 = .ok (.invokevirtual 69, 3) := by decide +kernel
theorem dX7_square_26 : decode cX7_square 26 = .ok (.ireturn, 1) := by decide +kernel
theorem dX7_square_27 : decode cX7_square 27 = .ok (.aload_n 0, 1) := by decide +kernel
theorem dX7_square_28 : decode cX7_square 28 = .ok (.getfield 26, 3) := by decide +kernel
theorem dX7_square_31 : decode cX7_square 31 = .ok (.aload_n 0, 1) := by decide +kernel
theorem dX7_square_32 : decode cX7_square 32 = .ok (.getfield 10, 3) := by decide +kernel
theorem dX7_square_35 : decode cX7_square 35 = .ok (.invokevirtual 140, 3) := by decide +kernel
theorem dX7_square_38 : decode cX7_square 38 = .ok (.aload_n 0, 1) := by decide +kernel
theorem dX7_square_39 : decode cX7_square 39 = .ok (.getfield 26, 3) := by decide +kernel
theorem dX7_square_42 : decode cX7_square 42 = .ok (.aload_n 0, 1) := by decide +kernel
theorem dX7_square_43 : decode cX7_square 43 = .ok (.getfield 10, 3) := by decide +kernel
theorem dX7_square_46 : decode cX7_square 46 = .ok (.invokevirtual 160, 3) := by decide +kernel
theorem dX7_square_49 : decode cX7_square 49 = .ok (.aload_n 0, 1) := by decide +kernel
theorem dX7_square_50 : decode cX7_square 50 = .ok (.getfield 30, 3) := by decide +kernel
theorem dX7_square_53 : decode cX7_square 53 = .ok (.aload_n 0, 1) := by decide +kernel
theorem dX7_square_54 : decode cX7_square 54 = .ok (.getfield 10, 3) := by decide +kernel
theorem dX7_square_57 : decode cX7_square 57 = .ok (.invokevirtual 140, 3) := by decide +kernel
theorem dX7_square_60 : decode cX7_square 60 = .ok (.aload_n 0, 1) := by decide +kernel
theorem dX7_square_61 : decode cX7_square 61 = .ok (.getfield 30, 3) := by decide +kernel
theorem dX7_square_64 : decode cX7_square 64 = .ok (.aload_n 0, 1) := by decide +kernel
theorem dX7_square_65 : decode cX7_square 65 = .ok (.getfield 10, 3) := by decide +kernel
theorem dX7_square_68 : decode cX7_square 68 = .ok (.invokevirtual 177, 3) := by decide +kernel
theorem dX7_square_71 : decode cX7_square 71 = .ok (.iconst 0, 1) := by decide +kernel
theorem dX7_square_72 : decode cX7_square 72 = .ok (.istore_n 3, 1) := by decide +kernel
theorem dX7_square_73 : decode cX7_square 73 = .ok (.iconst 0, 1) := by decide +kernel
theorem dX7_square_74 : decode cX7_square 74 = .ok (.istore 4, 2) := by decide +kernel
theorem dX7_square_76 : decode cX7_square 76 = .ok (.iconst 0, 1) := by decide +kernel
theorem dX7_square_77 : decode cX7_square 77 = .ok (.istore 5, 2) := by decide +kernel
theorem dX7_square_79 : decode cX7_square 79 = .ok (.iconst 0, 1) := by decide +kernel
theorem dX7_square_80 : decode cX7_square 80 = .ok (.istore 6, 2) := by decide +kernel
theorem dX7_square_82 : decode cX7_square 82 = .ok (.iload 6, 2) := by decide +kernel
theorem dX7_square_84 : decode cX7_square 84 = .ok (.aload_n 0, 1) := by decide +kernel
theorem dX7_square_85 : decode cX7_square 85 = .ok (.getfield 26, 3) := by decide +kernel
theorem dX7_square_88 : decode cX7_square 88 = .ok (.getfield 157, 3) := by decide +kernel
theorem dX7_square_91 : decode cX7_square 91 = .ok (.if_icmp .ge 80, 3) := by decide +kernel
theorem dX7_square_94 : decode cX7_square 94 = .ok (.aload_n 0, 1) := by decide +kernel
theorem dX7_square_95 : decode cX7_square 95 = .ok (.getfield 10, 3) := by decide +kernel
theorem dX7_square_98 : decode cX7_square 98 = .ok (.getfield 127, 3) := by decide +kernel
theorem dX7_square_101 : decode cX7_square 101 = .ok (.aload_n 0, 1) := by decide +kernel
theorem dX7_square_102 : decode cX7_square 102 = .ok (.getfield 26, 3) := by decide +kernel
theorem dX7_square_105 : decode cX7_square 105 = .ok (.getfield 164, 3) := by decide +kernel
theorem dX7_square_108 : decode cX7_square 108 = .ok (.iload 6, 2) := by decide +kernel
theorem dX7_square_110 : decode cX7_square 110 = .ok (.iaload, 1) := by decide +kernel
theorem dX7_square_111 : decode cX7_square 111 = .ok (.iaload, 1) := by decide +kernel
theorem dX7_square_112 : decode cX7_square 112 = .ok (.istore 7, 2) := by decide +kernel
theorem dX7_square_114 : decode cX7_square 114 = .ok (.aload_n 0, 1) := by decide +kernel
theorem dX7_square_115 : decode cX7_square 115 = .ok (.getfield 30, 3) := by decide +kernel
theorem dX7_square_118 : decode cX7_square 118 = .ok (.aload_n 0, 1) := by decide +kernel
theorem dX7_square_119 : decode cX7_square 119 = .ok (.getfield 10, 3) := by decide +kernel
theorem dX7_square_122 : decode cX7_square 122 = .ok (.iload 7, 2) := by decide +kernel
theorem dX7_square_124 : decode cX7_square 124 = .ok (.iload_n 1, 1) := by decide +kernel
theorem dX7_square_125 : decode cX7_square 125 = .ok (.invokevirtual 180, 3) := by decide +kernel
theorem dX7_square_128 : decode cX7_square 128 = .ok (.istore 8, 2) := by decide +kernel
theorem dX7_square_130 : decode cX7_square 130 = .ok (.aload_n 0, 1) := by decide +kernel
theorem dX7_square_131 : decode cX7_square 131 = .ok (.getfield 30, 3) := by decide +kernel
theorem dX7_square_134 : decode cX7_square 134 = .ok (.aload_n 0, 1) := by decide +kernel
theorem dX7_square_135 : decode cX7_square 135 = .ok (.getfield 10, 3) := by decide +kernel
theorem dX7_square_138 : decode cX7_square 138 = .ok (.iload 7, 2) := by decide +kernel
theorem dX7_square_140 : decode cX7_square 140 = .ok (.iload 8, 2) := by decide +kernel
theorem dX7_square_142 : decode cX7_square 142 = .ok (.iload_n 1, 1) := by decide +kernel
theorem dX7_square_143 : decode cX7_square 143 = .ok (.invokevirtual 184, 3) := by decide +kernel
theorem dX7_square_146 : decode cX7_square 146 = .ok (.istore 9, 2) := by decide +kernel
theorem dX7_square_148 : decode cX7_square 148 = .ok (.iload 9, 2) := by decide +kernel
theorem dX7_square_150 : decode cX7_square 150 = .ok (.iload_n 3, 1) := by decide +kernel
theorem dX7_square_151 : decode cX7_square 151 = .ok (.if_icmp .le 14, 3) := by decide +kernel
theorem dX7_square_154 : decode cX7_square 154 = .ok (.iload 9, 2) := by decide +kernel
theorem dX7_square_156 : decode cX7_square 156 = .ok (.istore_n 3, 1) := by decide +kernel
theorem dX7_square_157 : decode cX7_square 157 = .ok (.iload 7, 2) := by decide +kernel
theorem dX7_square_159 : decode cX7_square 159 = .ok (.istore 4, 2) := by decide +kernel
theorem dX7_square_161 : decode cX7_square 161 = .ok (.iload 8, 2) := by decide +kernel
theorem dX7_square_163 : decode cX7_square 163 = .ok (.istore 5, 2) := by decide +kernel
theorem dX7_square_165 : decode cX7_square 165 = .ok (.iinc 6 1, 3) := by decide +kernel
theorem dX7_square_168 : decode cX7_square 168 = .ok (.goto (-86), 3) := by decide +kernel
theorem dX7_square_171 : decode cX7_square 171 = .ok (.iload_n 3, 1) := by decide +kernel
theorem dX7_square_172 : decode cX7_square 172 = .ok (.ifCond .ne 6, 3) := by decide +kernel
theorem dX7_square_175 : decode cX7_square 175 = .ok (.ldc 163, 2) := by decide +kernel
theorem dX7_square_177 : decode cX7_square 177 = .ok (.ireturn, 1) := by decide +kernel
theorem dX7_square_178 : decode cX7_square 178 = .ok (.iload_n 2, 1) := by decide +kernel
theorem dX7_square_179 : decode cX7_square 179 = .ok (.ifCond .ne 7, 3) := by decide +kernel
theorem dX7_square_182 : decode cX7_square 182 = .ok (.iload_n 3, 1) := by decide +kernel
theorem dX7_square_183 : decode cX7_square 183 = .ok (.goto 15, 3) := by decide +kernel
theorem dX7_square_186 : decode cX7_square 186 = .ok (.iload_n 2, 1) := by decide +kernel
theorem dX7_square_187 : decode cX7_square 187 = .ok (.iconst 1, 1) := by decide +kernel
theorem dX7_square_188 : decode cX7_square 188 = .ok (.if_icmp .ne 8, 3) := by decide +kernel
theorem dX7_square_191 : decode cX7_square 191 = .ok (.iload 4, 2) := by decide +kernel
theorem dX7_square_193 : decode cX7_square 193 = .ok (.goto 5, 3) := by decide +kernel
theorem dX7_square_196 : decode cX7_square 196 = .ok (.iload 5, 2) := by decide +kernel
theorem dX7_square_198 : decode cX7_square 198 = .ok (.ireturn, 1) := by decide +kernel
theorem dX7_pairs_0 : decode cX7_pairs 0 = .ok (.aload_n 0, 1) := by decide +kernel
theorem dX7_pairs_1 : decode cX7_pairs 1 = .ok (.getfield 26, 3) := by decide +kernel
theorem dX7_pairs_4 : decode cX7_pairs 4 = .ok (.aload_n 0, 1) := by decide +kernel
theorem dX7_pairs_5 : decode cX7_pairs 5 = .ok (.getfield 10, 3) := by decide +kernel
theorem dX7_pairs_8 : decode cX7_pairs 8 = .ok (.invokevirtual 140, 3) := by decide +kernel
theorem dX7_pairs_11 : decode cX7_pairs 11 = .ok (.iconst 0, 1) := by decide +kernel
theorem dX7_pairs_12 : decode cX7_pairs 12 = .ok (.istore_n 1, 1) := by decide +kernel
theorem dX7_pairs_13 : decode cX7_pairs 13 = .ok (.iconst 0, 1) := by decide +kernel
theorem dX7_pairs_14 : decode cX7_pairs 14 = .ok (.istore_n 2, 1) := by decide +kernel
theorem dX7_pairs_15 : decode cX7_pairs 15 = .ok (.iload_n 2, 1) := by decide +kernel
theorem dX7_pairs_16 : decode cX7_pairs 16 = .ok (.aload_n 0, 1) := by decide +kernel
theorem dX7_pairs_17 : decode cX7_pairs 17 = .ok (.getfield 26, 3) := by decide +kernel
theorem dX7_pairs_20 : decode cX7_pairs 20 = .ok (.getfield 157, 3) := by decide +kernel
theorem dX7_pairs_23 : decode cX7_pairs 23 = .ok (.if_icmp .ge 59, 3) := by decide +kernel
theorem dX7_pairs_26 : decode cX7_pairs 26 = .ok (.iconst 0, 1) := by decide +kernel
theorem dX7_pairs_27 : decode cX7_pairs 27 = .ok (.istore_n 3, 1) := by decide +kernel
theorem dX7_pairs_28 : decode cX7_pairs 28 = .ok (.iload_n 3, 1) := by decide +kernel
theorem dX7_pairs_29 : decode cX7_pairs 29 = .ok (.aload_n 0, 1) := by decide +kernel
theorem dX7_pairs_30 : decode cX7_pairs 30 = .ok (.getfield 26, 3) := by decide +kernel
theorem dX7_pairs_33 : decode cX7_pairs 33 = .ok (.getfield 157, 3) := by decide +kernel
theorem dX7_pairs_36 : decode cX7_pairs 36 = .ok (.if_icmp .ge 40, 3) := by decide +kernel
theorem dX7_pairs_39 : decode cX7_pairs 39 = .ok (.aload_n 0, 1) := by decide +kernel
theorem dX7_pairs_40 : decode cX7_pairs 40 = .ok (.getfield 10, 3) := by decide +kernel
theorem dX7_pairs_43 : decode cX7_pairs 43 = .ok (.aload_n 0, 1) := by decide +kernel
theorem dX7_pairs_44 : decode cX7_pairs 44 = .ok (.getfield 26, 3) := by decide +kernel
theorem dX7_pairs_47 : decode cX7_pairs 47 = .ok (.getfield 164, 3) := by decide +kernel
theorem dX7_pairs_50 : decode cX7_pairs 50 = .ok (.iload_n 2, 1) := by decide +kernel
theorem dX7_pairs_51 : decode cX7_pairs 51 = .ok (.iaload, 1) := by decide +kernel
theorem dX7_pairs_52 : decode cX7_pairs 52 = .ok (.aload_n 0, 1) := by decide +kernel
theorem dX7_pairs_53 : decode cX7_pairs 53 = .ok (.getfield 26, 3) := by decide +kernel
theorem dX7_pairs_56 : decode cX7_pairs 56 = .ok (.getfield 164, 3) := by decide +kernel
theorem dX7_pairs_59 : decode cX7_pairs 59 = .ok (.iload_n 3, 1) := by decide +kernel
theorem dX7_pairs_60 : decode cX7_pairs 60 = .ok (.iaload, 1) := by decide +kernel
theorem dX7_pairs_61 : decode cX7_pairs 61 = .ok (.invokevirtual 187, 3) := by decide +kernel
theorem dX7_pairs_64 : decode cX7_pairs 64 = .ok (.ifCond .eq 6, 3) := by decide +kernel
theorem dX7_pairs_67 : decode cX7_pairs 67 = .ok (.iinc 1 1, 3) := by decide +kernel
theorem dX7_pairs_70 : decode cX7_pairs 70 = .ok (.iinc 3 1, 3) := by decide +kernel
theorem dX7_pairs_73 : decode cX7_pairs 73 = .ok (.goto (-45), 3) := by decide +kernel
theorem dX7_pairs_76 : decode cX7_pairs 76 = .ok (.iinc 2 1, 3) := by decide +kernel
theorem dX7_pairs_79 : decode cX7_pairs 79 = .ok (.goto (-64), 3) := by decide +kernel
theorem dX7_pairs_82 : decode cX7_pairs 82 = .ok (.iload_n 1, 1) := by decide +kernel
theorem dX7_pairs_83 : decode cX7_pairs 83 = .ok (.ireturn, 1) := by decide +kernel
theorem dX7_stair_0 : decode cX7_stair 0 = .ok (.iload_n 1, 1) := by decide +kernel
theorem dX7_stair_1 : decode cX7_stair 1 = .ok (.iconst (-1), 1) := by decide +kernel
theorem dX7_stair_2 : decode cX7_stair 2 = .ok (.if_icmp .ge 10, 3) := by decide +kernel
theorem dX7_stair_5 : decode cX7_stair 5 = .ok (.aload_n 0, 1) := by decide +kernel
theorem dX7_stair_6 : decode cX7_stair 6 = .ok (.ldc 68, 2) := by decide +kernel
theorem dX7_stair_8 : decode cX7_stair 8 = .ok (.invokevirtual 69, 3) := by decide +kernel
theorem dX7_stair_11 : decode cX7_stair 11 = .ok (.ireturn, 1) := by decide +kernel
theorem dX7_stair_12 : decode cX7_stair 12 = .ok (.aload_n 0, 1) := by decide +kernel
theorem dX7_stair_13 : decode cX7_stair 13 = .ok (.getfield 26, 3) := by decide +kernel
theorem dX7_stair_16 : decode cX7_stair 16 = .ok (.aload_n 0, 1) := by decide +kernel
theorem dX7_stair_17 : decode cX7_stair 17 = .ok (.getfield 10, 3) := by decide +kernel
theorem dX7_stair_20 : decode cX7_stair 20 = .ok (.invokevirtual 140, 3) := by decide +kernel
theorem dX7_stair_23 : decode cX7_stair 23 = .ok (.aload_n 0, 1) := by decide +kernel
theorem dX7_stair_24 : decode cX7_stair 24 = .ok (.getfield 30, 3) := by decide +kernel
theorem dX7_stair_27 : decode cX7_stair 27 = .ok (.aload_n 0, 1) := by decide +kernel
theorem dX7_stair_28 : decode cX7_stair 28 = .ok (.getfield 10, 3) := by decide +kernel
theorem dX7_stair_31 : decode cX7_stair 31 = .ok (.aload_n 0, 1) := by decide +kernel
theorem dX7_stair_32 : decode cX7_stair 32 = .ok (.getfield 26, 3) := by decide +kernel
theorem dX7_stair_35 : decode cX7_stair 35 = .ok (.invokevirtual 190, 3) := by decide +kernel
theorem dX7_stair_38 : decode cX7_stair 38 = .ok (.iload_n 1, 1) := by decide +kernel
theorem dX7_stair_39 : decode cX7_stair 39 = .ok (.iconst (-1), 1) := by decide +kernel
theorem dX7_stair_40 : decode cX7_stair 40 = .ok (.if_icmp .ne 11, 3) := by decide +kernel
theorem dX7_stair_43 : decode cX7_stair 43 = .ok (.aload_n 0, 1) := by decide +kernel
theorem dX7_stair_44 : decode cX7_stair 44 = .ok (.getfield 30, 3) := by decide +kernel
theorem dX7_stair_47 : decode cX7_stair 47 = .ok (.getfield 157, 3) := by decide +kernel
theorem dX7_stair_50 : decode cX7_stair 50 = .ok (.ireturn, 1) := by decide +kernel
theorem dX7_stair_51 : decode cX7_stair 51 = .ok (.aload_n 0, 1) := by decide +kernel
theorem dX7_stair_52 : decode cX7_stair 52 = .ok (.getfield 30, 3) := by decide +kernel
theorem dX7_stair_55 : decode cX7_stair 55 = .ok (.aload_n 0, 1) := by decide +kernel
theorem dX7_stair_56 : decode cX7_stair 56 = .ok (.getfield 10, 3) := by decide +kernel
theorem dX7_stair_59 : decode cX7_stair 59 = .ok (.invokevirtual 160, 3) := by decide +kernel
theorem dX7_stair_62 : decode cX7_stair 62 = .ok (.aload_n 0, 1) := by decide +kernel
theorem dX7_stair_63 : decode cX7_stair 63 = .ok (.getfield 30, 3) := by decide +kernel
theorem dX7_stair_66 : decode cX7_stair 66 = .ok (.aload_n 0, 1) := by decide +kernel
theorem dX7_stair_67 : decode cX7_stair 67 = .ok (.getfield 10, 3) := by decide +kernel
theorem dX7_stair_70 : decode cX7_stair 70 = .ok (.iload_n 1, 1) := by decide +kernel
theorem dX7_stair_71 : decode cX7_stair 71 = .ok (.invokevirtual 143, 3) := by decide +kernel
theorem dX7_stair_74 : decode cX7_stair 74 = .ok (.ireturn, 1) := by decide +kernel
theorem dX7_layers_0 : decode cX7_layers 0 = .ok (.iload_n 1, 1) := by decide +kernel
theorem dX7_layers_1 : decode cX7_layers 1 = .ok (.tableswitch 72 0 4 #[35, 43, 51, 59, 64], 35) := by decide +kernel
theorem dX7_layers_36 : decode cX7_layers 36 = .ok (.aload_n 0, 1) := by decide +kernel
theorem dX7_layers_37 : decode cX7_layers 37 = .ok (.getfield 10, 3) := by decide +kernel
theorem dX7_layers_40 : decode cX7_layers 40 = .ok (.getfield 194, 3) := by decide +kernel
theorem dX7_layers_43 : decode cX7_layers 43 = .ok (.ireturn, 1) := by decide +kernel
theorem dX7_layers_44 : decode cX7_layers 44 = .ok (.aload_n 0, 1) := by decide +kernel
theorem dX7_layers_45 : decode cX7_layers 45 = .ok (.getfield 10, 3) := by decide +kernel
theorem dX7_layers_48 : decode cX7_layers 48 = .ok (.getfield 197, 3) := by decide +kernel
theorem dX7_layers_51 : decode cX7_layers 51 = .ok (.ireturn, 1) := by decide +kernel
theorem dX7_layers_52 : decode cX7_layers 52 = .ok (.aload_n 0, 1) := by decide +kernel
theorem dX7_layers_53 : decode cX7_layers 53 = .ok (.getfield 10, 3) := by decide +kernel
theorem dX7_layers_56 : decode cX7_layers 56 = .ok (.getfield 200, 3) := by decide +kernel
theorem dX7_layers_59 : decode cX7_layers 59 = .ok (.ireturn, 1) := by decide +kernel
theorem dX7_layers_60 : decode cX7_layers 60 = .ok (.aload_n 0, 1) := by decide +kernel
theorem dX7_layers_61 : decode cX7_layers 61 = .ok (.getfield 147, 3) := by decide +kernel
theorem dX7_layers_64 : decode cX7_layers 64 = .ok (.ireturn, 1) := by decide +kernel
theorem dX7_layers_65 : decode cX7_layers 65 = .ok (.aload_n 0, 1) := by decide +kernel
theorem dX7_layers_66 : decode cX7_layers 66 = .ok (.getfield 10, 3) := by decide +kernel
theorem dX7_layers_69 : decode cX7_layers 69 = .ok (.getfield 203, 3) := by decide +kernel
theorem dX7_layers_72 : decode cX7_layers 72 = .ok (.ireturn, 1) := by decide +kernel
theorem dX7_layers_73 : decode cX7_layers 73 = .ok (.aload_n 0, 1) := by decide +kernel
theorem dX7_layers_74 : decode cX7_layers 74 = .ok (.ldc 68, 2) := by decide +kernel
theorem dX7_layers_76 : decode cX7_layers 76 = .ok (.invokevirtual 69, 3) := by decide +kernel
theorem dX7_layers_79 : decode cX7_layers 79 = .ok (.ireturn, 1) := by decide +kernel
theorem dX7_inLayer_0 : decode cX7_inLayer 0 = .ok (.iload_n 1, 1) := by decide +kernel
theorem dX7_inLayer_1 : decode cX7_inLayer 1 = .ok (.iconst 1, 1) := by decide +kernel
theorem dX7_inLayer_2 : decode cX7_inLayer 2 = .ok (.if_icmp .lt 21, 3) := by decide +kernel
theorem dX7_inLayer_5 : decode cX7_inLayer 5 = .ok (.iload_n 1, 1) := by decide +kernel
theorem dX7_inLayer_6 : decode cX7_inLayer 6 = .ok (.bipush 64, 2) := by decide +kernel
theorem dX7_inLayer_8 : decode cX7_inLayer 8 = .ok (.if_icmp .gt 15, 3) := by decide +kernel
theorem dX7_inLayer_11 : decode cX7_inLayer 11 = .ok (.iload_n 1, 1) := by decide +kernel
theorem dX7_inLayer_12 : decode cX7_inLayer 12 = .ok (.invokestatic 206, 3) := by decide +kernel
theorem dX7_inLayer_15 : decode cX7_inLayer 15 = .ok (.iconst 1, 1) := by decide +kernel
theorem dX7_inLayer_16 : decode cX7_inLayer 16 = .ok (.if_icmp .ne 7, 3) := by decide +kernel
theorem dX7_inLayer_19 : decode cX7_inLayer 19 = .ok (.iconst 1, 1) := by decide +kernel
theorem dX7_inLayer_20 : decode cX7_inLayer 20 = .ok (.goto 4, 3) := by decide +kernel
theorem dX7_inLayer_23 : decode cX7_inLayer 23 = .ok (.iconst 0, 1) := by decide +kernel
theorem dX7_inLayer_24 : decode cX7_inLayer 24 = .ok (.istore 7, 2) := by decide +kernel
theorem dX7_inLayer_26 : decode cX7_inLayer 26 = .ok (.iload 7, 2) := by decide +kernel
theorem dX7_inLayer_28 : decode cX7_inLayer 28 = .ok (.ifCond .eq 25, 3) := by decide +kernel
theorem dX7_inLayer_31 : decode cX7_inLayer 31 = .ok (.iload_n 2, 1) := by decide +kernel
theorem dX7_inLayer_32 : decode cX7_inLayer 32 = .ok (.ifCond .lt 21, 3) := by decide +kernel
theorem dX7_inLayer_35 : decode cX7_inLayer 35 = .ok (.iload_n 2, 1) := by decide +kernel
theorem dX7_inLayer_36 : decode cX7_inLayer 36 = .ok (.iconst 1, 1) := by decide +kernel
theorem dX7_inLayer_37 : decode cX7_inLayer 37 = .ok (.if_icmp .gt 16, 3) := by decide +kernel
theorem dX7_inLayer_40 : decode cX7_inLayer 40 = .ok (.iload_n 3, 1) := by decide +kernel
theorem dX7_inLayer_41 : decode cX7_inLayer 41 = .ok (.iload 4, 2) := by decide +kernel
theorem dX7_inLayer_43 : decode cX7_inLayer 43 = .ok (.iload 5, 2) := by decide +kernel
theorem dX7_inLayer_45 : decode cX7_inLayer 45 = .ok (.iload 6, 2) := by decide +kernel
theorem dX7_inLayer_47 : decode cX7_inLayer 47 = .ok (.invokestatic 105, 3) := by decide +kernel
theorem dX7_inLayer_50 : decode cX7_inLayer 50 = .ok (.ifCond .ne 10, 3) := by decide +kernel
theorem dX7_inLayer_53 : decode cX7_inLayer 53 = .ok (.aload_n 0, 1) := by decide +kernel
theorem dX7_inLayer_54 : decode cX7_inLayer 54 = .ok (.ldc 68, 2) := by decide +kernel
theorem dX7_inLayer_56 : decode cX7_inLayer 56 = .ok (.invokevirtual 69, 3) := by decide +kernel
theorem dX7_inLayer_59 : decode cX7_inLayer 59 = .ok (.ireturn, 1) := by decide +kernel
theorem dX7_inLayer_60 : decode cX7_inLayer 60 = .ok (.aload_n 0, 1) := by decide +kernel
theorem dX7_inLayer_61 : decode cX7_inLayer 61 = .ok (.getfield 36, 3) := by decide +kernel
theorem dX7_inLayer_64 : decode cX7_inLayer 64 = .ok (.iload_n 3, 1) := by decide +kernel
theorem dX7_inLayer_65 : decode cX7_inLayer 65 = .ok (.iload 4, 2) := by decide +kernel
theorem dX7_inLayer_67 : decode cX7_inLayer 67 = .ok (.iload 5, 2) := by decide +kernel
theorem dX7_inLayer_69 : decode cX7_inLayer 69 = .ok (.iload 6, 2) := by decide +kernel
theorem dX7_inLayer_71 : decode cX7_inLayer 71 = .ok (.invokevirtual 211, 3) := by decide +kernel
theorem dX7_inLayer_74 : decode cX7_inLayer 74 = .ok (.aload_n 0, 1) := by decide +kernel
theorem dX7_inLayer_75 : decode cX7_inLayer 75 = .ok (.getfield 10, 3) := by decide +kernel
theorem dX7_inLayer_78 : decode cX7_inLayer 78 = .ok (.iload_n 1, 1) := by decide +kernel
theorem dX7_inLayer_79 : decode cX7_inLayer 79 = .ok (.iload_n 2, 1) := by decide +kernel
theorem dX7_inLayer_80 : decode cX7_inLayer 80 = .ok (.iconst 1, 1) := by decide +kernel
theorem dX7_inLayer_81 : decode cX7_inLayer 81 = .ok (.if_icmp .ne 7, 3) := by decide +kernel
theorem dX7_inLayer_84 : decode cX7_inLayer 84 = .ok (.iconst 1, 1) := by decide +kernel
theorem dX7_inLayer_85 : decode cX7_inLayer 85 = .ok (.goto 4, 3) := by decide +kernel
theorem dX7_inLayer_88 : decode cX7_inLayer 88 = .ok (.iconst 0, 1) := by decide +kernel
theorem dX7_inLayer_89 : decode cX7_inLayer 89 = .ok (.aload_n 0, 1) := by decide +kernel
theorem dX7_inLayer_90 : decode cX7_inLayer 90 = .ok (.getfield 36, 3) := by decide +kernel
theorem dX7_inLayer_93 : decode cX7_inLayer 93 = .ok (.invokevirtual 214, 3) := by decide +kernel
theorem dX7_inLayer_96 : decode cX7_inLayer 96 = .ok (.ireturn, 1) := by decide +kernel
theorem dX7_type_0 : decode cX7_type 0 = .ok (.iload_n 1, 1) := by decide +kernel
theorem dX7_type_1 : decode cX7_type 1 = .ok (.ifCond .lt 9, 3) := by decide +kernel
theorem dX7_type_4 : decode cX7_type 4 = .ok (.iload_n 1, 1) := by decide +kernel
theorem dX7_type_5 : decode cX7_type 5 = .ok (.bipush 127, 2) := by decide +kernel
theorem dX7_type_7 : decode cX7_type 7 = .ok (.if_icmp .le 10, 3) := by decide +kernel
theorem dX7_type_10 : decode cX7_type 10 = .ok (.aload_n 0, 1) := by decide +kernel
theorem dX7_type_11 : decode cX7_type 11 = .ok (.ldc 68, 2) := by decide +kernel
theorem dX7_type_13 : decode cX7_type 13 = .ok (.invokevirtual 69, 3) := by decide +kernel
theorem dX7_type_16 : decode cX7_type 16 = .ok (.ireturn, 1) := by decide +kernel
theorem dX7_type_17 : decode cX7_type 17 = .ok (.aload_n 0, 1) := by decide +kernel
theorem dX7_type_18 : decode cX7_type 18 = .ok (.getfield 46, 3) := by decide +kernel
theorem dX7_type_21 : decode cX7_type 21 = .ok (.getfield 218, 3) := by decide +kernel
theorem dX7_type_24 : decode cX7_type 24 = .ok (.bipush 120, 2) := by decide +kernel
theorem dX7_type_26 : decode cX7_type 26 = .ok (.if_icmp .lt 10, 3) := by decide +kernel
theorem dX7_type_29 : decode cX7_type 29 = .ok (.aload_n 0, 1) := by decide +kernel
theorem dX7_type_30 : decode cX7_type 30 = .ok (.ldc 81, 2) := by decide +kernel
theorem dX7_type_32 : decode cX7_type 32 = .ok (.invokevirtual 69, 3) := by decide +kernel
theorem dX7_type_35 : decode cX7_type 35 = .ok (.ireturn, 1) := by decide +kernel
theorem dX7_type_36 : decode cX7_type 36 = .ok (.aload_n 0, 1) := by decide +kernel
theorem dX7_type_37 : decode cX7_type 37 = .ok (.getfield 46, 3) := by decide +kernel
theorem dX7_type_40 : decode cX7_type 40 = .ok (.iload_n 1, 1) := by decide +kernel
theorem dX7_type_41 : decode cX7_type 41 = .ok (.invokevirtual 221, 3) := by decide +kernel
theorem dX7_type_44 : decode cX7_type 44 = .ok (.aload_n 0, 1) := by decide +kernel
theorem dX7_type_45 : decode cX7_type 45 = .ok (.getfield 46, 3) := by decide +kernel
theorem dX7_type_48 : decode cX7_type 48 = .ok (.getfield 218, 3) := by decide +kernel
theorem dX7_type_51 : decode cX7_type 51 = .ok (.ireturn, 1) := by decide +kernel
theorem dX7_clear_0 : decode cX7_clear 0 = .ok (.aload_n 0, 1) := by decide +kernel
theorem dX7_clear_1 : decode cX7_clear 1 = .ok (.getfield 46, 3) := by decide +kernel
theorem dX7_clear_4 : decode cX7_clear 4 = .ok (.getfield 218, 3) := by decide +kernel
theorem dX7_clear_7 : decode cX7_clear 7 = .ok (.istore_n 1, 1) := by decide +kernel
theorem dX7_clear_8 : decode cX7_clear 8 = .ok (.aload_n 0, 1) := by decide +kernel
theorem dX7_clear_9 : decode cX7_clear 9 = .ok (.getfield 46, 3) := by decide +kernel
theorem dX7_clear_12 : decode cX7_clear 12 = .ok (.iconst 0, 1) := by decide +kernel
theorem dX7_clear_13 : decode cX7_clear 13 = .ok (.putfield 218, 3) := by decide +kernel
theorem dX7_clear_16 : decode cX7_clear 16 = .ok (.iload_n 1, 1) := by decide +kernel
theorem dX7_clear_17 : decode cX7_clear 17 = .ok (.ireturn, 1) := by decide +kernel
theorem dX7_area_0 : decode cX7_area 0 = .ok (.aload_n 0, 1) := by decide +kernel
theorem dX7_area_1 : decode cX7_area 1 = .ok (.getfield 46, 3) := by decide +kernel
theorem dX7_area_4 : decode cX7_area 4 = .ok (.invokevirtual 225, 3) := by decide +kernel
theorem dX7_area_7 : decode cX7_area 7 = .ok (.istore_n 1, 1) := by decide +kernel
theorem dX7_area_8 : decode cX7_area 8 = .ok (.iload_n 1, 1) := by decide +kernel
theorem dX7_area_9 : decode cX7_area 9 = .ok (.ifCond .lt 8, 3) := by decide +kernel
theorem dX7_area_12 : decode cX7_area 12 = .ok (.bipush (-10), 2) := by decide +kernel
theorem dX7_area_14 : decode cX7_area 14 = .ok (.iload_n 1, 1) := by decide +kernel
theorem dX7_area_15 : decode cX7_area 15 = .ok (.isub, 1) := by decide +kernel
theorem dX7_area_16 : decode cX7_area 16 = .ok (.ireturn, 1) := by decide +kernel
theorem dX7_area_17 : decode cX7_area 17 = .ok (.aload_n 0, 1) := by decide +kernel
theorem dX7_area_18 : decode cX7_area 18 = .ok (.getfield 40, 3) := by decide +kernel
theorem dX7_area_21 : decode cX7_area 21 = .ok (.aload_n 0, 1) := by decide +kernel
theorem dX7_area_22 : decode cX7_area 22 = .ok (.getfield 46, 3) := by decide +kernel
theorem dX7_area_25 : decode cX7_area 25 = .ok (.getfield 228, 3) := by decide +kernel
theorem dX7_area_28 : decode cX7_area 28 = .ok (.invokevirtual 231, 3) := by decide +kernel
theorem dX7_area_31 : decode cX7_area 31 = .ok (.aload_n 0, 1) := by decide +kernel
theorem dX7_area_32 : decode cX7_area 32 = .ok (.getfield 40, 3) := by decide +kernel
theorem dX7_area_35 : decode cX7_area 35 = .ok (.getfield 235, 3) := by decide +kernel
theorem dX7_area_38 : decode cX7_area 38 = .ok (.ireturn, 1) := by decide +kernel
theorem dX7_inside_0 : decode cX7_inside 0 = .ok (.aload_n 0, 1) := by decide +kernel
theorem dX7_inside_1 : decode cX7_inside 1 = .ok (.getfield 26, 3) := by decide +kernel
theorem dX7_inside_4 : decode cX7_inside 4 = .ok (.aload_n 0, 1) := by decide +kernel
theorem dX7_inside_5 : decode cX7_inside 5 = .ok (.getfield 10, 3) := by decide +kernel
theorem dX7_inside_8 : decode cX7_inside 8 = .ok (.aload_n 0, 1) := by decide +kernel
theorem dX7_inside_9 : decode cX7_inside 9 = .ok (.getfield 40, 3) := by decide +kernel
theorem dX7_inside_12 : decode cX7_inside 12 = .ok (.invokevirtual 238, 3) := by decide +kernel
theorem dX7_inside_15 : decode cX7_inside 15 = .ok (.aload_n 0, 1) := by decide +kernel
theorem dX7_inside_16 : decode cX7_inside 16 = .ok (.getfield 26, 3) := by decide +kernel
theorem dX7_inside_19 : decode cX7_inside 19 = .ok (.aload_n 0, 1) := by decide +kernel
theorem dX7_inside_20 : decode cX7_inside 20 = .ok (.getfield 10, 3) := by decide +kernel
theorem dX7_inside_23 : decode cX7_inside 23 = .ok (.invokevirtual 153, 3) := by decide +kernel
theorem dX7_inside_26 : decode cX7_inside 26 = .ok (.ireturn, 1) := by decide +kernel
theorem dX7_covers_0 : decode cX7_covers 0 = .ok (.iload_n 1, 1) := by decide +kernel
theorem dX7_covers_1 : decode cX7_covers 1 = .ok (.iload_n 2, 1) := by decide +kernel
theorem dX7_covers_2 : decode cX7_covers 2 = .ok (.invokestatic 64, 3) := by decide +kernel
theorem dX7_covers_5 : decode cX7_covers 5 = .ok (.ifCond .ne 10, 3) := by decide +kernel
theorem dX7_covers_8 : decode cX7_covers 8 = .ok (.aload_n 0, 1) := by decide +kernel
theorem dX7_covers_9 : decode cX7_covers 9 = .ok (.ldc 68, 2) := by decide +kernel
theorem dX7_covers_11 : decode cX7_covers 11 = .ok (.invokevirtual 69, 3) := by decide +kernel
theorem dX7_covers_14 : decode cX7_covers 14 = .ok (.ireturn, 1) := by decide +kernel
theorem dX7_covers_15 : decode cX7_covers 15 = .ok (.aload_n 0, 1) := by decide +kernel
theorem dX7_covers_16 : decode cX7_covers 16 = .ok (.getfield 40, 3) := by decide +kernel
theorem dX7_covers_19 : decode cX7_covers 19 = .ok (.iload_n 1, 1) := by decide +kernel
theorem dX7_covers_20 : decode cX7_covers 20 = .ok (.iload_n 2, 1) := by decide +kernel
theorem dX7_covers_21 : decode cX7_covers 21 = .ok (.invokevirtual 242, 3) := by decide +kernel
theorem dX7_covers_24 : decode cX7_covers 24 = .ok (.ifCond .eq 7, 3) := by decide +kernel
theorem dX7_covers_27 : decode cX7_covers 27 = .ok (.iconst 1, 1) := by decide +kernel
theorem dX7_covers_28 : decode cX7_covers 28 = .ok (.goto 4, 3) := by decide +kernel
theorem dX7_covers_31 : decode cX7_covers 31 = .ok (.iconst 0, 1) := by decide +kernel
theorem dX7_covers_32 : decode cX7_covers 32 = .ok (.ireturn, 1) := by decide +kernel
theorem dX7_found_0 : decode cX7_found 0 = .ok (.iload_n 1, 1) := by decide +kernel
theorem dX7_found_1 : decode cX7_found 1 = .ok (.ifCond .ge 10, 3) := by decide +kernel
theorem dX7_found_4 : decode cX7_found 4 = .ok (.aload_n 0, 1) := by decide +kernel
theorem dX7_found_5 : decode cX7_found 5 = .ok (.ldc 68, 2) := by decide +kernel
theorem dX7_found_7 : decode cX7_found 7 = .ok (.invokevirtual 69, 3) := by decide +kernel
theorem dX7_found_10 : decode cX7_found 10 = .ok (.ireturn, 1) := by decide +kernel
theorem dX7_found_11 : decode cX7_found 11 = .ok (.aload_n 0, 1) := by decide +kernel
theorem dX7_found_12 : decode cX7_found 12 = .ok (.getfield 26, 3) := by decide +kernel
theorem dX7_found_15 : decode cX7_found 15 = .ok (.aload_n 0, 1) := by decide +kernel
theorem dX7_found_16 : decode cX7_found 16 = .ok (.getfield 10, 3) := by decide +kernel
theorem dX7_found_19 : decode cX7_found 19 = .ok (.aload_n 0, 1) := by decide +kernel
theorem dX7_found_20 : decode cX7_found 20 = .ok (.getfield 40, 3) := by decide +kernel
theorem dX7_found_23 : decode cX7_found 23 = .ok (.invokevirtual 238, 3) := by decide +kernel
theorem dX7_found_26 : decode cX7_found 26 = .ok (.aload_n 0, 1) := by decide +kernel
theorem dX7_found_27 : decode cX7_found 27 = .ok (.getfield 26, 3) := by decide +kernel
theorem dX7_found_30 : decode cX7_found 30 = .ok (.aload_n 0, 1) := by decide +kernel
theorem dX7_found_31 : decode cX7_found 31 = .ok (.getfield 10, 3) := by decide +kernel
theorem dX7_found_34 : decode cX7_found 34 = .ok (.invokevirtual 160, 3) := by decide +kernel
theorem dX7_found_37 : decode cX7_found 37 = .ok (.aload_n 0, 1) := by decide +kernel
theorem dX7_found_38 : decode cX7_found 38 = .ok (.getfield 26, 3) := by decide +kernel
theorem dX7_found_41 : decode cX7_found 41 = .ok (.aload_n 0, 1) := by decide +kernel
theorem dX7_found_42 : decode cX7_found 42 = .ok (.getfield 10, 3) := by decide +kernel
theorem dX7_found_45 : decode cX7_found 45 = .ok (.iload_n 1, 1) := by decide +kernel
theorem dX7_found_46 : decode cX7_found 46 = .ok (.invokevirtual 143, 3) := by decide +kernel
theorem dX7_found_49 : decode cX7_found 49 = .ok (.ireturn, 1) := by decide +kernel
theorem dX7_mow_0 : decode cX7_mow 0 = .ok (.aload_n 0, 1) := by decide +kernel
theorem dX7_mow_1 : decode cX7_mow 1 = .ok (.getfield 26, 3) := by decide +kernel
theorem dX7_mow_4 : decode cX7_mow 4 = .ok (.aload_n 0, 1) := by decide +kernel
theorem dX7_mow_5 : decode cX7_mow 5 = .ok (.getfield 10, 3) := by decide +kernel
theorem dX7_mow_8 : decode cX7_mow 8 = .ok (.aload_n 0, 1) := by decide +kernel
theorem dX7_mow_9 : decode cX7_mow 9 = .ok (.getfield 40, 3) := by decide +kernel
theorem dX7_mow_12 : decode cX7_mow 12 = .ok (.invokevirtual 238, 3) := by decide +kernel
theorem dX7_mow_15 : decode cX7_mow 15 = .ok (.aload_n 0, 1) := by decide +kernel
theorem dX7_mow_16 : decode cX7_mow 16 = .ok (.invokevirtual 113, 3) := by decide +kernel
theorem dX7_mow_19 : decode cX7_mow 19 = .ok (.ireturn, 1) := by decide +kernel
theorem dX7_odds_0 : decode cX7_odds 0 = .ok (.iload_n 1, 1) := by decide +kernel
theorem dX7_odds_1 : decode cX7_odds 1 = .ok (.iload_n 2, 1) := by decide +kernel
theorem dX7_odds_2 : decode cX7_odds 2 = .ok (.iload_n 3, 1) := by decide +kernel
theorem dX7_odds_3 : decode cX7_odds 3 = .ok (.iload 4, 2) := by decide +kernel
theorem dX7_odds_5 : decode cX7_odds 5 = .ok (.invokestatic 105, 3) := by decide +kernel
theorem dX7_odds_8 : decode cX7_odds 8 = .ok (.ifCond .eq 27, 3) := by decide +kernel
theorem dX7_odds_11 : decode cX7_odds 11 = .ok (.iload 5, 2) := by decide +kernel
theorem dX7_odds_13 : decode cX7_odds 13 = .ok (.ifCond .lt 22, 3) := by decide +kernel
theorem dX7_odds_16 : decode cX7_odds 16 = .ok (.iload 5, 2) := by decide +kernel
theorem dX7_odds_18 : decode cX7_odds 18 = .ok (.bipush 15, 2) := by decide +kernel
theorem dX7_odds_20 : decode cX7_odds 20 = .ok (.if_icmp .gt 15, 3) := by decide +kernel
theorem dX7_odds_23 : decode cX7_odds 23 = .ok (.iload 6, 2) := by decide +kernel
theorem dX7_odds_25 : decode cX7_odds 25 = .ok (.ifCond .lt 10, 3) := by decide +kernel
theorem dX7_odds_28 : decode cX7_odds 28 = .ok (.iload 6, 2) := by decide +kernel
theorem dX7_odds_30 : decode cX7_odds 30 = .ok (.bipush 10, 2) := by decide +kernel
theorem dX7_odds_32 : decode cX7_odds 32 = .ok (.if_icmp .le 10, 3) := by decide +kernel
theorem dX7_odds_35 : decode cX7_odds 35 = .ok (.aload_n 0, 1) := by decide +kernel
theorem dX7_odds_36 : decode cX7_odds 36 = .ok (.ldc 68, 2) := by decide +kernel
theorem dX7_odds_38 : decode cX7_odds 38 = .ok (.invokevirtual 69, 3) := by decide +kernel
theorem dX7_odds_41 : decode cX7_odds 41 = .ok (.ireturn, 1) := by decide +kernel
theorem dX7_odds_42 : decode cX7_odds 42 = .ok (.aload_n 0, 1) := by decide +kernel
theorem dX7_odds_43 : decode cX7_odds 43 = .ok (.iload_n 1, 1) := by decide +kernel
theorem dX7_odds_44 : decode cX7_odds 44 = .ok (.iload_n 2, 1) := by decide +kernel
theorem dX7_odds_45 : decode cX7_odds 45 = .ok (.iload_n 3, 1) := by decide +kernel
theorem dX7_odds_46 : decode cX7_odds 46 = .ok (.iload 4, 2) := by decide +kernel
theorem dX7_odds_48 : decode cX7_odds 48 = .ok (.invokevirtual 109, 3) := by decide +kernel
theorem dX7_odds_51 : decode cX7_odds 51 = .ok (.aload_n 0, 1) := by decide +kernel
theorem dX7_odds_52 : decode cX7_odds 52 = .ok (.getfield 26, 3) := by decide +kernel
theorem dX7_odds_55 : decode cX7_odds 55 = .ok (.getfield 157, 3) := by decide +kernel
theorem dX7_odds_58 : decode cX7_odds 58 = .ok (.bipush 15, 2) := by decide +kernel
theorem dX7_odds_60 : decode cX7_odds 60 = .ok (.if_icmp .le 10, 3) := by decide +kernel
theorem dX7_odds_63 : decode cX7_odds 63 = .ok (.aload_n 0, 1) := by decide +kernel
theorem dX7_odds_64 : decode cX7_odds 64 = .ok (.ldc 123, 2) := by decide +kernel
theorem dX7_odds_66 : decode cX7_odds 66 = .ok (.invokevirtual 69, 3) := by decide +kernel
theorem dX7_odds_69 : decode cX7_odds 69 = .ok (.ireturn, 1) := by decide +kernel
theorem dX7_odds_70 : decode cX7_odds 70 = .ok (.aload_n 0, 1) := by decide +kernel
theorem dX7_odds_71 : decode cX7_odds 71 = .ok (.getfield 53, 3) := by decide +kernel
theorem dX7_odds_74 : decode cX7_odds 74 = .ok (.aload_n 0, 1) := by decide +kernel
theorem dX7_odds_75 : decode cX7_odds 75 = .ok (.getfield 26, 3) := by decide +kernel
theorem dX7_odds_78 : decode cX7_odds 78 = .ok (.getfield 157, 3) := by decide +kernel
theorem dX7_odds_81 : decode cX7_odds 81 = .ok (.iload 5, 2) := by decide +kernel
theorem dX7_odds_83 : decode cX7_odds 83 = .ok (.iload 6, 2) := by decide +kernel
theorem dX7_odds_85 : decode cX7_odds 85 = .ok (.invokevirtual 245, 3) := by decide +kernel
theorem dX7_odds_88 : decode cX7_odds 88 = .ok (.iconst 1, 1) := by decide +kernel
theorem dX7_odds_89 : decode cX7_odds 89 = .ok (.ireturn, 1) := by decide +kernel
theorem dX7_part_0 : decode cX7_part 0 = .ok (.iload_n 1, 1) := by decide +kernel
theorem dX7_part_1 : decode cX7_part 1 = .ok (.lookupswitch 43 #[(0, 27), (1, 35)], 27) := by decide +kernel
theorem dX7_part_28 : decode cX7_part 28 = .ok (.aload_n 0, 1) := by decide +kernel
theorem dX7_part_29 : decode cX7_part 29 = .ok (.getfield 53, 3) := by decide +kernel
theorem dX7_part_32 : decode cX7_part 32 = .ok (.getfield 249, 3) := by decide +kernel
theorem dX7_part_35 : decode cX7_part 35 = .ok (.lreturn, 1) := by decide +kernel
theorem dX7_part_36 : decode cX7_part 36 = .ok (.aload_n 0, 1) := by decide +kernel
theorem dX7_part_37 : decode cX7_part 37 = .ok (.getfield 53, 3) := by decide +kernel
theorem dX7_part_40 : decode cX7_part 40 = .ok (.getfield 253, 3) := by decide +kernel
theorem dX7_part_43 : decode cX7_part 43 = .ok (.lreturn, 1) := by decide +kernel
theorem dX7_part_44 : decode cX7_part 44 = .ok (.aload_n 0, 1) := by decide +kernel
theorem dX7_part_45 : decode cX7_part 45 = .ok (.ldc 68, 2) := by decide +kernel
theorem dX7_part_47 : decode cX7_part 47 = .ok (.invokevirtual 69, 3) := by decide +kernel
theorem dX7_part_50 : decode cX7_part 50 = .ok (.i2l, 1) := by decide +kernel
theorem dX7_part_51 : decode cX7_part 51 = .ok (.lreturn, 1) := by decide +kernel
theorem dX7_image_0 : decode cX7_image 0 = .ok (.iload_n 1, 1) := by decide +kernel
theorem dX7_image_1 : decode cX7_image 1 = .ok (.ifCond .lt 8, 3) := by decide +kernel
theorem dX7_image_4 : decode cX7_image 4 = .ok (.iload_n 1, 1) := by decide +kernel
theorem dX7_image_5 : decode cX7_image 5 = .ok (.iconst 2, 1) := by decide +kernel
theorem dX7_image_6 : decode cX7_image 6 = .ok (.if_icmp .lt 10, 3) := by decide +kernel
theorem dX7_image_9 : decode cX7_image 9 = .ok (.aload_n 0, 1) := by decide +kernel
theorem dX7_image_10 : decode cX7_image 10 = .ok (.ldc 68, 2) := by decide +kernel
theorem dX7_image_12 : decode cX7_image 12 = .ok (.invokevirtual 69, 3) := by decide +kernel
theorem dX7_image_15 : decode cX7_image 15 = .ok (.ireturn, 1) := by decide +kernel
theorem dX7_image_16 : decode cX7_image 16 = .ok (.aload_n 0, 1) := by decide +kernel
theorem dX7_image_17 : decode cX7_image 17 = .ok (.getfield 59, 3) := by decide +kernel
theorem dX7_image_20 : decode cX7_image 20 = .ok (.iload_n 1, 1) := by decide +kernel
theorem dX7_image_21 : decode cX7_image 21 = .ok (.aaload, 1) := by decide +kernel
theorem dX7_image_22 : decode cX7_image 22 = .ok (.aload_n 0, 1) := by decide +kernel
theorem dX7_image_23 : decode cX7_image 23 = .ok (.getfield 10, 3) := by decide +kernel
theorem dX7_image_26 : decode cX7_image 26 = .ok (.aload_n 0, 1) := by decide +kernel
theorem dX7_image_27 : decode cX7_image 27 = .ok (.getfield 40, 3) := by decide +kernel
theorem dX7_image_30 : decode cX7_image 30 = .ok (.invokevirtual 256, 3) := by decide +kernel
theorem dX7_image_33 : decode cX7_image 33 = .ok (.iconst 1, 1) := by decide +kernel
theorem dX7_image_34 : decode cX7_image 34 = .ok (.ireturn, 1) := by decide +kernel
theorem dX7_from_0 : decode cX7_from 0 = .ok (.iload_n 1, 1) := by decide +kernel
theorem dX7_from_1 : decode cX7_from 1 = .ok (.ifCond .lt 8, 3) := by decide +kernel
theorem dX7_from_4 : decode cX7_from 4 = .ok (.iload_n 1, 1) := by decide +kernel
theorem dX7_from_5 : decode cX7_from 5 = .ok (.iconst 2, 1) := by decide +kernel
theorem dX7_from_6 : decode cX7_from 6 = .ok (.if_icmp .lt 10, 3) := by decide +kernel
theorem dX7_from_9 : decode cX7_from 9 = .ok (.aload_n 0, 1) := by decide +kernel
theorem dX7_from_10 : decode cX7_from 10 = .ok (.ldc 68, 2) := by decide +kernel
theorem dX7_from_12 : decode cX7_from 12 = .ok (.invokevirtual 69, 3) := by decide +kernel
theorem dX7_from_15 : decode cX7_from 15 = .ok (.ireturn, 1) := by decide +kernel
theorem dX7_from_16 : decode cX7_from 16 = .ok (.aload_n 0, 1) := by decide +kernel
theorem dX7_from_17 : decode cX7_from 17 = .ok (.getfield 59, 3) := by decide +kernel
theorem dX7_from_20 : decode cX7_from 20 = .ok (.iload_n 1, 1) := by decide +kernel
theorem dX7_from_21 : decode cX7_from 21 = .ok (.aaload, 1) := by decide +kernel
theorem dX7_from_22 : decode cX7_from 22 = .ok (.getfield 258, 3) := by decide +kernel
theorem dX7_from_25 : decode cX7_from 25 = .ok (.ifCond .ne 10, 3) := by decide +kernel
theorem dX7_from_28 : decode cX7_from 28 = .ok (.aload_n 0, 1) := by decide +kernel
theorem dX7_from_29 : decode cX7_from 29 = .ok (.ldc 123, 2) := by decide +kernel
theorem dX7_from_31 : decode cX7_from 31 = .ok (.invokevirtual 69, 3) := by decide +kernel
theorem dX7_from_34 : decode cX7_from 34 = .ok (.ireturn, 1) := by decide +kernel
theorem dX7_from_35 : decode cX7_from 35 = .ok (.aload_n 0, 1) := by decide +kernel
theorem dX7_from_36 : decode cX7_from 36 = .ok (.getfield 59, 3) := by decide +kernel
theorem dX7_from_39 : decode cX7_from 39 = .ok (.iload_n 1, 1) := by decide +kernel
theorem dX7_from_40 : decode cX7_from 40 = .ok (.aaload, 1) := by decide +kernel
theorem dX7_from_41 : decode cX7_from 41 = .ok (.aload_n 0, 1) := by decide +kernel
theorem dX7_from_42 : decode cX7_from 42 = .ok (.getfield 10, 3) := by decide +kernel
theorem dX7_from_45 : decode cX7_from 45 = .ok (.aload_n 0, 1) := by decide +kernel
theorem dX7_from_46 : decode cX7_from 46 = .ok (.getfield 40, 3) := by decide +kernel
theorem dX7_from_49 : decode cX7_from 49 = .ok (.invokevirtual 262, 3) := by decide +kernel
theorem dX7_from_52 : decode cX7_from 52 = .ok (.aload_n 0, 1) := by decide +kernel
theorem dX7_from_53 : decode cX7_from 53 = .ok (.getfield 19, 3) := by decide +kernel
theorem dX7_from_56 : decode cX7_from 56 = .ok (.invokevirtual 264, 3) := by decide +kernel
theorem dX7_from_59 : decode cX7_from 59 = .ok (.iconst 1, 1) := by decide +kernel
theorem dX7_from_60 : decode cX7_from 60 = .ok (.ireturn, 1) := by decide +kernel
theorem dX7_status_0 : decode cX7_status 0 = .ok (.iload_n 1, 1) := by decide +kernel
theorem dX7_status_1 : decode cX7_status 1 = .ok (.tableswitch 42 0 2 #[27, 32, 37], 27) := by decide +kernel
theorem dX7_status_28 : decode cX7_status 28 = .ok (.aload_n 0, 1) := by decide +kernel
theorem dX7_status_29 : decode cX7_status 29 = .ok (.getfield 267, 3) := by decide +kernel
theorem dX7_status_32 : decode cX7_status 32 = .ok (.ireturn, 1) := by decide +kernel
theorem dX7_status_33 : decode cX7_status 33 = .ok (.aload_n 0, 1) := by decide +kernel
theorem dX7_status_34 : decode cX7_status 34 = .ok (.getfield 270, 3) := by decide +kernel
theorem dX7_status_37 : decode cX7_status 37 = .ok (.ireturn, 1) := by decide +kernel
theorem dX7_status_38 : decode cX7_status 38 = .ok (.aload_n 0, 1) := by decide +kernel
theorem dX7_status_39 : decode cX7_status 39 = .ok (.getfield 273, 3) := by decide +kernel
theorem dX7_status_42 : decode cX7_status 42 = .ok (.ireturn, 1) := by decide +kernel
theorem dX7_status_43 : decode cX7_status 43 = .ok (.aload_n 0, 1) := by decide +kernel
theorem dX7_status_44 : decode cX7_status 44 = .ok (.ldc 68, 2) := by decide +kernel
theorem dX7_status_46 : decode cX7_status 46 = .ok (.invokevirtual 69, 3) := by decide +kernel
theorem dX7_status_49 : decode cX7_status 49 = .ok (.pop, 1) := by decide +kernel
theorem dX7_status_50 : decode cX7_status 50 = .ok (.iconst (-1), 1) := by decide +kernel
theorem dX7_status_51 : decode cX7_status 51 = .ok (.ireturn, 1) := by decide +kernel
theorem dX7_size_0 : decode cX7_size 0 = .ok (.iload_n 1, 1) := by decide +kernel
theorem dX7_size_1 : decode cX7_size 1 = .ok (.tableswitch 111 0 7 #[47, 55, 63, 71, 79, 87, 95, 103], 47) := by decide +kernel
theorem dX7_size_48 : decode cX7_size 48 = .ok (.aload_n 0, 1) := by decide +kernel
theorem dX7_size_49 : decode cX7_size 49 = .ok (.getfield 10, 3) := by decide +kernel
theorem dX7_size_52 : decode cX7_size 52 = .ok (.invokevirtual 73, 3) := by decide +kernel
theorem dX7_size_55 : decode cX7_size 55 = .ok (.ireturn, 1) := by decide +kernel
theorem dX7_size_56 : decode cX7_size 56 = .ok (.aload_n 0, 1) := by decide +kernel
theorem dX7_size_57 : decode cX7_size 57 = .ok (.getfield 10, 3) := by decide +kernel
theorem dX7_size_60 : decode cX7_size 60 = .ok (.getfield 197, 3) := by decide +kernel
theorem dX7_size_63 : decode cX7_size 63 = .ok (.ireturn, 1) := by decide +kernel
theorem dX7_size_64 : decode cX7_size 64 = .ok (.aload_n 0, 1) := by decide +kernel
theorem dX7_size_65 : decode cX7_size 65 = .ok (.getfield 10, 3) := by decide +kernel
theorem dX7_size_68 : decode cX7_size 68 = .ok (.getfield 276, 3) := by decide +kernel
theorem dX7_size_71 : decode cX7_size 71 = .ok (.ireturn, 1) := by decide +kernel
theorem dX7_size_72 : decode cX7_size 72 = .ok (.aload_n 0, 1) := by decide +kernel
theorem dX7_size_73 : decode cX7_size 73 = .ok (.getfield 10, 3) := by decide +kernel
theorem dX7_size_76 : decode cX7_size 76 = .ok (.getfield 116, 3) := by decide +kernel
theorem dX7_size_79 : decode cX7_size 79 = .ok (.ireturn, 1) := by decide +kernel
theorem dX7_size_80 : decode cX7_size 80 = .ok (.aload_n 0, 1) := by decide +kernel
theorem dX7_size_81 : decode cX7_size 81 = .ok (.getfield 10, 3) := by decide +kernel
theorem dX7_size_84 : decode cX7_size 84 = .ok (.invokevirtual 279, 3) := by decide +kernel
theorem dX7_size_87 : decode cX7_size 87 = .ok (.ireturn, 1) := by decide +kernel
theorem dX7_size_88 : decode cX7_size 88 = .ok (.aload_n 0, 1) := by decide +kernel
theorem dX7_size_89 : decode cX7_size 89 = .ok (.getfield 19, 3) := by decide +kernel
theorem dX7_size_92 : decode cX7_size 92 = .ok (.getfield 120, 3) := by decide +kernel
theorem dX7_size_95 : decode cX7_size 95 = .ok (.ireturn, 1) := by decide +kernel
theorem dX7_size_96 : decode cX7_size 96 = .ok (.aload_n 0, 1) := by decide +kernel
theorem dX7_size_97 : decode cX7_size 97 = .ok (.getfield 46, 3) := by decide +kernel
theorem dX7_size_100 : decode cX7_size 100 = .ok (.getfield 218, 3) := by decide +kernel
theorem dX7_size_103 : decode cX7_size 103 = .ok (.ireturn, 1) := by decide +kernel
theorem dX7_size_104 : decode cX7_size 104 = .ok (.aload_n 0, 1) := by decide +kernel
theorem dX7_size_105 : decode cX7_size 105 = .ok (.getfield 40, 3) := by decide +kernel
theorem dX7_size_108 : decode cX7_size 108 = .ok (.getfield 235, 3) := by decide +kernel
theorem dX7_size_111 : decode cX7_size 111 = .ok (.ireturn, 1) := by decide +kernel
theorem dX7_size_112 : decode cX7_size 112 = .ok (.aload_n 0, 1) := by decide +kernel
theorem dX7_size_113 : decode cX7_size 113 = .ok (.ldc 68, 2) := by decide +kernel
theorem dX7_size_115 : decode cX7_size 115 = .ok (.invokevirtual 69, 3) := by decide +kernel
theorem dX7_size_118 : decode cX7_size 118 = .ok (.ireturn, 1) := by decide +kernel
theorem dX7_digest_0 : decode cX7_digest 0 = .ok (.ldc2_w 282, 3) := by decide +kernel
theorem dX7_digest_3 : decode cX7_digest 3 = .ok (.lstore_n 1, 1) := by decide +kernel
theorem dX7_digest_4 : decode cX7_digest 4 = .ok (.iconst 0, 1) := by decide +kernel
theorem dX7_digest_5 : decode cX7_digest 5 = .ok (.istore_n 3, 1) := by decide +kernel
theorem dX7_digest_6 : decode cX7_digest 6 = .ok (.iload_n 3, 1) := by decide +kernel
theorem dX7_digest_7 : decode cX7_digest 7 = .ok (.bipush 7, 2) := by decide +kernel
theorem dX7_digest_9 : decode cX7_digest 9 = .ok (.if_icmp .gt 22, 3) := by decide +kernel
theorem dX7_digest_12 : decode cX7_digest 12 = .ok (.ldc2_w 284, 3) := by decide +kernel
theorem dX7_digest_15 : decode cX7_digest 15 = .ok (.lload_n 1, 1) := by decide +kernel
theorem dX7_digest_16 : decode cX7_digest 16 = .ok (.lmul, 1) := by decide +kernel
theorem dX7_digest_17 : decode cX7_digest 17 = .ok (.aload_n 0, 1) := by decide +kernel
theorem dX7_digest_18 : decode cX7_digest 18 = .ok (.iload_n 3, 1) := by decide +kernel
theorem dX7_digest_19 : decode cX7_digest 19 = .ok (.invokevirtual 286, 3) := by decide +kernel
theorem dX7_digest_22 : decode cX7_digest 22 = .ok (.i2l, 1) := by decide +kernel
theorem dX7_digest_23 : decode cX7_digest 23 = .ok (.ladd, 1) := by decide +kernel
theorem dX7_digest_24 : decode cX7_digest 24 = .ok (.lstore_n 1, 1) := by decide +kernel
theorem dX7_digest_25 : decode cX7_digest 25 = .ok (.iinc 3 1, 3) := by decide +kernel
theorem dX7_digest_28 : decode cX7_digest 28 = .ok (.goto (-22), 3) := by decide +kernel
theorem dX7_digest_31 : decode cX7_digest 31 = .ok (.iconst 0, 1) := by decide +kernel
theorem dX7_digest_32 : decode cX7_digest 32 = .ok (.istore_n 3, 1) := by decide +kernel
theorem dX7_digest_33 : decode cX7_digest 33 = .ok (.iload_n 3, 1) := by decide +kernel
theorem dX7_digest_34 : decode cX7_digest 34 = .ok (.iconst 4, 1) := by decide +kernel
theorem dX7_digest_35 : decode cX7_digest 35 = .ok (.if_icmp .gt 22, 3) := by decide +kernel
theorem dX7_digest_38 : decode cX7_digest 38 = .ok (.ldc2_w 284, 3) := by decide +kernel
theorem dX7_digest_41 : decode cX7_digest 41 = .ok (.lload_n 1, 1) := by decide +kernel
theorem dX7_digest_42 : decode cX7_digest 42 = .ok (.lmul, 1) := by decide +kernel
theorem dX7_digest_43 : decode cX7_digest 43 = .ok (.aload_n 0, 1) := by decide +kernel
theorem dX7_digest_44 : decode cX7_digest 44 = .ok (.iload_n 3, 1) := by decide +kernel
theorem dX7_digest_45 : decode cX7_digest 45 = .ok (.invokevirtual 289, 3) := by decide +kernel
theorem dX7_digest_48 : decode cX7_digest 48 = .ok (.i2l, 1) := by decide +kernel
theorem dX7_digest_49 : decode cX7_digest 49 = .ok (.ladd, 1) := by decide +kernel
theorem dX7_digest_50 : decode cX7_digest 50 = .ok (.lstore_n 1, 1) := by decide +kernel
theorem dX7_digest_51 : decode cX7_digest 51 = .ok (.iinc 3 1, 3) := by decide +kernel
theorem dX7_digest_54 : decode cX7_digest 54 = .ok (.goto (-21), 3) := by decide +kernel
theorem dX7_digest_57 : decode cX7_digest 57 = .ok (.iconst 0, 1) := by decide +kernel
theorem dX7_digest_58 : decode cX7_digest 58 = .ok (.istore_n 3, 1) := by decide +kernel
theorem dX7_digest_59 : decode cX7_digest 59 = .ok (.iload_n 3, 1) := by decide +kernel
theorem dX7_digest_60 : decode cX7_digest 60 = .ok (.aload_n 0, 1) := by decide +kernel
theorem dX7_digest_61 : decode cX7_digest 61 = .ok (.getfield 10, 3) := by decide +kernel
theorem dX7_digest_64 : decode cX7_digest 64 = .ok (.getfield 194, 3) := by decide +kernel
theorem dX7_digest_67 : decode cX7_digest 67 = .ok (.if_icmp .ge 104, 3) := by decide +kernel
theorem dX7_digest_70 : decode cX7_digest 70 = .ok (.aload_n 0, 1) := by decide +kernel
theorem dX7_digest_71 : decode cX7_digest 71 = .ok (.getfield 10, 3) := by decide +kernel
theorem dX7_digest_74 : decode cX7_digest 74 = .ok (.iload_n 3, 1) := by decide +kernel
theorem dX7_digest_75 : decode cX7_digest 75 = .ok (.invokevirtual 292, 3) := by decide +kernel
theorem dX7_digest_78 : decode cX7_digest 78 = .ok (.ifCond .eq 87, 3) := by decide +kernel
theorem dX7_digest_81 : decode cX7_digest 81 = .ok (.ldc2_w 284, 3) := by decide +kernel
theorem dX7_digest_84 : decode cX7_digest 84 = .ok (.lload_n 1, 1) := by decide +kernel
theorem dX7_digest_85 : decode cX7_digest 85 = .ok (.lmul, 1) := by decide +kernel
theorem dX7_digest_86 : decode cX7_digest 86 = .ok (.aload_n 0, 1) := by decide +kernel
theorem dX7_digest_87 : decode cX7_digest 87 = .ok (.getfield 10, 3) := by decide +kernel
theorem dX7_digest_90 : decode cX7_digest 90 = .ok (.getfield 174, 3) := by decide +kernel
theorem dX7_digest_93 : decode cX7_digest 93 = .ok (.iload_n 3, 1) := by decide +kernel
theorem dX7_digest_94 : decode cX7_digest 94 = .ok (.iaload, 1) := by decide +kernel
theorem dX7_digest_95 : decode cX7_digest 95 = .ok (.i2l, 1) := by decide +kernel
theorem dX7_digest_96 : decode cX7_digest 96 = .ok (.ladd, 1) := by decide +kernel
theorem dX7_digest_97 : decode cX7_digest 97 = .ok (.lstore_n 1, 1) := by decide +kernel
theorem dX7_digest_98 : decode cX7_digest 98 = .ok (.ldc2_w 284, 3) := by decide +kernel
theorem dX7_digest_101 : decode cX7_digest 101 = .ok (.lload_n 1, 1) := by decide +kernel
theorem dX7_digest_102 : decode cX7_digest 102 = .ok (.lmul, 1) := by decide +kernel
theorem dX7_digest_103 : decode cX7_digest 103 = .ok (.aload_n 0, 1) := by decide +kernel
theorem dX7_digest_104 : decode cX7_digest 104 = .ok (.getfield 10, 3) := by decide +kernel
theorem dX7_digest_107 : decode cX7_digest 107 = .ok (.getfield 127, 3) := by decide +kernel
theorem dX7_digest_110 : decode cX7_digest 110 = .ok (.iload_n 3, 1) := by decide +kernel
theorem dX7_digest_111 : decode cX7_digest 111 = .ok (.iaload, 1) := by decide +kernel
theorem dX7_digest_112 : decode cX7_digest 112 = .ok (.i2l, 1) := by decide +kernel
theorem dX7_digest_113 : decode cX7_digest 113 = .ok (.ladd, 1) := by decide +kernel
theorem dX7_digest_114 : decode cX7_digest 114 = .ok (.lstore_n 1, 1) := by decide +kernel
theorem dX7_digest_115 : decode cX7_digest 115 = .ok (.ldc2_w 284, 3) := by decide +kernel
theorem dX7_digest_118 : decode cX7_digest 118 = .ok (.lload_n 1, 1) := by decide +kernel
theorem dX7_digest_119 : decode cX7_digest 119 = .ok (.lmul, 1) := by decide +kernel
theorem dX7_digest_120 : decode cX7_digest 120 = .ok (.aload_n 0, 1) := by decide +kernel
theorem dX7_digest_121 : decode cX7_digest 121 = .ok (.getfield 10, 3) := by decide +kernel
theorem dX7_digest_124 : decode cX7_digest 124 = .ok (.getfield 131, 3) := by decide +kernel
theorem dX7_digest_127 : decode cX7_digest 127 = .ok (.iload_n 3, 1) := by decide +kernel
theorem dX7_digest_128 : decode cX7_digest 128 = .ok (.iaload, 1) := by decide +kernel
theorem dX7_digest_129 : decode cX7_digest 129 = .ok (.i2l, 1) := by decide +kernel
theorem dX7_digest_130 : decode cX7_digest 130 = .ok (.ladd, 1) := by decide +kernel
theorem dX7_digest_131 : decode cX7_digest 131 = .ok (.lstore_n 1, 1) := by decide +kernel
theorem dX7_digest_132 : decode cX7_digest 132 = .ok (.ldc2_w 284, 3) := by decide +kernel
theorem dX7_digest_135 : decode cX7_digest 135 = .ok (.lload_n 1, 1) := by decide +kernel
theorem dX7_digest_136 : decode cX7_digest 136 = .ok (.lmul, 1) := by decide +kernel
theorem dX7_digest_137 : decode cX7_digest 137 = .ok (.aload_n 0, 1) := by decide +kernel
theorem dX7_digest_138 : decode cX7_digest 138 = .ok (.getfield 10, 3) := by decide +kernel
theorem dX7_digest_141 : decode cX7_digest 141 = .ok (.getfield 134, 3) := by decide +kernel
theorem dX7_digest_144 : decode cX7_digest 144 = .ok (.iload_n 3, 1) := by decide +kernel
theorem dX7_digest_145 : decode cX7_digest 145 = .ok (.iaload, 1) := by decide +kernel
theorem dX7_digest_146 : decode cX7_digest 146 = .ok (.i2l, 1) := by decide +kernel
theorem dX7_digest_147 : decode cX7_digest 147 = .ok (.ladd, 1) := by decide +kernel
theorem dX7_digest_148 : decode cX7_digest 148 = .ok (.lstore_n 1, 1) := by decide +kernel
theorem dX7_digest_149 : decode cX7_digest 149 = .ok (.ldc2_w 284, 3) := by decide +kernel
theorem dX7_digest_152 : decode cX7_digest 152 = .ok (.lload_n 1, 1) := by decide +kernel
theorem dX7_digest_153 : decode cX7_digest 153 = .ok (.lmul, 1) := by decide +kernel
theorem dX7_digest_154 : decode cX7_digest 154 = .ok (.aload_n 0, 1) := by decide +kernel
theorem dX7_digest_155 : decode cX7_digest 155 = .ok (.getfield 10, 3) := by decide +kernel
theorem dX7_digest_158 : decode cX7_digest 158 = .ok (.iload_n 3, 1) := by decide +kernel
theorem dX7_digest_159 : decode cX7_digest 159 = .ok (.invokevirtual 137, 3) := by decide +kernel
theorem dX7_digest_162 : decode cX7_digest 162 = .ok (.i2l, 1) := by decide +kernel
theorem dX7_digest_163 : decode cX7_digest 163 = .ok (.ladd, 1) := by decide +kernel
theorem dX7_digest_164 : decode cX7_digest 164 = .ok (.lstore_n 1, 1) := by decide +kernel
theorem dX7_digest_165 : decode cX7_digest 165 = .ok (.iinc 3 1, 3) := by decide +kernel
theorem dX7_digest_168 : decode cX7_digest 168 = .ok (.goto (-109), 3) := by decide +kernel
theorem dX7_digest_171 : decode cX7_digest 171 = .ok (.ldc2_w 284, 3) := by decide +kernel
theorem dX7_digest_174 : decode cX7_digest 174 = .ok (.lload_n 1, 1) := by decide +kernel
theorem dX7_digest_175 : decode cX7_digest 175 = .ok (.lmul, 1) := by decide +kernel
theorem dX7_digest_176 : decode cX7_digest 176 = .ok (.aload_n 0, 1) := by decide +kernel
theorem dX7_digest_177 : decode cX7_digest 177 = .ok (.getfield 53, 3) := by decide +kernel
theorem dX7_digest_180 : decode cX7_digest 180 = .ok (.getfield 249, 3) := by decide +kernel
theorem dX7_digest_183 : decode cX7_digest 183 = .ok (.ladd, 1) := by decide +kernel
theorem dX7_digest_184 : decode cX7_digest 184 = .ok (.lstore_n 1, 1) := by decide +kernel
theorem dX7_digest_185 : decode cX7_digest 185 = .ok (.ldc2_w 284, 3) := by decide +kernel
theorem dX7_digest_188 : decode cX7_digest 188 = .ok (.lload_n 1, 1) := by decide +kernel
theorem dX7_digest_189 : decode cX7_digest 189 = .ok (.lmul, 1) := by decide +kernel
theorem dX7_digest_190 : decode cX7_digest 190 = .ok (.aload_n 0, 1) := by decide +kernel
theorem dX7_digest_191 : decode cX7_digest 191 = .ok (.getfield 53, 3) := by decide +kernel
theorem dX7_digest_194 : decode cX7_digest 194 = .ok (.getfield 253, 3) := by decide +kernel
theorem dX7_digest_197 : decode cX7_digest 197 = .ok (.ladd, 1) := by decide +kernel
theorem dX7_digest_198 : decode cX7_digest 198 = .ok (.lreturn, 1) := by decide +kernel
theorem dX7_refuse_0 : decode cX7_refuse 0 = .ok (.iload_n 1, 1) := by decide +kernel
theorem dX7_refuse_1 : decode cX7_refuse 1 = .ok (.ldc 68, 2) := by decide +kernel
theorem dX7_refuse_3 : decode cX7_refuse 3 = .ok (.if_icmp .ne 16, 3) := by decide +kernel
theorem dX7_refuse_6 : decode cX7_refuse 6 = .ok (.aload_n 0, 1) := by decide +kernel
theorem dX7_refuse_7 : decode cX7_refuse 7 = .ok (.dup, 1) := by decide +kernel
theorem dX7_refuse_8 : decode cX7_refuse 8 = .ok (.getfield 267, 3) := by decide +kernel
theorem dX7_refuse_11 : decode cX7_refuse 11 = .ok (.iconst 1, 1) := by decide +kernel
theorem dX7_refuse_12 : decode cX7_refuse 12 = .ok (.iadd, 1) := by decide +kernel
theorem dX7_refuse_13 : decode cX7_refuse 13 = .ok (.putfield 267, 3) := by decide +kernel
theorem dX7_refuse_16 : decode cX7_refuse 16 = .ok (.goto 32, 3) := by decide +kernel
theorem dX7_refuse_19 : decode cX7_refuse 19 = .ok (.iload_n 1, 1) := by decide +kernel
theorem dX7_refuse_20 : decode cX7_refuse 20 = .ok (.ldc 123, 2) := by decide +kernel
theorem dX7_refuse_22 : decode cX7_refuse 22 = .ok (.if_icmp .ne 16, 3) := by decide +kernel
theorem dX7_refuse_25 : decode cX7_refuse 25 = .ok (.aload_n 0, 1) := by decide +kernel
theorem dX7_refuse_26 : decode cX7_refuse 26 = .ok (.dup, 1) := by decide +kernel
theorem dX7_refuse_27 : decode cX7_refuse 27 = .ok (.getfield 270, 3) := by decide +kernel
theorem dX7_refuse_30 : decode cX7_refuse 30 = .ok (.iconst 1, 1) := by decide +kernel
theorem dX7_refuse_31 : decode cX7_refuse 31 = .ok (.iadd, 1) := by decide +kernel
theorem dX7_refuse_32 : decode cX7_refuse 32 = .ok (.putfield 270, 3) := by decide +kernel
theorem dX7_refuse_35 : decode cX7_refuse 35 = .ok (.goto 13, 3) := by decide +kernel
theorem dX7_refuse_38 : decode cX7_refuse 38 = .ok (.aload_n 0, 1) := by decide +kernel
theorem dX7_refuse_39 : decode cX7_refuse 39 = .ok (.dup, 1) := by decide +kernel
theorem dX7_refuse_40 : decode cX7_refuse 40 = .ok (.getfield 273, 3) := by decide +kernel
theorem dX7_refuse_43 : decode cX7_refuse 43 = .ok (.iconst 1, 1) := by decide +kernel
theorem dX7_refuse_44 : decode cX7_refuse 44 = .ok (.iadd, 1) := by decide +kernel
theorem dX7_refuse_45 : decode cX7_refuse 45 = .ok (.putfield 273, 3) := by decide +kernel
theorem dX7_refuse_48 : decode cX7_refuse 48 = .ok (.iload_n 1, 1) := by decide +kernel
theorem dX7_refuse_49 : decode cX7_refuse 49 = .ok (.ireturn, 1) := by decide +kernel
theorem dX7_pickRectangle_0 : decode cX7_pickRectangle 0 = .ok (.aload_n 0, 1) := by decide +kernel
theorem dX7_pickRectangle_1 : decode cX7_pickRectangle 1 = .ok (.getfield 36, 3) := by decide +kernel
theorem dX7_pickRectangle_4 : decode cX7_pickRectangle 4 = .ok (.iload_n 1, 1) := by decide +kernel
theorem dX7_pickRectangle_5 : decode cX7_pickRectangle 5 = .ok (.iload_n 2, 1) := by decide +kernel
theorem dX7_pickRectangle_6 : decode cX7_pickRectangle 6 = .ok (.iload_n 3, 1) := by decide +kernel
theorem dX7_pickRectangle_7 : decode cX7_pickRectangle 7 = .ok (.iload 4, 2) := by decide +kernel
theorem dX7_pickRectangle_9 : decode cX7_pickRectangle 9 = .ok (.invokevirtual 211, 3) := by decide +kernel
theorem dX7_pickRectangle_12 : decode cX7_pickRectangle 12 = .ok (.aload_n 0, 1) := by decide +kernel
theorem dX7_pickRectangle_13 : decode cX7_pickRectangle 13 = .ok (.getfield 26, 3) := by decide +kernel
theorem dX7_pickRectangle_16 : decode cX7_pickRectangle 16 = .ok (.aload_n 0, 1) := by decide +kernel
theorem dX7_pickRectangle_17 : decode cX7_pickRectangle 17 = .ok (.getfield 10, 3) := by decide +kernel
theorem dX7_pickRectangle_20 : decode cX7_pickRectangle 20 = .ok (.aload_n 0, 1) := by decide +kernel
theorem dX7_pickRectangle_21 : decode cX7_pickRectangle 21 = .ok (.getfield 36, 3) := by decide +kernel
theorem dX7_pickRectangle_24 : decode cX7_pickRectangle 24 = .ok (.invokevirtual 238, 3) := by decide +kernel
theorem dX7_pickRectangle_27 : decode cX7_pickRectangle 27 = .ok (.return_, 1) := by decide +kernel
theorem dX7_takePicked_0 : decode cX7_takePicked 0 = .ok (.aload_n 0, 1) := by decide +kernel
theorem dX7_takePicked_1 : decode cX7_takePicked 1 = .ok (.getfield 26, 3) := by decide +kernel
theorem dX7_takePicked_4 : decode cX7_takePicked 4 = .ok (.getfield 157, 3) := by decide +kernel
theorem dX7_takePicked_7 : decode cX7_takePicked 7 = .ok (.istore_n 1, 1) := by decide +kernel
theorem dX7_takePicked_8 : decode cX7_takePicked 8 = .ok (.iload_n 1, 1) := by decide +kernel
theorem dX7_takePicked_9 : decode cX7_takePicked 9 = .ok (.ifCond .ne 5, 3) := by decide +kernel
theorem dX7_takePicked_12 : decode cX7_takePicked 12 = .ok (.iconst 0, 1) := by decide +kernel

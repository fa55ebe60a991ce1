theorem dX4_within_22 : decode cX4_within 22 = .ok (.iaload, 1) := by decide +kernel
theorem dX4_within_23 : decode cX4_within 23 = .ok (.iload_n 2, 1) := by decide +kernel
theorem dX4_within_24 : decode cX4_within 24 = .ok (.iload_n 3, 1) := by decide +kernel
theorem dX4_within_25 : decode cX4_within 25 = .ok (.invokevirtual 70, 3) := by decide +kernel
theorem dX4_within_28 : decode cX4_within 28 = .ok (.iload 4, 2) := by decide +kernel
theorem dX4_within_30 : decode cX4_within 30 = .ok (.if_icmp .gt 6, 3) := by decide +kernel
theorem dX4_within_33 : decode cX4_within 33 = .ok (.iinc 5 1, 3) := by decide +kernel
theorem dX4_within_36 : decode cX4_within 36 = .ok (.iinc 6 1, 3) := by decide +kernel
theorem dX4_within_39 : decode cX4_within 39 = .ok (.goto (-33), 3) := by decide +kernel
theorem dX4_within_42 : decode cX4_within 42 = .ok (.iload 5, 2) := by decide +kernel
theorem dX4_within_44 : decode cX4_within 44 = .ok (.ireturn, 1) := by decide +kernel
theorem dX4_inSquare_0 : decode cX4_inSquare 0 = .ok (.iconst 0, 1) := by decide +kernel
theorem dX4_inSquare_1 : decode cX4_inSquare 1 = .ok (.istore 5, 2) := by decide +kernel
theorem dX4_inSquare_3 : decode cX4_inSquare 3 = .ok (.iconst 0, 1) := by decide +kernel
theorem dX4_inSquare_4 : decode cX4_inSquare 4 = .ok (.istore 6, 2) := by decide +kernel
theorem dX4_inSquare_6 : decode cX4_inSquare 6 = .ok (.iload 6, 2) := by decide +kernel
theorem dX4_inSquare_8 : decode cX4_inSquare 8 = .ok (.aload_n 0, 1) := by decide +kernel
theorem dX4_inSquare_9 : decode cX4_inSquare 9 = .ok (.getfield 15, 3) := by decide +kernel
theorem dX4_inSquare_12 : decode cX4_inSquare 12 = .ok (.if_icmp .ge 70, 3) := by decide +kernel
theorem dX4_inSquare_15 : decode cX4_inSquare 15 = .ok (.aload_n 1, 1) := by decide +kernel
theorem dX4_inSquare_16 : decode cX4_inSquare 16 = .ok (.getfield 32, 3) := by decide +kernel
theorem dX4_inSquare_19 : decode cX4_inSquare 19 = .ok (.aload_n 0, 1) := by decide +kernel
theorem dX4_inSquare_20 : decode cX4_inSquare 20 = .ok (.getfield 9, 3) := by decide +kernel
theorem dX4_inSquare_23 : decode cX4_inSquare 23 = .ok (.iload 6, 2) := by decide +kernel
theorem dX4_inSquare_25 : decode cX4_inSquare 25 = .ok (.iaload, 1) := by decide +kernel
theorem dX4_inSquare_26 : decode cX4_inSquare 26 = .ok (.iaload, 1) := by decide +kernel
theorem dX4_inSquare_27 : decode cX4_inSquare 27 = .ok (.istore 7, 2) := by decide +kernel
theorem dX4_inSquare_29 : decode cX4_inSquare 29 = .ok (.aload_n 1, 1) := by decide +kernel
theorem dX4_inSquare_30 : decode cX4_inSquare 30 = .ok (.getfield 35, 3) := by decide +kernel
theorem dX4_inSquare_33 : decode cX4_inSquare 33 = .ok (.aload_n 0, 1) := by decide +kernel
theorem dX4_inSquare_34 : decode cX4_inSquare 34 = .ok (.getfield 9, 3) := by decide +kernel
theorem dX4_inSquare_37 : decode cX4_inSquare 37 = .ok (.iload 6, 2) := by decide +kernel
theorem dX4_inSquare_39 : decode cX4_inSquare 39 = .ok (.iaload, 1) := by decide +kernel
theorem dX4_inSquare_40 : decode cX4_inSquare 40 = .ok (.iaload, 1) := by decide +kernel
theorem dX4_inSquare_41 : decode cX4_inSquare 41 = .ok (.istore 8, 2) := by decide +kernel
theorem dX4_inSquare_43 : decode cX4_inSquare 43 = .ok (.iload 7, 2) := by decide +kernel
theorem dX4_inSquare_45 : decode cX4_inSquare 45 = .ok (.iload_n 2, 1) := by decide +kernel
theorem dX4_inSquare_46 : decode cX4_inSquare 46 = .ok (.if_icmp .lt 30, 3) := by decide +kernel
theorem dX4_inSquare_49 : decode cX4_inSquare 49 = .ok (.iload 7, 2) := by decide +kernel
theorem dX4_inSquare_51 : decode cX4_inSquare 51 = .ok (.iload_n 2, 1) := by decide +kernel
theorem dX4_inSquare_52 : decode cX4_inSquare 52 = .ok (.iload 4, 2) := by decide +kernel
theorem dX4_inSquare_54 : decode cX4_inSquare 54 = .ok (.iadd, 1) := by decide +kernel
theorem dX4_inSquare_55 : decode cX4_inSquare 55 = .ok (.if_icmp .gt 21, 3) := by decide +kernel
theorem dX4_inSquare_58 : decode cX4_inSquare 58 = .ok (.iload 8, 2) := by decide +kernel
theorem dX4_inSquare_60 : decode cX4_inSquare 60 = .ok (.iload_n 3, 1) := by decide +kernel
theorem dX4_inSquare_61 : decode cX4_inSquare 61 = .ok (.if_icmp .lt 15, 3) := by decide +kernel
theorem dX4_inSquare_64 : decode cX4_inSquare 64 = .ok (.iload 8, 2) := by decide +kernel
theorem dX4_inSquare_66 : decode cX4_inSquare 66 = .ok (.iload_n 3, 1) := by decide +kernel
theorem dX4_inSquare_67 : decode cX4_inSquare 67 = .ok (.iload 4, 2) := by decide +kernel
theorem dX4_inSquare_69 : decode cX4_inSquare 69 = .ok (.iadd, 1) := by decide +kernel
theorem dX4_inSquare_70 : decode cX4_inSquare 70 = .ok (.if_icmp .gt 6, 3) := by decide +kernel
theorem dX4_inSquare_73 : decode cX4_inSquare 73 = .ok (.iinc 5 1, 3) := by decide +kernel
theorem dX4_inSquare_76 : decode cX4_inSquare 76 = .ok (.iinc 6 1, 3) := by decide +kernel
theorem dX4_inSquare_79 : decode cX4_inSquare 79 = .ok (.goto (-73), 3) := by decide +kernel
theorem dX4_inSquare_82 : decode cX4_inSquare 82 = .ok (.iload 5, 2) := by decide +kernel
theorem dX4_inSquare_84 : decode cX4_inSquare 84 = .ok (.ireturn, 1) := by decide +kernel
theorem dX4_fullestFrom_0 : decode cX4_fullestFrom 0 = .ok (.iconst (-1), 1) := by decide +kernel
theorem dX4_fullestFrom_1 : decode cX4_fullestFrom 1 = .ok (.istore 4, 2) := by decide +kernel
theorem dX4_fullestFrom_3 : decode cX4_fullestFrom 3 = .ok (.iconst 0, 1) := by decide +kernel
theorem dX4_fullestFrom_4 : decode cX4_fullestFrom 4 = .ok (.istore 5, 2) := by decide +kernel
theorem dX4_fullestFrom_6 : decode cX4_fullestFrom 6 = .ok (.iconst 0, 1) := by decide +kernel
theorem dX4_fullestFrom_7 : decode cX4_fullestFrom 7 = .ok (.istore 6, 2) := by decide +kernel
theorem dX4_fullestFrom_9 : decode cX4_fullestFrom 9 = .ok (.iconst 0, 1) := by decide +kernel
theorem dX4_fullestFrom_10 : decode cX4_fullestFrom 10 = .ok (.istore 7, 2) := by decide +kernel
theorem dX4_fullestFrom_12 : decode cX4_fullestFrom 12 = .ok (.iconst 0, 1) := by decide +kernel
theorem dX4_fullestFrom_13 : decode cX4_fullestFrom 13 = .ok (.istore 8, 2) := by decide +kernel
theorem dX4_fullestFrom_15 : decode cX4_fullestFrom 15 = .ok (.iconst 0, 1) := by decide +kernel
theorem dX4_fullestFrom_16 : decode cX4_fullestFrom 16 = .ok (.istore 9, 2) := by decide +kernel
theorem dX4_fullestFrom_18 : decode cX4_fullestFrom 18 = .ok (.iload 9, 2) := by decide +kernel
theorem dX4_fullestFrom_20 : decode cX4_fullestFrom 20 = .ok (.aload_n 0, 1) := by decide +kernel
theorem dX4_fullestFrom_21 : decode cX4_fullestFrom 21 = .ok (.getfield 15, 3) := by decide +kernel
theorem dX4_fullestFrom_24 : decode cX4_fullestFrom 24 = .ok (.if_icmp .ge 132, 3) := by decide +kernel
theorem dX4_fullestFrom_27 : decode cX4_fullestFrom 27 = .ok (.aload_n 1, 1) := by decide +kernel
theorem dX4_fullestFrom_28 : decode cX4_fullestFrom 28 = .ok (.getfield 35, 3) := by decide +kernel
theorem dX4_fullestFrom_31 : decode cX4_fullestFrom 31 = .ok (.aload_n 0, 1) := by decide +kernel
theorem dX4_fullestFrom_32 : decode cX4_fullestFrom 32 = .ok (.getfield 9, 3) := by decide +kernel
theorem dX4_fullestFrom_35 : decode cX4_fullestFrom 35 = .ok (.iload 9, 2) := by decide +kernel
theorem dX4_fullestFrom_37 : decode cX4_fullestFrom 37 = .ok (.iaload, 1) := by decide +kernel
theorem dX4_fullestFrom_38 : decode cX4_fullestFrom 38 = .ok (.iaload, 1) := by decide +kernel
theorem dX4_fullestFrom_39 : decode cX4_fullestFrom 39 = .ok (.istore 10, 2) := by decide +kernel
theorem dX4_fullestFrom_41 : decode cX4_fullestFrom 41 = .ok (.iload 7, 2) := by decide +kernel
theorem dX4_fullestFrom_43 : decode cX4_fullestFrom 43 = .ok (.aload_n 0, 1) := by decide +kernel
theorem dX4_fullestFrom_44 : decode cX4_fullestFrom 44 = .ok (.getfield 15, 3) := by decide +kernel
theorem dX4_fullestFrom_47 : decode cX4_fullestFrom 47 = .ok (.if_icmp .ge 42, 3) := by decide +kernel
theorem dX4_fullestFrom_50 : decode cX4_fullestFrom 50 = .ok (.aload_n 1, 1) := by decide +kernel
theorem dX4_fullestFrom_51 : decode cX4_fullestFrom 51 = .ok (.getfield 35, 3) := by decide +kernel
theorem dX4_fullestFrom_54 : decode cX4_fullestFrom 54 = .ok (.aload_n 0, 1) := by decide +kernel
theorem dX4_fullestFrom_55 : decode cX4_fullestFrom 55 = .ok (.getfield 9, 3) := by decide +kernel
theorem dX4_fullestFrom_58 : decode cX4_fullestFrom 58 = .ok (.iload 7, 2) := by decide +kernel
theorem dX4_fullestFrom_60 : decode cX4_fullestFrom 60 = .ok (.iaload, 1) := by decide +kernel
theorem dX4_fullestFrom_61 : decode cX4_fullestFrom 61 = .ok (.iaload, 1) := by decide +kernel
theorem dX4_fullestFrom_62 : decode cX4_fullestFrom 62 = .ok (.iload 10, 2) := by decide +kernel
theorem dX4_fullestFrom_64 : decode cX4_fullestFrom 64 = .ok (.iload_n 3, 1) := by decide +kernel
theorem dX4_fullestFrom_65 : decode cX4_fullestFrom 65 = .ok (.iadd, 1) := by decide +kernel
theorem dX4_fullestFrom_66 : decode cX4_fullestFrom 66 = .ok (.if_icmp .gt 23, 3) := by decide +kernel
theorem dX4_fullestFrom_69 : decode cX4_fullestFrom 69 = .ok (.iload 6, 2) := by decide +kernel
theorem dX4_fullestFrom_71 : decode cX4_fullestFrom 71 = .ok (.aload_n 0, 1) := by decide +kernel
theorem dX4_fullestFrom_72 : decode cX4_fullestFrom 72 = .ok (.aload_n 1, 1) := by decide +kernel
theorem dX4_fullestFrom_73 : decode cX4_fullestFrom 73 = .ok (.iload 7, 2) := by decide +kernel
theorem dX4_fullestFrom_75 : decode cX4_fullestFrom 75 = .ok (.iload_n 2, 1) := by decide +kernel
theorem dX4_fullestFrom_76 : decode cX4_fullestFrom 76 = .ok (.iload_n 3, 1) := by decide +kernel
theorem dX4_fullestFrom_77 : decode cX4_fullestFrom 77 = .ok (.invokevirtual 74, 3) := by decide +kernel
theorem dX4_fullestFrom_80 : decode cX4_fullestFrom 80 = .ok (.iadd, 1) := by decide +kernel
theorem dX4_fullestFrom_81 : decode cX4_fullestFrom 81 = .ok (.istore 6, 2) := by decide +kernel
theorem dX4_fullestFrom_83 : decode cX4_fullestFrom 83 = .ok (.iinc 7 1, 3) := by decide +kernel
theorem dX4_fullestFrom_86 : decode cX4_fullestFrom 86 = .ok (.goto (-45), 3) := by decide +kernel
theorem dX4_fullestFrom_89 : decode cX4_fullestFrom 89 = .ok (.iload 8, 2) := by decide +kernel
theorem dX4_fullestFrom_91 : decode cX4_fullestFrom 91 = .ok (.aload_n 0, 1) := by decide +kernel
theorem dX4_fullestFrom_92 : decode cX4_fullestFrom 92 = .ok (.getfield 15, 3) := by decide +kernel
theorem dX4_fullestFrom_95 : decode cX4_fullestFrom 95 = .ok (.if_icmp .ge 40, 3) := by decide +kernel
theorem dX4_fullestFrom_98 : decode cX4_fullestFrom 98 = .ok (.aload_n 1, 1) := by decide +kernel
theorem dX4_fullestFrom_99 : decode cX4_fullestFrom 99 = .ok (.getfield 35, 3) := by decide +kernel
theorem dX4_fullestFrom_102 : decode cX4_fullestFrom 102 = .ok (.aload_n 0, 1) := by decide +kernel
theorem dX4_fullestFrom_103 : decode cX4_fullestFrom 103 = .ok (.getfield 9, 3) := by decide +kernel
theorem dX4_fullestFrom_106 : decode cX4_fullestFrom 106 = .ok (.iload 8, 2) := by decide +kernel
theorem dX4_fullestFrom_108 : decode cX4_fullestFrom 108 = .ok (.iaload, 1) := by decide +kernel
theorem dX4_fullestFrom_109 : decode cX4_fullestFrom 109 = .ok (.iaload, 1) := by decide +kernel
theorem dX4_fullestFrom_110 : decode cX4_fullestFrom 110 = .ok (.iload 10, 2) := by decide +kernel
theorem dX4_fullestFrom_112 : decode cX4_fullestFrom 112 = .ok (.if_icmp .ge 23, 3) := by decide +kernel
theorem dX4_fullestFrom_115 : decode cX4_fullestFrom 115 = .ok (.iload 6, 2) := by decide +kernel
theorem dX4_fullestFrom_117 : decode cX4_fullestFrom 117 = .ok (.aload_n 0, 1) := by decide +kernel
theorem dX4_fullestFrom_118 : decode cX4_fullestFrom 118 = .ok (.aload_n 1, 1) := by decide +kernel
theorem dX4_fullestFrom_119 : decode cX4_fullestFrom 119 = .ok (.iload 8, 2) := by decide +kernel
theorem dX4_fullestFrom_121 : decode cX4_fullestFrom 121 = .ok (.iload_n 2, 1) := by decide +kernel
theorem dX4_fullestFrom_122 : decode cX4_fullestFrom 122 = .ok (.iload_n 3, 1) := by decide +kernel
theorem dX4_fullestFrom_123 : decode cX4_fullestFrom 123 = .ok (.invokevirtual 74, 3) := by decide +kernel
theorem dX4_fullestFrom_126 : decode cX4_fullestFrom 126 = .ok (.isub, 1) := by decide +kernel
theorem dX4_fullestFrom_127 : decode cX4_fullestFrom 127 = .ok (.istore 6, 2) := by decide +kernel
theorem dX4_fullestFrom_129 : decode cX4_fullestFrom 129 = .ok (.iinc 8 1, 3) := by decide +kernel
theorem dX4_fullestFrom_132 : decode cX4_fullestFrom 132 = .ok (.goto (-43), 3) := by decide +kernel
theorem dX4_fullestFrom_135 : decode cX4_fullestFrom 135 = .ok (.iload 6, 2) := by decide +kernel
theorem dX4_fullestFrom_137 : decode cX4_fullestFrom 137 = .ok (.iload 4, 2) := by decide +kernel
theorem dX4_fullestFrom_139 : decode cX4_fullestFrom 139 = .ok (.if_icmp .le 11, 3) := by decide +kernel
theorem dX4_fullestFrom_142 : decode cX4_fullestFrom 142 = .ok (.iload 6, 2) := by decide +kernel
theorem dX4_fullestFrom_144 : decode cX4_fullestFrom 144 = .ok (.istore 4, 2) := by decide +kernel
theorem dX4_fullestFrom_146 : decode cX4_fullestFrom 146 = .ok (.iload 10, 2) := by decide +kernel
theorem dX4_fullestFrom_148 : decode cX4_fullestFrom 148 = .ok (.istore 5, 2) := by decide +kernel
theorem dX4_fullestFrom_150 : decode cX4_fullestFrom 150 = .ok (.iinc 9 1, 3) := by decide +kernel
theorem dX4_fullestFrom_153 : decode cX4_fullestFrom 153 = .ok (.goto (-135), 3) := by decide +kernel
theorem dX4_fullestFrom_156 : decode cX4_fullestFrom 156 = .ok (.iload 5, 2) := by decide +kernel
theorem dX4_fullestFrom_158 : decode cX4_fullestFrom 158 = .ok (.ireturn, 1) := by decide +kernel
theorem dX4_inColumn_0 : decode cX4_inColumn 0 = .ok (.aload_n 1, 1) := by decide +kernel
theorem dX4_inColumn_1 : decode cX4_inColumn 1 = .ok (.getfield 32, 3) := by decide +kernel
theorem dX4_inColumn_4 : decode cX4_inColumn 4 = .ok (.aload_n 0, 1) := by decide +kernel
theorem dX4_inColumn_5 : decode cX4_inColumn 5 = .ok (.getfield 9, 3) := by decide +kernel
theorem dX4_inColumn_8 : decode cX4_inColumn 8 = .ok (.iload_n 2, 1) := by decide +kernel
theorem dX4_inColumn_9 : decode cX4_inColumn 9 = .ok (.iaload, 1) := by decide +kernel
theorem dX4_inColumn_10 : decode cX4_inColumn 10 = .ok (.iaload, 1) := by decide +kernel
theorem dX4_inColumn_11 : decode cX4_inColumn 11 = .ok (.istore 5, 2) := by decide +kernel
theorem dX4_inColumn_13 : decode cX4_inColumn 13 = .ok (.iload 5, 2) := by decide +kernel
theorem dX4_inColumn_15 : decode cX4_inColumn 15 = .ok (.iload_n 3, 1) := by decide +kernel
theorem dX4_inColumn_16 : decode cX4_inColumn 16 = .ok (.if_icmp .lt 16, 3) := by decide +kernel
theorem dX4_inColumn_19 : decode cX4_inColumn 19 = .ok (.iload 5, 2) := by decide +kernel
theorem dX4_inColumn_21 : decode cX4_inColumn 21 = .ok (.iload_n 3, 1) := by decide +kernel
theorem dX4_inColumn_22 : decode cX4_inColumn 22 = .ok (.iload 4, 2) := by decide +kernel
theorem dX4_inColumn_24 : decode cX4_inColumn 24 = .ok (.iadd, 1) := by decide +kernel
theorem dX4_inColumn_25 : decode cX4_inColumn 25 = .ok (.if_icmp .gt 7, 3) := by decide +kernel
theorem dX4_inColumn_28 : decode cX4_inColumn 28 = .ok (.iconst 1, 1) := by decide +kernel
theorem dX4_inColumn_29 : decode cX4_inColumn 29 = .ok (.goto 4, 3) := by decide +kernel
theorem dX4_inColumn_32 : decode cX4_inColumn 32 = .ok (.iconst 0, 1) := by decide +kernel
theorem dX4_inColumn_33 : decode cX4_inColumn 33 = .ok (.ireturn, 1) := by decide +kernel
theorem dX5_init_0 : decode cX5_init 0 = .ok (.aload_n 0, 1) := by decide +kernel
theorem dX5_init_1 : decode cX5_init 1 = .ok (.invokespecial 3, 3) := by decide +kernel
theorem dX5_init_4 : decode cX5_init 4 = .ok (.aload_n 0, 1) := by decide +kernel
theorem dX5_init_5 : decode cX5_init 5 = .ok (.bipush 120, 2) := by decide +kernel
theorem dX5_init_7 : decode cX5_init 7 = .ok (.newarray .int, 2) := by decide +kernel
theorem dX5_init_9 : decode cX5_init 9 = .ok (.putfield 9, 3) := by decide +kernel
theorem dX5_init_12 : decode cX5_init 12 = .ok (.aload_n 0, 1) := by decide +kernel
theorem dX5_init_13 : decode cX5_init 13 = .ok (.new 15, 3) := by decide +kernel
theorem dX5_init_16 : decode cX5_init 16 = .ok (.dup, 1) := by decide +kernel
theorem dX5_init_17 : decode cX5_init 17 = .ok (.invokespecial 17, 3) := by decide +kernel
theorem dX5_init_20 : decode cX5_init 20 = .ok (.putfield 18, 3) := by decide +kernel
theorem dX5_init_23 : decode cX5_init 23 = .ok (.return_, 1) := by decide +kernel
theorem dX5_append_0 : decode cX5_append 0 = .ok (.aload_n 0, 1) := by decide +kernel
theorem dX5_append_1 : decode cX5_append 1 = .ok (.getfield 22, 3) := by decide +kernel
theorem dX5_append_4 : decode cX5_append 4 = .ok (.bipush 120, 2) := by decide +kernel
theorem dX5_append_6 : decode cX5_append 6 = .ok (.if_icmp .ge 23, 3) := by decide +kernel
theorem dX5_append_9 : decode cX5_append 9 = .ok (.aload_n 0, 1) := by decide +kernel
theorem dX5_append_10 : decode cX5_append 10 = .ok (.getfield 9, 3) := by decide +kernel
theorem dX5_append_13 : decode cX5_append 13 = .ok (.aload_n 0, 1) := by decide +kernel
theorem dX5_append_14 : decode cX5_append 14 = .ok (.getfield 22, 3) := by decide +kernel
theorem dX5_append_17 : decode cX5_append 17 = .ok (.iload_n 1, 1) := by decide +kernel
theorem dX5_append_18 : decode cX5_append 18 = .ok (.iastore, 1) := by decide +kernel
theorem dX5_append_19 : decode cX5_append 19 = .ok (.aload_n 0, 1) := by decide +kernel
theorem dX5_append_20 : decode cX5_append 20 = .ok (.dup, 1) := by decide +kernel
theorem dX5_append_21 : decode cX5_append 21 = .ok (.getfield 22, 3) := by decide +kernel
theorem dX5_append_24 : decode cX5_append 24 = .ok (.iconst 1, 1) := by decide +kernel
theorem dX5_append_25 : decode cX5_append 25 = .ok (.iadd, 1) := by decide +kernel
theorem dX5_append_26 : decode cX5_append 26 = .ok (.putfield 22, 3) := by decide +kernel
theorem dX5_append_29 : decode cX5_append 29 = .ok (.return_, 1) := by decide +kernel
theorem dX5_read_0 : decode cX5_read 0 = .ok (.aload_n 0, 1) := by decide +kernel
theorem dX5_read_1 : decode cX5_read 1 = .ok (.iconst 0, 1) := by decide +kernel
theorem dX5_read_2 : decode cX5_read 2 = .ok (.putfield 26, 3) := by decide +kernel
theorem dX5_read_5 : decode cX5_read 5 = .ok (.aload_n 0, 1) := by decide +kernel
theorem dX5_read_6 : decode cX5_read 6 = .ok (.iconst (-1), 1) := by decide +kernel
theorem dX5_read_7 : decode cX5_read 7 = .ok (.putfield 29, 3) := by decide +kernel
theorem dX5_read_10 : decode cX5_read 10 = .ok (.aload_n 0, 1) := by decide +kernel
theorem dX5_read_11 : decode cX5_read 11 = .ok (.getfield 18, 3) := by decide +kernel
theorem dX5_read_14 : decode cX5_read 14 = .ok (.invokevirtual 32, 3) := by decide +kernel
theorem dX5_read_17 : decode cX5_read 17 = .ok (.aload_n 0, 1) := by decide +kernel
theorem dX5_read_18 : decode cX5_read 18 = .ok (.iconst 0, 1) := by decide +kernel
theorem dX5_read_19 : decode cX5_read 19 = .ok (.invokevirtual 35, 3) := by decide +kernel
theorem dX5_read_22 : decode cX5_read 22 = .ok (.aload_n 0, 1) := by decide +kernel
theorem dX5_read_23 : decode cX5_read 23 = .ok (.bipush 59, 2) := by decide +kernel
theorem dX5_read_25 : decode cX5_read 25 = .ok (.invokevirtual 39, 3) := by decide +kernel
theorem dX5_read_28 : decode cX5_read 28 = .ok (.aload_n 0, 1) := by decide +kernel
theorem dX5_read_29 : decode cX5_read 29 = .ok (.invokevirtual 42, 3) := by decide +kernel
theorem dX5_read_32 : decode cX5_read 32 = .ok (.iconst (-1), 1) := by decide +kernel
theorem dX5_read_33 : decode cX5_read 33 = .ok (.if_icmp .eq 11, 3) := by decide +kernel
theorem dX5_read_36 : decode cX5_read 36 = .ok (.aload_n 0, 1) := by decide +kernel
theorem dX5_read_37 : decode cX5_read 37 = .ok (.aload_n 0, 1) := by decide +kernel
theorem dX5_read_38 : decode cX5_read 38 = .ok (.getfield 26, 3) := by decide +kernel
theorem dX5_read_41 : decode cX5_read 41 = .ok (.invokevirtual 46, 3) := by decide +kernel
theorem dX5_read_44 : decode cX5_read 44 = .ok (.aload_n 0, 1) := by decide +kernel
theorem dX5_read_45 : decode cX5_read 45 = .ok (.getfield 29, 3) := by decide +kernel
theorem dX5_read_48 : decode cX5_read 48 = .ok (.ireturn, 1) := by decide +kernel
theorem dX5_readArea_0 : decode cX5_readArea 0 = .ok (.aload_n 0, 1) := by decide +kernel
theorem dX5_readArea_1 : decode cX5_readArea 1 = .ok (.iload_n 1, 1) := by decide +kernel
theorem dX5_readArea_2 : decode cX5_readArea 2 = .ok (.invokevirtual 49, 3) := by decide +kernel
theorem dX5_readArea_5 : decode cX5_readArea 5 = .ok (.iconst 0, 1) := by decide +kernel
theorem dX5_readArea_6 : decode cX5_readArea 6 = .ok (.istore_n 2, 1) := by decide +kernel
theorem dX5_readArea_7 : decode cX5_readArea 7 = .ok (.iload_n 2, 1) := by decide +kernel
theorem dX5_readArea_8 : decode cX5_readArea 8 = .ok (.bipush 120, 2) := by decide +kernel
theorem dX5_readArea_10 : decode cX5_readArea 10 = .ok (.if_icmp .ge 67, 3) := by decide +kernel
theorem dX5_readArea_13 : decode cX5_readArea 13 = .ok (.aload_n 0, 1) := by decide +kernel
theorem dX5_readArea_14 : decode cX5_readArea 14 = .ok (.invokevirtual 42, 3) := by decide +kernel
theorem dX5_readArea_17 : decode cX5_readArea 17 = .ok (.bipush 43, 2) := by decide +kernel
theorem dX5_readArea_19 : decode cX5_readArea 19 = .ok (.if_icmp .eq 12, 3) := by decide +kernel
theorem dX5_readArea_22 : decode cX5_readArea 22 = .ok (.aload_n 0, 1) := by decide +kernel
theorem dX5_readArea_23 : decode cX5_readArea 23 = .ok (.invokevirtual 42, 3) := by decide +kernel
theorem dX5_readArea_26 : decode cX5_readArea 26 = .ok (.bipush 45, 2) := by decide +kernel
theorem dX5_readArea_28 : decode cX5_readArea 28 = .ok (.if_icmp .ne 49, 3) := by decide +kernel
theorem dX5_readArea_31 : decode cX5_readArea 31 = .ok (.aload_n 0, 1) := by decide +kernel
theorem dX5_readArea_32 : decode cX5_readArea 32 = .ok (.invokevirtual 42, 3) := by decide +kernel
theorem dX5_readArea_35 : decode cX5_readArea 35 = .ok (.bipush 43, 2) := by decide +kernel
theorem dX5_readArea_37 : decode cX5_readArea 37 = .ok (.if_icmp .ne 8, 3) := by decide +kernel
theorem dX5_readArea_40 : decode cX5_readArea 40 = .ok (.bipush (-3), 2) := by decide +kernel
theorem dX5_readArea_42 : decode cX5_readArea 42 = .ok (.goto 5, 3) := by decide +kernel
theorem dX5_readArea_45 : decode cX5_readArea 45 = .ok (.bipush (-4), 2) := by decide +kernel
theorem dX5_readArea_47 : decode cX5_readArea 47 = .ok (.istore_n 3, 1) := by decide +kernel
theorem dX5_readArea_48 : decode cX5_readArea 48 = .ok (.aload_n 0, 1) := by decide +kernel
theorem dX5_readArea_49 : decode cX5_readArea 49 = .ok (.dup, 1) := by decide +kernel
theorem dX5_readArea_50 : decode cX5_readArea 50 = .ok (.getfield 26, 3) := by decide +kernel
theorem dX5_readArea_53 : decode cX5_readArea 53 = .ok (.iconst 1, 1) := by decide +kernel
theorem dX5_readArea_54 : decode cX5_readArea 54 = .ok (.iadd, 1) := by decide +kernel
theorem dX5_readArea_55 : decode cX5_readArea 55 = .ok (.putfield 26, 3) := by decide +kernel
theorem dX5_readArea_58 : decode cX5_readArea 58 = .ok (.aload_n 0, 1) := by decide +kernel
theorem dX5_readArea_59 : decode cX5_readArea 59 = .ok (.iload_n 1, 1) := by decide +kernel
theorem dX5_readArea_60 : decode cX5_readArea 60 = .ok (.invokevirtual 49, 3) := by decide +kernel
theorem dX5_readArea_63 : decode cX5_readArea 63 = .ok (.aload_n 0, 1) := by decide +kernel
theorem dX5_readArea_64 : decode cX5_readArea 64 = .ok (.getfield 18, 3) := by decide +kernel
theorem dX5_readArea_67 : decode cX5_readArea 67 = .ok (.iload_n 3, 1) := by decide +kernel
theorem dX5_readArea_68 : decode cX5_readArea 68 = .ok (.invokevirtual 52, 3) := by decide +kernel
theorem dX5_readArea_71 : decode cX5_readArea 71 = .ok (.iinc 2 1, 3) := by decide +kernel
theorem dX5_readArea_74 : decode cX5_readArea 74 = .ok (.goto (-67), 3) := by decide +kernel
theorem dX5_readArea_77 : decode cX5_readArea 77 = .ok (.return_, 1) := by decide +kernel
theorem dX5_readPart_0 : decode cX5_readPart 0 = .ok (.aload_n 0, 1) := by decide +kernel
theorem dX5_readPart_1 : decode cX5_readPart 1 = .ok (.iload_n 1, 1) := by decide +kernel
theorem dX5_readPart_2 : decode cX5_readPart 2 = .ok (.invokevirtual 55, 3) := by decide +kernel
theorem dX5_readPart_5 : decode cX5_readPart 5 = .ok (.iconst 0, 1) := by decide +kernel
theorem dX5_readPart_6 : decode cX5_readPart 6 = .ok (.istore_n 2, 1) := by decide +kernel
theorem dX5_readPart_7 : decode cX5_readPart 7 = .ok (.iload_n 2, 1) := by decide +kernel
theorem dX5_readPart_8 : decode cX5_readPart 8 = .ok (.bipush 120, 2) := by decide +kernel
theorem dX5_readPart_10 : decode cX5_readPart 10 = .ok (.if_icmp .ge 42, 3) := by decide +kernel
theorem dX5_readPart_13 : decode cX5_readPart 13 = .ok (.aload_n 0, 1) := by decide +kernel
theorem dX5_readPart_14 : decode cX5_readPart 14 = .ok (.invokevirtual 42, 3) := by decide +kernel
theorem dX5_readPart_17 : decode cX5_readPart 17 = .ok (.bipush 38, 2) := by decide +kernel
theorem dX5_readPart_19 : decode cX5_readPart 19 = .ok (.if_icmp .ne 33, 3) := by decide +kernel
theorem dX5_readPart_22 : decode cX5_readPart 22 = .ok (.aload_n 0, 1) := by decide +kernel
theorem dX5_readPart_23 : decode cX5_readPart 23 = .ok (.dup, 1) := by decide +kernel
theorem dX5_readPart_24 : decode cX5_readPart 24 = .ok (.getfield 26, 3) := by decide +kernel
theorem dX5_readPart_27 : decode cX5_readPart 27 = .ok (.iconst 1, 1) := by decide +kernel
theorem dX5_readPart_28 : decode cX5_readPart 28 = .ok (.iadd, 1) := by decide +kernel
theorem dX5_readPart_29 : decode cX5_readPart 29 = .ok (.putfield 26, 3) := by decide +kernel
theorem dX5_readPart_32 : decode cX5_readPart 32 = .ok (.aload_n 0, 1) := by decide +kernel
theorem dX5_readPart_33 : decode cX5_readPart 33 = .ok (.iload_n 1, 1) := by decide +kernel
theorem dX5_readPart_34 : decode cX5_readPart 34 = .ok (.invokevirtual 55, 3) := by decide +kernel
theorem dX5_readPart_37 : decode cX5_readPart 37 = .ok (.aload_n 0, 1) := by decide +kernel
theorem dX5_readPart_38 : decode cX5_readPart 38 = .ok (.getfield 18, 3) := by decide +kernel
theorem dX5_readPart_41 : decode cX5_readPart 41 = .ok (.bipush (-2), 2) := by decide +kernel
theorem dX5_readPart_43 : decode cX5_readPart 43 = .ok (.invokevirtual 52, 3) := by decide +kernel
theorem dX5_readPart_46 : decode cX5_readPart 46 = .ok (.iinc 2 1, 3) := by decide +kernel
theorem dX5_readPart_49 : decode cX5_readPart 49 = .ok (.goto (-42), 3) := by decide +kernel
theorem dX5_readPart_52 : decode cX5_readPart 52 = .ok (.return_, 1) := by decide +kernel
theorem dX5_readSpot_0 : decode cX5_readSpot 0 = .ok (.aload_n 0, 1) := by decide +kernel
theorem dX5_readSpot_1 : decode cX5_readSpot 1 = .ok (.invokevirtual 42, 3) := by decide +kernel
theorem dX5_readSpot_4 : decode cX5_readSpot 4 = .ok (.istore_n 2, 1) := by decide +kernel
theorem dX5_readSpot_5 : decode cX5_readSpot 5 = .ok (.iload_n 2, 1) := by decide +kernel
theorem dX5_readSpot_6 : decode cX5_readSpot 6 = .ok (.bipush 91, 2) := by decide +kernel
theorem dX5_readSpot_8 : decode cX5_readSpot 8 = .ok (.if_icmp .ne 10, 3) := by decide +kernel
theorem dX5_readSpot_11 : decode cX5_readSpot 11 = .ok (.aload_n 0, 1) := by decide +kernel
theorem dX5_readSpot_12 : decode cX5_readSpot 12 = .ok (.invokevirtual 58, 3) := by decide +kernel
theorem dX5_readSpot_15 : decode cX5_readSpot 15 = .ok (.goto 89, 3) := by decide +kernel
theorem dX5_readSpot_18 : decode cX5_readSpot 18 = .ok (.iload_n 2, 1) := by decide +kernel
theorem dX5_readSpot_19 : decode cX5_readSpot 19 = .ok (.bipush 40, 2) := by decide +kernel
theorem dX5_readSpot_21 : decode cX5_readSpot 21 = .ok (.if_icmp .ne 35, 3) := by decide +kernel
theorem dX5_readSpot_24 : decode cX5_readSpot 24 = .ok (.iload_n 1, 1) := by decide +kernel
theorem dX5_readSpot_25 : decode cX5_readSpot 25 = .ok (.bipush 12, 2) := by decide +kernel
theorem dX5_readSpot_27 : decode cX5_readSpot 27 = .ok (.if_icmp .ge 29, 3) := by decide +kernel
theorem dX5_readSpot_30 : decode cX5_readSpot 30 = .ok (.aload_n 0, 1) := by decide +kernel
theorem dX5_readSpot_31 : decode cX5_readSpot 31 = .ok (.dup, 1) := by decide +kernel
theorem dX5_readSpot_32 : decode cX5_readSpot 32 = .ok (.getfield 26, 3) := by decide +kernel
theorem dX5_readSpot_35 : decode cX5_readSpot 35 = .ok (.iconst 1, 1) := by decide +kernel
theorem dX5_readSpot_36 : decode cX5_readSpot 36 = .ok (.iadd, 1) := by decide +kernel
theorem dX5_readSpot_37 : decode cX5_readSpot 37 = .ok (.putfield 26, 3) := by decide +kernel
theorem dX5_readSpot_40 : decode cX5_readSpot 40 = .ok (.aload_n 0, 1) := by decide +kernel
theorem dX5_readSpot_41 : decode cX5_readSpot 41 = .ok (.iload_n 1, 1) := by decide +kernel
theorem dX5_readSpot_42 : decode cX5_readSpot 42 = .ok (.iconst 1, 1) := by decide +kernel
theorem dX5_readSpot_43 : decode cX5_readSpot 43 = .ok (.iadd, 1) := by decide +kernel
theorem dX5_readSpot_44 : decode cX5_readSpot 44 = .ok (.invokevirtual 35, 3) := by decide +kernel
theorem dX5_readSpot_47 : decode cX5_readSpot 47 = .ok (.aload_n 0, 1) := by decide +kernel
theorem dX5_readSpot_48 : decode cX5_readSpot 48 = .ok (.bipush 41, 2) := by decide +kernel
theorem dX5_readSpot_50 : decode cX5_readSpot 50 = .ok (.invokevirtual 39, 3) := by decide +kernel
theorem dX5_readSpot_53 : decode cX5_readSpot 53 = .ok (.goto 51, 3) := by decide +kernel
theorem dX5_readSpot_56 : decode cX5_readSpot 56 = .ok (.iload_n 2, 1) := by decide +kernel
theorem dX5_readSpot_57 : decode cX5_readSpot 57 = .ok (.bipush 33, 2) := by decide +kernel
theorem dX5_readSpot_59 : decode cX5_readSpot 59 = .ok (.if_icmp .ne 37, 3) := by decide +kernel
theorem dX5_readSpot_62 : decode cX5_readSpot 62 = .ok (.iload_n 1, 1) := by decide +kernel
theorem dX5_readSpot_63 : decode cX5_readSpot 63 = .ok (.bipush 12, 2) := by decide +kernel
theorem dX5_readSpot_65 : decode cX5_readSpot 65 = .ok (.if_icmp .ge 31, 3) := by decide +kernel
theorem dX5_readSpot_68 : decode cX5_readSpot 68 = .ok (.aload_n 0, 1) := by decide +kernel
theorem dX5_readSpot_69 : decode cX5_readSpot 69 = .ok (.dup, 1) := by decide +kernel
theorem dX5_readSpot_70 : decode cX5_readSpot 70 = .ok (.getfield 26, 3) := by decide +kernel
theorem dX5_readSpot_73 : decode cX5_readSpot 73 = .ok (.iconst 1, 1) := by decide +kernel
theorem dX5_readSpot_74 : decode cX5_readSpot 74 = .ok (.iadd, 1) := by decide +kernel
theorem dX5_readSpot_75 : decode cX5_readSpot 75 = .ok (.putfield 26, 3) := by decide +kernel
theorem dX5_readSpot_78 : decode cX5_readSpot 78 = .ok (.aload_n 0, 1) := by decide +kernel
theorem dX5_readSpot_79 : decode cX5_readSpot 79 = .ok (.iload_n 1, 1) := by decide +kernel
theorem dX5_readSpot_80 : decode cX5_readSpot 80 = .ok (.iconst 1, 1) := by decide +kernel
theorem dX5_readSpot_81 : decode cX5_readSpot 81 = .ok (.iadd, 1) := by decide +kernel
theorem dX5_readSpot_82 : decode cX5_readSpot 82 = .ok (.invokevirtual 55, 3) := by decide +kernel
theorem dX5_readSpot_85 : decode cX5_readSpot 85 = .ok (.aload_n 0, 1) := by decide +kernel
theorem dX5_readSpot_86 : decode cX5_readSpot 86 = .ok (.getfield 18, 3) := by decide +kernel
theorem dX5_readSpot_89 : decode cX5_readSpot 89 = .ok (.iconst (-1), 1) := by decide +kernel
theorem dX5_readSpot_90 : decode cX5_readSpot 90 = .ok (.invokevirtual 52, 3) := by decide +kernel
theorem dX5_readSpot_93 : decode cX5_readSpot 93 = .ok (.goto 11, 3) := by decide +kernel
theorem dX5_readSpot_96 : decode cX5_readSpot 96 = .ok (.aload_n 0, 1) := by decide +kernel
theorem dX5_readSpot_97 : decode cX5_readSpot 97 = .ok (.aload_n 0, 1) := by decide +kernel
theorem dX5_readSpot_98 : decode cX5_readSpot 98 = .ok (.getfield 26, 3) := by decide +kernel
theorem dX5_readSpot_101 : decode cX5_readSpot 101 = .ok (.invokevirtual 46, 3) := by decide +kernel
theorem dX5_readSpot_104 : decode cX5_readSpot 104 = .ok (.return_, 1) := by decide +kernel
theorem dX5_readRectangle_0 : decode cX5_readRectangle 0 = .ok (.aload_n 0, 1) := by decide +kernel
theorem dX5_readRectangle_1 : decode cX5_readRectangle 1 = .ok (.bipush 91, 2) := by decide +kernel
theorem dX5_readRectangle_3 : decode cX5_readRectangle 3 = .ok (.invokevirtual 39, 3) := by decide +kernel
theorem dX5_readRectangle_6 : decode cX5_readRectangle 6 = .ok (.aload_n 0, 1) := by decide +kernel
theorem dX5_readRectangle_7 : decode cX5_readRectangle 7 = .ok (.sipush (-500), 3) := by decide +kernel
theorem dX5_readRectangle_10 : decode cX5_readRectangle 10 = .ok (.invokevirtual 61, 3) := by decide +kernel
theorem dX5_readRectangle_13 : decode cX5_readRectangle 13 = .ok (.istore_n 1, 1) := by decide +kernel
theorem dX5_readRectangle_14 : decode cX5_readRectangle 14 = .ok (.aload_n 0, 1) := by decide +kernel
theorem dX5_readRectangle_15 : decode cX5_readRectangle 15 = .ok (.bipush 44, 2) := by decide +kernel
theorem dX5_readRectangle_17 : decode cX5_readRectangle 17 = .ok (.invokevirtual 39, 3) := by decide +kernel
theorem dX5_readRectangle_20 : decode cX5_readRectangle 20 = .ok (.aload_n 0, 1) := by decide +kernel
theorem dX5_readRectangle_21 : decode cX5_readRectangle 21 = .ok (.iload_n 1, 1) := by decide +kernel
theorem dX5_readRectangle_22 : decode cX5_readRectangle 22 = .ok (.invokevirtual 61, 3) := by decide +kernel
theorem dX5_readRectangle_25 : decode cX5_readRectangle 25 = .ok (.istore_n 2, 1) := by decide +kernel
theorem dX5_readRectangle_26 : decode cX5_readRectangle 26 = .ok (.aload_n 0, 1) := by decide +kernel
theorem dX5_readRectangle_27 : decode cX5_readRectangle 27 = .ok (.bipush 44, 2) := by decide +kernel
theorem dX5_readRectangle_29 : decode cX5_readRectangle 29 = .ok (.invokevirtual 39, 3) := by decide +kernel
theorem dX5_readRectangle_32 : decode cX5_readRectangle 32 = .ok (.aload_n 0, 1) := by decide +kernel
theorem dX5_readRectangle_33 : decode cX5_readRectangle 33 = .ok (.sipush (-500), 3) := by decide +kernel
theorem dX5_readRectangle_36 : decode cX5_readRectangle 36 = .ok (.invokevirtual 61, 3) := by decide +kernel
theorem dX5_readRectangle_39 : decode cX5_readRectangle 39 = .ok (.istore_n 3, 1) := by decide +kernel
theorem dX5_readRectangle_40 : decode cX5_readRectangle 40 = .ok (.aload_n 0, 1) := by decide +kernel
theorem dX5_readRectangle_41 : decode cX5_readRectangle 41 = .ok (.bipush 44, 2) := by decide +kernel
theorem dX5_readRectangle_43 : decode cX5_readRectangle 43 = .ok (.invokevirtual 39, 3) := by decide +kernel
theorem dX5_readRectangle_46 : decode cX5_readRectangle 46 = .ok (.aload_n 0, 1) := by decide +kernel
theorem dX5_readRectangle_47 : decode cX5_readRectangle 47 = .ok (.iload_n 3, 1) := by decide +kernel
theorem dX5_readRectangle_48 : decode cX5_readRectangle 48 = .ok (.invokevirtual 61, 3) := by decide +kernel
theorem dX5_readRectangle_51 : decode cX5_readRectangle 51 = .ok (.istore 4, 2) := by decide +kernel
theorem dX5_readRectangle_53 : decode cX5_readRectangle 53 = .ok (.aload_n 0, 1) := by decide +kernel
theorem dX5_readRectangle_54 : decode cX5_readRectangle 54 = .ok (.bipush 93, 2) := by decide +kernel
theorem dX5_readRectangle_56 : decode cX5_readRectangle 56 = .ok (.invokevirtual 39, 3) := by decide +kernel
theorem dX5_readRectangle_59 : decode cX5_readRectangle 59 = .ok (.aload_n 0, 1) := by decide +kernel
theorem dX5_readRectangle_60 : decode cX5_readRectangle 60 = .ok (.getfield 29, 3) := by decide +kernel
theorem dX5_readRectangle_63 : decode cX5_readRectangle 63 = .ok (.ifCond .ge 15, 3) := by decide +kernel
theorem dX5_readRectangle_66 : decode cX5_readRectangle 66 = .ok (.aload_n 0, 1) := by decide +kernel
theorem dX5_readRectangle_67 : decode cX5_readRectangle 67 = .ok (.getfield 18, 3) := by decide +kernel
theorem dX5_readRectangle_70 : decode cX5_readRectangle 70 = .ok (.iload_n 1, 1) := by decide +kernel
theorem dX5_readRectangle_71 : decode cX5_readRectangle 71 = .ok (.iload_n 2, 1) := by decide +kernel
theorem dX5_readRectangle_72 : decode cX5_readRectangle 72 = .ok (.iload_n 3, 1) := by decide +kernel
theorem dX5_readRectangle_73 : decode cX5_readRectangle 73 = .ok (.iload 4, 2) := by decide +kernel
theorem dX5_readRectangle_75 : decode cX5_readRectangle 75 = .ok (.invokevirtual 65, 3) := by decide +kernel
theorem dX5_readRectangle_78 : decode cX5_readRectangle 78 = .ok (.return_, 1) := by decide +kernel
theorem dX5_readNumber_0 : decode cX5_readNumber 0 = .ok (.aload_n 0, 1) := by decide +kernel
theorem dX5_readNumber_1 : decode cX5_readNumber 1 = .ok (.invokevirtual 42, 3) := by decide +kernel
theorem dX5_readNumber_4 : decode cX5_readNumber 4 = .ok (.bipush 45, 2) := by decide +kernel
theorem dX5_readNumber_6 : decode cX5_readNumber 6 = .ok (.if_icmp .ne 7, 3) := by decide +kernel
theorem dX5_readNumber_9 : decode cX5_readNumber 9 = .ok (.iconst 1, 1) := by decide +kernel
theorem dX5_readNumber_10 : decode cX5_readNumber 10 = .ok (.goto 4, 3) := by decide +kernel
theorem dX5_readNumber_13 : decode cX5_readNumber 13 = .ok (.iconst 0, 1) := by decide +kernel
theorem dX5_readNumber_14 : decode cX5_readNumber 14 = .ok (.istore_n 2, 1) := by decide +kernel
theorem dX5_readNumber_15 : decode cX5_readNumber 15 = .ok (.aload_n 0, 1) := by decide +kernel
theorem dX5_readNumber_16 : decode cX5_readNumber 16 = .ok (.getfield 26, 3) := by decide +kernel
theorem dX5_readNumber_19 : decode cX5_readNumber 19 = .ok (.istore_n 3, 1) := by decide +kernel
theorem dX5_readNumber_20 : decode cX5_readNumber 20 = .ok (.iload_n 2, 1) := by decide +kernel
theorem dX5_readNumber_21 : decode cX5_readNumber 21 = .ok (.ifCond .eq 13, 3) := by decide +kernel
theorem dX5_readNumber_24 : decode cX5_readNumber 24 = .ok (.aload_n 0, 1) := by decide +kernel
theorem dX5_readNumber_25 : decode cX5_readNumber 25 = .ok (.dup, 1) := by decide +kernel
theorem dX5_readNumber_26 : decode cX5_readNumber 26 = .ok (.getfield 26, 3) := by decide +kernel
theorem dX5_readNumber_29 : decode cX5_readNumber 29 = .ok (.iconst 1, 1) := by decide +kernel
theorem dX5_readNumber_30 : decode cX5_readNumber 30 = .ok (.iadd, 1) := by decide +kernel
theorem dX5_readNumber_31 : decode cX5_readNumber 31 = .ok (.putfield 26, 3) := by decide +kernel
theorem dX5_readNumber_34 : decode cX5_readNumber 34 = .ok (.iconst 0, 1) := by decide +kernel
theorem dX5_readNumber_35 : decode cX5_readNumber 35 = .ok (.istore 4, 2) := by decide +kernel
theorem dX5_readNumber_37 : decode cX5_readNumber 37 = .ok (.iconst 0, 1) := by decide +kernel
theorem dX5_readNumber_38 : decode cX5_readNumber 38 = .ok (.istore 5, 2) := by decide +kernel
theorem dX5_readNumber_40 : decode cX5_readNumber 40 = .ok (.aload_n 0, 1) := by decide +kernel
theorem dX5_readNumber_41 : decode cX5_readNumber 41 = .ok (.getfield 26, 3) := by decide +kernel
theorem dX5_readNumber_44 : decode cX5_readNumber 44 = .ok (.aload_n 0, 1) := by decide +kernel
theorem dX5_readNumber_45 : decode cX5_readNumber 45 = .ok (.getfield 22, 3) := by decide +kernel
theorem dX5_readNumber_48 : decode cX5_readNumber 48 = .ok (.if_icmp .ge 60, 3) := by decide +kernel
theorem dX5_readNumber_51 : decode cX5_readNumber 51 = .ok (.aload_n 0, 1) := by decide +kernel
theorem dX5_readNumber_52 : decode cX5_readNumber 52 = .ok (.getfield 9, 3) := by decide +kernel
theorem dX5_readNumber_55 : decode cX5_readNumber 55 = .ok (.aload_n 0, 1) := by decide +kernel
theorem dX5_readNumber_56 : decode cX5_readNumber 56 = .ok (.getfield 26, 3) := by decide +kernel
theorem dX5_readNumber_59 : decode cX5_readNumber 59 = .ok (.iaload, 1) := by decide +kernel
theorem dX5_readNumber_60 : decode cX5_readNumber 60 = .ok (.invokestatic 69, 3) := by decide +kernel
theorem dX5_readNumber_63 : decode cX5_readNumber 63 = .ok (.ifCond .eq 45, 3) := by decide +kernel
theorem dX5_readNumber_66 : decode cX5_readNumber 66 = .ok (.iload 5, 2) := by decide +kernel
theorem dX5_readNumber_68 : decode cX5_readNumber 68 = .ok (.iconst 3, 1) := by decide +kernel
theorem dX5_readNumber_69 : decode cX5_readNumber 69 = .ok (.if_icmp .ge 23, 3) := by decide +kernel
theorem dX5_readNumber_72 : decode cX5_readNumber 72 = .ok (.bipush 10, 2) := by decide +kernel
theorem dX5_readNumber_74 : decode cX5_readNumber 74 = .ok (.iload 4, 2) := by decide +kernel
theorem dX5_readNumber_76 : decode cX5_readNumber 76 = .ok (.imul, 1) := by decide +kernel
theorem dX5_readNumber_77 : decode cX5_readNumber 77 = .ok (.aload_n 0, 1) := by decide +kernel
theorem dX5_readNumber_78 : decode cX5_readNumber 78 = .ok (.getfield 9, 3) := by decide +kernel
theorem dX5_readNumber_81 : decode cX5_readNumber 81 = .ok (.aload_n 0, 1) := by decide +kernel
theorem dX5_readNumber_82 : decode cX5_readNumber 82 = .ok (.getfield 26, 3) := by decide +kernel
theorem dX5_readNumber_85 : decode cX5_readNumber 85 = .ok (.iaload, 1) := by decide +kernel
theorem dX5_readNumber_86 : decode cX5_readNumber 86 = .ok (.iadd, 1) := by decide +kernel
theorem dX5_readNumber_87 : decode cX5_readNumber 87 = .ok (.bipush 48, 2) := by decide +kernel
theorem dX5_readNumber_89 : decode cX5_readNumber 89 = .ok (.isub, 1) := by decide +kernel
theorem dX5_readNumber_90 : decode cX5_readNumber 90 = .ok (.istore 4, 2) := by decide +kernel
theorem dX5_readNumber_92 : decode cX5_readNumber 92 = .ok (.iinc 5 1, 3) := by decide +kernel
theorem dX5_readNumber_95 : decode cX5_readNumber 95 = .ok (.aload_n 0, 1) := by decide +kernel
theorem dX5_readNumber_96 : decode cX5_readNumber 96 = .ok (.dup, 1) := by decide +kernel
theorem dX5_readNumber_97 : decode cX5_readNumber 97 = .ok (.getfield 26, 3) := by decide +kernel
theorem dX5_readNumber_100 : decode cX5_readNumber 100 = .ok (.iconst 1, 1) := by decide +kernel
theorem dX5_readNumber_101 : decode cX5_readNumber 101 = .ok (.iadd, 1) := by decide +kernel
theorem dX5_readNumber_102 : decode cX5_readNumber 102 = .ok (.putfield 26, 3) := by decide +kernel
theorem dX5_readNumber_105 : decode cX5_readNumber 105 = .ok (.goto (-65), 3) := by decide +kernel
theorem dX5_readNumber_108 : decode cX5_readNumber 108 = .ok (.iload 5, 2) := by decide +kernel
theorem dX5_readNumber_110 : decode cX5_readNumber 110 = .ok (.ifCond .ne 13, 3) := by decide +kernel
theorem dX5_readNumber_113 : decode cX5_readNumber 113 = .ok (.aload_n 0, 1) := by decide +kernel
theorem dX5_readNumber_114 : decode cX5_readNumber 114 = .ok (.aload_n 0, 1) := by decide +kernel
theorem dX5_readNumber_115 : decode cX5_readNumber 115 = .ok (.getfield 26, 3) := by decide +kernel
theorem dX5_readNumber_118 : decode cX5_readNumber 118 = .ok (.invokevirtual 46, 3) := by decide +kernel
theorem dX5_readNumber_121 : decode cX5_readNumber 121 = .ok (.iload_n 1, 1) := by decide +kernel
theorem dX5_readNumber_122 : decode cX5_readNumber 122 = .ok (.ireturn, 1) := by decide +kernel
theorem dX5_readNumber_123 : decode cX5_readNumber 123 = .ok (.iload_n 2, 1) := by decide +kernel
theorem dX5_readNumber_124 : decode cX5_readNumber 124 = .ok (.ifCond .eq 9, 3) := by decide +kernel
theorem dX5_readNumber_127 : decode cX5_readNumber 127 = .ok (.iload 4, 2) := by decide +kernel
theorem dX5_readNumber_129 : decode cX5_readNumber 129 = .ok (.ineg, 1) := by decide +kernel
theorem dX5_readNumber_130 : decode cX5_readNumber 130 = .ok (.goto 5, 3) := by decide +kernel
theorem dX5_readNumber_133 : decode cX5_readNumber 133 = .ok (.iload 4, 2) := by decide +kernel
theorem dX5_readNumber_135 : decode cX5_readNumber 135 = .ok (.istore 6, 2) := by decide +kernel
theorem dX5_readNumber_137 : decode cX5_readNumber 137 = .ok (.iload 5, 2) := by decide +kernel
theorem dX5_readNumber_139 : decode cX5_readNumber 139 = .ok (.iconst 3, 1) := by decide +kernel
theorem dX5_readNumber_140 : decode cX5_readNumber 140 = .ok (.if_icmp .gt 17, 3) := by decide +kernel
theorem dX5_readNumber_143 : decode cX5_readNumber 143 = .ok (.iload 6, 2) := by decide +kernel
theorem dX5_readNumber_145 : decode cX5_readNumber 145 = .ok (.iload_n 1, 1) := by decide +kernel
theorem dX5_readNumber_146 : decode cX5_readNumber 146 = .ok (.if_icmp .lt 11, 3) := by decide +kernel
theorem dX5_readNumber_149 : decode cX5_readNumber 149 = .ok (.iload 6, 2) := by decide +kernel
theorem dX5_readNumber_151 : decode cX5_readNumber 151 = .ok (.sipush 500, 3) := by decide +kernel
theorem dX5_readNumber_154 : decode cX5_readNumber 154 = .ok (.if_icmp .le 10, 3) := by decide +kernel
theorem dX5_readNumber_157 : decode cX5_readNumber 157 = .ok (.aload_n 0, 1) := by decide +kernel
theorem dX5_readNumber_158 : decode cX5_readNumber 158 = .ok (.iload_n 3, 1) := by decide +kernel
theorem dX5_readNumber_159 : decode cX5_readNumber 159 = .ok (.invokevirtual 46, 3) := by decide +kernel
theorem dX5_readNumber_162 : decode cX5_readNumber 162 = .ok (.iload_n 1, 1) := by decide +kernel
theorem dX5_readNumber_163 : decode cX5_readNumber 163 = .ok (.ireturn, 1) := by decide +kernel
theorem dX5_readNumber_164 : decode cX5_readNumber 164 = .ok (.iload 6, 2) := by decide +kernel
theorem dX5_readNumber_166 : decode cX5_readNumber 166 = .ok (.ireturn, 1) := by decide +kernel
theorem dX5_isFigure_0 : decode cX5_isFigure 0 = .ok (.iload_n 0, 1) := by decide +kernel
theorem dX5_isFigure_1 : decode cX5_isFigure 1 = .ok (.bipush 48, 2) := by decide +kernel
theorem dX5_isFigure_3 : decode cX5_isFigure 3 = .ok (.if_icmp .lt 13, 3) := by decide +kernel
theorem dX5_isFigure_6 : decode cX5_isFigure 6 = .ok (.iload_n 0, 1) := by decide +kernel
theorem dX5_isFigure_7 : decode cX5_isFigure 7 = .ok (.bipush 57, 2) := by decide +kernel
theorem dX5_isFigure_9 : decode cX5_isFigure 9 = .ok (.if_icmp .gt 7, 3) := by decide +kernel
theorem dX5_isFigure_12 : decode cX5_isFigure 12 = .ok (.iconst 1, 1) := by decide +kernel
theorem dX5_isFigure_13 : decode cX5_isFigure 13 = .ok (.goto 4, 3) := by decide +kernel
theorem dX5_isFigure_16 : decode cX5_isFigure 16 = .ok (.iconst 0, 1) := by decide +kernel
theorem dX5_isFigure_17 : decode cX5_isFigure 17 = .ok (.ireturn, 1) := by decide +kernel
theorem dX5_nextSign_0 : decode cX5_nextSign 0 = .ok (.aload_n 0, 1) := by decide +kernel
theorem dX5_nextSign_1 : decode cX5_nextSign 1 = .ok (.getfield 29, 3) := by decide +kernel
theorem dX5_nextSign_4 : decode cX5_nextSign 4 = .ok (.ifCond .lt 5, 3) := by decide +kernel
theorem dX5_nextSign_7 : decode cX5_nextSign 7 = .ok (.iconst (-1), 1) := by decide +kernel
theorem dX5_nextSign_8 : decode cX5_nextSign 8 = .ok (.ireturn, 1) := by decide +kernel
theorem dX5_nextSign_9 : decode cX5_nextSign 9 = .ok (.aload_n 0, 1) := by decide +kernel
theorem dX5_nextSign_10 : decode cX5_nextSign 10 = .ok (.getfield 26, 3) := by decide +kernel
theorem dX5_nextSign_13 : decode cX5_nextSign 13 = .ok (.aload_n 0, 1) := by decide +kernel
theorem dX5_nextSign_14 : decode cX5_nextSign 14 = .ok (.getfield 22, 3) := by decide +kernel
theorem dX5_nextSign_17 : decode cX5_nextSign 17 = .ok (.if_icmp .ge 30, 3) := by decide +kernel
theorem dX5_nextSign_20 : decode cX5_nextSign 20 = .ok (.aload_n 0, 1) := by decide +kernel
theorem dX5_nextSign_21 : decode cX5_nextSign 21 = .ok (.getfield 9, 3) := by decide +kernel
theorem dX5_nextSign_24 : decode cX5_nextSign 24 = .ok (.aload_n 0, 1) := by decide +kernel
theorem dX5_nextSign_25 : decode cX5_nextSign 25 = .ok (.getfield 26, 3) := by decide +kernel
theorem dX5_nextSign_28 : decode cX5_nextSign 28 = .ok (.iaload, 1) := by decide +kernel
theorem dX5_nextSign_29 : decode cX5_nextSign 29 = .ok (.bipush 32, 2) := by decide +kernel
theorem dX5_nextSign_31 : decode cX5_nextSign 31 = .ok (.if_icmp .ne 16, 3) := by decide +kernel
theorem dX5_nextSign_34 : decode cX5_nextSign 34 = .ok (.aload_n 0, 1) := by decide +kernel
theorem dX5_nextSign_35 : decode cX5_nextSign 35 = .ok (.dup, 1) := by decide +kernel
theorem dX5_nextSign_36 : decode cX5_nextSign 36 = .ok (.getfield 26, 3) := by decide +kernel
theorem dX5_nextSign_39 : decode cX5_nextSign 39 = .ok (.iconst 1, 1) := by decide +kernel
theorem dX5_nextSign_40 : decode cX5_nextSign 40 = .ok (.iadd, 1) := by decide +kernel
theorem dX5_nextSign_41 : decode cX5_nextSign 41 = .ok (.putfield 26, 3) := by decide +kernel
theorem dX5_nextSign_44 : decode cX5_nextSign 44 = .ok (.goto (-35), 3) := by decide +kernel
theorem dX5_nextSign_47 : decode cX5_nextSign 47 = .ok (.aload_n 0, 1) := by decide +kernel
theorem dX5_nextSign_48 : decode cX5_nextSign 48 = .ok (.getfield 26, 3) := by decide +kernel
theorem dX5_nextSign_51 : decode cX5_nextSign 51 = .ok (.aload_n 0, 1) := by decide +kernel
theorem dX5_nextSign_52 : decode cX5_nextSign 52 = .ok (.getfield 22, 3) := by decide +kernel
theorem dX5_nextSign_55 : decode cX5_nextSign 55 = .ok (.if_icmp .ge 15, 3) := by decide +kernel
theorem dX5_nextSign_58 : decode cX5_nextSign 58 = .ok (.aload_n 0, 1) := by decide +kernel
theorem dX5_nextSign_59 : decode cX5_nextSign 59 = .ok (.getfield 9, 3) := by decide +kernel
theorem dX5_nextSign_62 : decode cX5_nextSign 62 = .ok (.aload_n 0, 1) := by decide +kernel
theorem dX5_nextSign_63 : decode cX5_nextSign 63 = .ok (.getfield 26, 3) := by decide +kernel
theorem dX5_nextSign_66 : decode cX5_nextSign 66 = .ok (.iaload, 1) := by decide +kernel
theorem dX5_nextSign_67 : decode cX5_nextSign 67 = .ok (.goto 4, 3) := by decide +kernel
theorem dX5_nextSign_70 : decode cX5_nextSign 70 = .ok (.iconst (-1), 1) := by decide +kernel
theorem dX5_nextSign_71 : decode cX5_nextSign 71 = .ok (.ireturn, 1) := by decide +kernel
theorem dX5_expect_0 : decode cX5_expect 0 = .ok (.aload_n 0, 1) := by decide +kernel
theorem dX5_expect_1 : decode cX5_expect 1 = .ok (.invokevirtual 42, 3) := by decide +kernel
theorem dX5_expect_4 : decode cX5_expect 4 = .ok (.iload_n 1, 1) := by decide +kernel
theorem dX5_expect_5 : decode cX5_expect 5 = .ok (.if_icmp .ne 16, 3) := by decide +kernel
theorem dX5_expect_8 : decode cX5_expect 8 = .ok (.aload_n 0, 1) := by decide +kernel
theorem dX5_expect_9 : decode cX5_expect 9 = .ok (.dup, 1) := by decide +kernel
theorem dX5_expect_10 : decode cX5_expect 10 = .ok (.getfield 26, 3) := by decide +kernel
theorem dX5_expect_13 : decode cX5_expect 13 = .ok (.iconst 1, 1) := by decide +kernel
theorem dX5_expect_14 : decode cX5_expect 14 = .ok (.iadd, 1) := by decide +kernel
theorem dX5_expect_15 : decode cX5_expect 15 = .ok (.putfield 26, 3) := by decide +kernel
theorem dX5_expect_18 : decode cX5_expect 18 = .ok (.goto 11, 3) := by decide +kernel
theorem dX5_expect_21 : decode cX5_expect 21 = .ok (.aload_n 0, 1) := by decide +kernel
theorem dX5_expect_22 : decode cX5_expect 22 = .ok (.aload_n 0, 1) := by decide +kernel
theorem dX5_expect_23 : decode cX5_expect 23 = .ok (.getfield 26, 3) := by decide +kernel
theorem dX5_expect_26 : decode cX5_expect 26 = .ok (.invokevirtual 46, 3) := by decide +kernel
theorem dX5_expect_29 : decode cX5_expect 29 = .ok (.return_, 1) := by decide +kernel
theorem dX5_fail_0 : decode cX5_fail 0 = .ok (.aload_n 0, 1) := by decide +kernel
theorem dX5_fail_1 : decode cX5_fail 1 = .ok (.getfield 29, 3) := by decide +kernel
theorem dX5_fail_4 : decode cX5_fail 4 = .ok (.ifCond .ge 8, 3) := by decide +kernel
theorem dX5_fail_7 : decode cX5_fail 7 = .ok (.aload_n 0, 1) := by decide +kernel
theorem dX5_fail_8 : decode cX5_fail 8 = .ok (.iload_n 1, 1) := by decide +kernel
theorem dX5_fail_9 : decode cX5_fail 9 = .ok (.putfield 29, 3) := by decide +kernel
theorem dX5_fail_12 : decode cX5_fail 12 = .ok (.return_, 1) := by decide +kernel
theorem dX6_init_0 : decode cX6_init 0 = .ok (.aload_n 0, 1) := by decide +kernel
theorem dX6_init_1 : decode cX6_init 1 = .ok (.invokespecial 3, 3) := by decide +kernel
theorem dX6_init_4 : decode cX6_init 4 = .ok (.aload_n 0, 1) := by decide +kernel
theorem dX6_init_5 : decode cX6_init 5 = .ok (.bipush 120, 2) := by decide +kernel
theorem dX6_init_7 : decode cX6_init 7 = .ok (.newarray .int, 2) := by decide +kernel
theorem dX6_init_9 : decode cX6_init 9 = .ok (.putfield 9, 3) := by decide +kernel
theorem dX6_init_12 : decode cX6_init 12 = .ok (.aload_n 0, 1) := by decide +kernel
theorem dX6_init_13 : decode cX6_init 13 = .ok (.bipush 48, 2) := by decide +kernel
theorem dX6_init_15 : decode cX6_init 15 = .ok (.newarray .int, 2) := by decide +kernel
theorem dX6_init_17 : decode cX6_init 17 = .ok (.putfield 15, 3) := by decide +kernel
theorem dX6_init_20 : decode cX6_init 20 = .ok (.return_, 1) := by decide +kernel
theorem dX6_empty_0 : decode cX6_empty 0 = .ok (.aload_n 0, 1) := by decide +kernel
theorem dX6_empty_1 : decode cX6_empty 1 = .ok (.iconst 0, 1) := by decide +kernel
theorem dX6_empty_2 : decode cX6_empty 2 = .ok (.putfield 18, 3) := by decide +kernel
theorem dX6_empty_5 : decode cX6_empty 5 = .ok (.aload_n 0, 1) := by decide +kernel
theorem dX6_empty_6 : decode cX6_empty 6 = .ok (.iconst 0, 1) := by decide +kernel
theorem dX6_empty_7 : decode cX6_empty 7 = .ok (.putfield 22, 3) := by decide +kernel
theorem dX6_empty_10 : decode cX6_empty 10 = .ok (.return_, 1) := by decide +kernel
theorem dX6_becomeRectangle_0 : decode cX6_becomeRectangle 0 = .ok (.aload_n 0, 1) := by decide +kernel
theorem dX6_becomeRectangle_1 : decode cX6_becomeRectangle 1 = .ok (.invokevirtual 25, 3) := by decide +kernel
theorem dX6_becomeRectangle_4 : decode cX6_becomeRectangle 4 = .ok (.aload_n 0, 1) := by decide +kernel
theorem dX6_becomeRectangle_5 : decode cX6_becomeRectangle 5 = .ok (.iload_n 1, 1) := by decide +kernel
theorem dX6_becomeRectangle_6 : decode cX6_becomeRectangle 6 = .ok (.iload_n 2, 1) := by decide +kernel
theorem dX6_becomeRectangle_7 : decode cX6_becomeRectangle 7 = .ok (.iload_n 3, 1) := by decide +kernel
theorem dX6_becomeRectangle_8 : decode cX6_becomeRectangle 8 = .ok (.iload 4, 2) := by decide +kernel
theorem dX6_becomeRectangle_10 : decode cX6_becomeRectangle 10 = .ok (.invokevirtual 28, 3) := by decide +kernel
theorem dX6_becomeRectangle_13 : decode cX6_becomeRectangle 13 = .ok (.return_, 1) := by decide +kernel
theorem dX6_addRectangle_0 : decode cX6_addRectangle 0 = .ok (.aload_n 0, 1) := by decide +kernel
theorem dX6_addRectangle_1 : decode cX6_addRectangle 1 = .ok (.getfield 22, 3) := by decide +kernel
theorem dX6_addRectangle_4 : decode cX6_addRectangle 4 = .ok (.bipush 12, 2) := by decide +kernel
theorem dX6_addRectangle_6 : decode cX6_addRectangle 6 = .ok (.if_icmp .lt 4, 3) := by decide +kernel
theorem dX6_addRectangle_9 : decode cX6_addRectangle 9 = .ok (.return_, 1) := by decide +kernel
theorem dX6_addRectangle_10 : decode cX6_addRectangle 10 = .ok (.iconst 4, 1) := by decide +kernel
theorem dX6_addRectangle_11 : decode cX6_addRectangle 11 = .ok (.aload_n 0, 1) := by decide +kernel
theorem dX6_addRectangle_12 : decode cX6_addRectangle 12 = .ok (.getfield 22, 3) := by decide +kernel
theorem dX6_addRectangle_15 : decode cX6_addRectangle 15 = .ok (.imul, 1) := by decide +kernel
theorem dX6_addRectangle_16 : decode cX6_addRectangle 16 = .ok (.istore 5, 2) := by decide +kernel
theorem dX6_addRectangle_18 : decode cX6_addRectangle 18 = .ok (.aload_n 0, 1) := by decide +kernel
theorem dX6_addRectangle_19 : decode cX6_addRectangle 19 = .ok (.getfield 15, 3) := by decide +kernel
theorem dX6_addRectangle_22 : decode cX6_addRectangle 22 = .ok (.iload 5, 2) := by decide +kernel
theorem dX6_addRectangle_24 : decode cX6_addRectangle 24 = .ok (.iload_n 1, 1) := by decide +kernel
theorem dX6_addRectangle_25 : decode cX6_addRectangle 25 = .ok (.iastore, 1) := by decide +kernel
theorem dX6_addRectangle_26 : decode cX6_addRectangle 26 = .ok (.aload_n 0, 1) := by decide +kernel
theorem dX6_addRectangle_27 : decode cX6_addRectangle 27 = .ok (.getfield 15, 3) := by decide +kernel
theorem dX6_addRectangle_30 : decode cX6_addRectangle 30 = .ok (.iload 5, 2) := by decide +kernel
theorem dX6_addRectangle_32 : decode cX6_addRectangle 32 = .ok (.iconst 1, 1) := by decide +kernel
theorem dX6_addRectangle_33 : decode cX6_addRectangle 33 = .ok (.iadd, 1) := by decide +kernel
theorem dX6_addRectangle_34 : decode cX6_addRectangle 34 = .ok (.iload_n 2, 1) := by decide +kernel
theorem dX6_addRectangle_35 : decode cX6_addRectangle 35 = .ok (.iastore, 1) := by decide +kernel
theorem dX6_addRectangle_36 : decode cX6_addRectangle 36 = .ok (.aload_n 0, 1) := by decide +kernel
theorem dX6_addRectangle_37 : decode cX6_addRectangle 37 = .ok (.getfield 15, 3) := by decide +kernel
theorem dX6_addRectangle_40 : decode cX6_addRectangle 40 = .ok (.iload 5, 2) := by decide +kernel
theorem dX6_addRectangle_42 : decode cX6_addRectangle 42 = .ok (.iconst 2, 1) := by decide +kernel
theorem dX6_addRectangle_43 : decode cX6_addRectangle 43 = .ok (.iadd, 1) := by decide +kernel
theorem dX6_addRectangle_44 : decode cX6_addRectangle 44 = .ok (.iload_n 3, 1) := by decide +kernel
theorem dX6_addRectangle_45 : decode cX6_addRectangle 45 = .ok (.iastore, 1) := by decide +kernel
theorem dX6_addRectangle_46 : decode cX6_addRectangle 46 = .ok (.aload_n 0, 1) := by decide +kernel
theorem dX6_addRectangle_47 : decode cX6_addRectangle 47 = .ok (.getfield 15, 3) := by decide +kernel
theorem dX6_addRectangle_50 : decode cX6_addRectangle 50 = .ok (.iload 5, 2) := by decide +kernel
theorem dX6_addRectangle_52 : decode cX6_addRectangle 52 = .ok (.iconst 3, 1) := by decide +kernel
theorem dX6_addRectangle_53 : decode cX6_addRectangle 53 = .ok (.iadd, 1) := by decide +kernel
theorem dX6_addRectangle_54 : decode cX6_addRectangle 54 = .ok (.iload 4, 2) := by decide +kernel
theorem dX6_addRectangle_56 : decode cX6_addRectangle 56 = .ok (.iastore, 1) := by decide +kernel
theorem dX6_addRectangle_57 : decode cX6_addRectangle 57 = .ok (.aload_n 0, 1) := by decide +kernel
theorem dX6_addRectangle_58 : decode cX6_addRectangle 58 = .ok (.aload_n 0, 1) := by decide +kernel
theorem dX6_addRectangle_59 : decode cX6_addRectangle 59 = .ok (.getfield 22, 3) := by decide +kernel
theorem dX6_addRectangle_62 : decode cX6_addRectangle 62 = .ok (.invokevirtual 32, 3) := by decide +kernel
theorem dX6_addRectangle_65 : decode cX6_addRectangle 65 = .ok (.aload_n 0, 1) := by decide +kernel
theorem dX6_addRectangle_66 : decode cX6_addRectangle 66 = .ok (.dup, 1) := by decide +kernel
theorem dX6_addRectangle_67 : decode cX6_addRectangle 67 = .ok (.getfield 22, 3) := by decide +kernel
theorem dX6_addRectangle_70 : decode cX6_addRectangle 70 = .ok (.iconst 1, 1) := by decide +kernel
theorem dX6_addRectangle_71 : decode cX6_addRectangle 71 = .ok (.iadd, 1) := by decide +kernel
theorem dX6_addRectangle_72 : decode cX6_addRectangle 72 = .ok (.putfield 22, 3) := by decide +kernel
theorem dX6_addRectangle_75 : decode cX6_addRectangle 75 = .ok (.return_, 1) := by decide +kernel
theorem dX6_addStep_0 : decode cX6_addStep 0 = .ok (.aload_n 0, 1) := by decide +kernel
theorem dX6_addStep_1 : decode cX6_addStep 1 = .ok (.getfield 18, 3) := by decide +kernel
theorem dX6_addStep_4 : decode cX6_addStep 4 = .ok (.bipush 120, 2) := by decide +kernel
theorem dX6_addStep_6 : decode cX6_addStep 6 = .ok (.if_icmp .ge 23, 3) := by decide +kernel
theorem dX6_addStep_9 : decode cX6_addStep 9 = .ok (.aload_n 0, 1) := by decide +kernel
theorem dX6_addStep_10 : decode cX6_addStep 10 = .ok (.getfield 9, 3) := by decide +kernel
theorem dX6_addStep_13 : decode cX6_addStep 13 = .ok (.aload_n 0, 1) := by decide +kernel
theorem dX6_addStep_14 : decode cX6_addStep 14 = .ok (.getfield 18, 3) := by decide +kernel
theorem dX6_addStep_17 : decode cX6_addStep 17 = .ok (.iload_n 1, 1) := by decide +kernel
theorem dX6_addStep_18 : decode cX6_addStep 18 = .ok (.iastore, 1) := by decide +kernel
theorem dX6_addStep_19 : decode cX6_addStep 19 = .ok (.aload_n 0, 1) := by decide +kernel
theorem dX6_addStep_20 : decode cX6_addStep 20 = .ok (.dup, 1) := by decide +kernel
theorem dX6_addStep_21 : decode cX6_addStep 21 = .ok (.getfield 18, 3) := by decide +kernel
theorem dX6_addStep_24 : decode cX6_addStep 24 = .ok (.iconst 1, 1) := by decide +kernel
theorem dX6_addStep_25 : decode cX6_addStep 25 = .ok (.iadd, 1) := by decide +kernel
theorem dX6_addStep_26 : decode cX6_addStep 26 = .ok (.putfield 18, 3) := by decide +kernel
theorem dX6_addStep_29 : decode cX6_addStep 29 = .ok (.return_, 1) := by decide +kernel
theorem dX6_holds_0 : decode cX6_holds 0 = .ok (.iconst 0, 1) := by decide +kernel
theorem dX6_holds_1 : decode cX6_holds 1 = .ok (.istore_n 3, 1) := by decide +kernel
theorem dX6_holds_2 : decode cX6_holds 2 = .ok (.iconst 0, 1) := by decide +kernel
theorem dX6_holds_3 : decode cX6_holds 3 = .ok (.istore 4, 2) := by decide +kernel
theorem dX6_holds_5 : decode cX6_holds 5 = .ok (.iload 4, 2) := by decide +kernel
theorem dX6_holds_7 : decode cX6_holds 7 = .ok (.aload_n 0, 1) := by decide +kernel
theorem dX6_holds_8 : decode cX6_holds 8 = .ok (.getfield 18, 3) := by decide +kernel
theorem dX6_holds_11 : decode cX6_holds 11 = .ok (.if_icmp .ge 67, 3) := by decide +kernel
theorem dX6_holds_14 : decode cX6_holds 14 = .ok (.aload_n 0, 1) := by decide +kernel
theorem dX6_holds_15 : decode cX6_holds 15 = .ok (.getfield 9, 3) := by decide +kernel
theorem dX6_holds_18 : decode cX6_holds 18 = .ok (.iload 4, 2) := by decide +kernel
theorem dX6_holds_20 : decode cX6_holds 20 = .ok (.iaload, 1) := by decide +kernel
theorem dX6_holds_21 : decode cX6_holds 21 = .ok (.istore 5, 2) := by decide +kernel
theorem dX6_holds_23 : decode cX6_holds 23 = .ok (.iload 5, 2) := by decide +kernel
theorem dX6_holds_25 : decode cX6_holds 25 = .ok (.ifCond .lt 27, 3) := by decide +kernel
theorem dX6_holds_28 : decode cX6_holds 28 = .ok (.iload_n 3, 1) := by decide +kernel
theorem dX6_holds_29 : decode cX6_holds 29 = .ok (.iconst 1, 1) := by decide +kernel
theorem dX6_holds_30 : decode cX6_holds 30 = .ok (.ishl, 1) := by decide +kernel
theorem dX6_holds_31 : decode cX6_holds 31 = .ok (.aload_n 0, 1) := by decide +kernel
theorem dX6_holds_32 : decode cX6_holds 32 = .ok (.iload 5, 2) := by decide +kernel
theorem dX6_holds_34 : decode cX6_holds 34 = .ok (.iload_n 1, 1) := by decide +kernel
theorem dX6_holds_35 : decode cX6_holds 35 = .ok (.iload_n 2, 1) := by decide +kernel
theorem dX6_holds_36 : decode cX6_holds 36 = .ok (.invokevirtual 36, 3) := by decide +kernel
theorem dX6_holds_39 : decode cX6_holds 39 = .ok (.ifCond .eq 7, 3) := by decide +kernel
theorem dX6_holds_42 : decode cX6_holds 42 = .ok (.iconst 1, 1) := by decide +kernel
theorem dX6_holds_43 : decode cX6_holds 43 = .ok (.goto 4, 3) := by decide +kernel
theorem dX6_holds_46 : decode cX6_holds 46 = .ok (.iconst 0, 1) := by decide +kernel
theorem dX6_holds_47 : decode cX6_holds 47 = .ok (.ior, 1) := by decide +kernel
theorem dX6_holds_48 : decode cX6_holds 48 = .ok (.istore_n 3, 1) := by decide +kernel
theorem dX6_holds_49 : decode cX6_holds 49 = .ok (.goto 23, 3) := by decide +kernel
theorem dX6_holds_52 : decode cX6_holds 52 = .ok (.iload 5, 2) := by decide +kernel
theorem dX6_holds_54 : decode cX6_holds 54 = .ok (.iconst (-1), 1) := by decide +kernel
theorem dX6_holds_55 : decode cX6_holds 55 = .ok (.if_icmp .ne 10, 3) := by decide +kernel
theorem dX6_holds_58 : decode cX6_holds 58 = .ok (.iload_n 3, 1) := by decide +kernel
theorem dX6_holds_59 : decode cX6_holds 59 = .ok (.iconst 1, 1) := by decide +kernel
theorem dX6_holds_60 : decode cX6_holds 60 = .ok (.ixor, 1) := by decide +kernel
theorem dX6_holds_61 : decode cX6_holds 61 = .ok (.istore_n 3, 1) := by decide +kernel
theorem dX6_holds_62 : decode cX6_holds 62 = .ok (.goto 10, 3) := by decide +kernel
theorem dX6_holds_65 : decode cX6_holds 65 = .ok (.iload_n 3, 1) := by decide +kernel
theorem dX6_holds_66 : decode cX6_holds 66 = .ok (.iload 5, 2) := by decide +kernel
theorem dX6_holds_68 : decode cX6_holds 68 = .ok (.invokestatic 40, 3) := by decide +kernel
theorem dX6_holds_71 : decode cX6_holds 71 = .ok (.istore_n 3, 1) := by decide +kernel
theorem dX6_holds_72 : decode cX6_holds 72 = .ok (.iinc 4 1, 3) := by decide +kernel
theorem dX6_holds_75 : decode cX6_holds 75 = .ok (.goto (-70), 3) := by decide +kernel
theorem dX6_holds_78 : decode cX6_holds 78 = .ok (.iload_n 3, 1) := by decide +kernel
theorem dX6_holds_79 : decode cX6_holds 79 = .ok (.iconst 1, 1) := by decide +kernel
theorem dX6_holds_80 : decode cX6_holds 80 = .ok (.iand, 1) := by decide +kernel
theorem dX6_holds_81 : decode cX6_holds 81 = .ok (.iconst 1, 1) := by decide +kernel
theorem dX6_holds_82 : decode cX6_holds 82 = .ok (.if_icmp .ne 7, 3) := by decide +kernel
theorem dX6_holds_85 : decode cX6_holds 85 = .ok (.iconst 1, 1) := by decide +kernel
theorem dX6_holds_86 : decode cX6_holds 86 = .ok (.goto 4, 3) := by decide +kernel
theorem dX6_holds_89 : decode cX6_holds 89 = .ok (.iconst 0, 1) := by decide +kernel
theorem dX6_holds_90 : decode cX6_holds 90 = .ok (.ireturn, 1) := by decide +kernel
theorem dX6_join_0 : decode cX6_join 0 = .ok (.iload_n 0, 1) := by decide +kernel
theorem dX6_join_1 : decode cX6_join 1 = .ok (.iconst 1, 1) := by decide +kernel
theorem dX6_join_2 : decode cX6_join 2 = .ok (.iand, 1) := by decide +kernel
theorem dX6_join_3 : decode cX6_join 3 = .ok (.istore_n 2, 1) := by decide +kernel
theorem dX6_join_4 : decode cX6_join 4 = .ok (.iload_n 0, 1) := by decide +kernel
theorem dX6_join_5 : decode cX6_join 5 = .ok (.iconst 1, 1) := by decide +kernel
theorem dX6_join_6 : decode cX6_join 6 = .ok (.ishr, 1) := by decide +kernel
theorem dX6_join_7 : decode cX6_join 7 = .ok (.istore_n 3, 1) := by decide +kernel
theorem dX6_join_8 : decode cX6_join 8 = .ok (.iload_n 1, 1) := by decide +kernel
theorem dX6_join_9 : decode cX6_join 9 = .ok (.bipush (-2), 2) := by decide +kernel
theorem dX6_join_11 : decode cX6_join 11 = .ok (.if_icmp .ne 10, 3) := by decide +kernel
theorem dX6_join_14 : decode cX6_join 14 = .ok (.iload_n 3, 1) := by decide +kernel
theorem dX6_join_15 : decode cX6_join 15 = .ok (.iload_n 2, 1) := by decide +kernel
theorem dX6_join_16 : decode cX6_join 16 = .ok (.bipush (-2), 2) := by decide +kernel
theorem dX6_join_18 : decode cX6_join 18 = .ok (.ior, 1) := by decide +kernel
theorem dX6_join_19 : decode cX6_join 19 = .ok (.iand, 1) := by decide +kernel
theorem dX6_join_20 : decode cX6_join 20 = .ok (.ireturn, 1) := by decide +kernel
theorem dX6_join_21 : decode cX6_join 21 = .ok (.iload_n 1, 1) := by decide +kernel
theorem dX6_join_22 : decode cX6_join 22 = .ok (.bipush (-3), 2) := by decide +kernel
theorem dX6_join_24 : decode cX6_join 24 = .ok (.if_icmp .ne 7, 3) := by decide +kernel
theorem dX6_join_27 : decode cX6_join 27 = .ok (.iload_n 3, 1) := by decide +kernel
theorem dX6_join_28 : decode cX6_join 28 = .ok (.iload_n 2, 1) := by decide +kernel
theorem dX6_join_29 : decode cX6_join 29 = .ok (.ior, 1) := by decide +kernel
theorem dX6_join_30 : decode cX6_join 30 = .ok (.ireturn, 1) := by decide +kernel
theorem dX6_join_31 : decode cX6_join 31 = .ok (.iload_n 3, 1) := by decide +kernel
theorem dX6_join_32 : decode cX6_join 32 = .ok (.iload_n 2, 1) := by decide +kernel
theorem dX6_join_33 : decode cX6_join 33 = .ok (.iconst (-1), 1) := by decide +kernel
theorem dX6_join_34 : decode cX6_join 34 = .ok (.ixor, 1) := by decide +kernel
theorem dX6_join_35 : decode cX6_join 35 = .ok (.iand, 1) := by decide +kernel
theorem dX6_join_36 : decode cX6_join 36 = .ok (.ireturn, 1) := by decide +kernel
theorem dX6_inRectangle_0 : decode cX6_inRectangle 0 = .ok (.iload_n 1, 1) := by decide +kernel
theorem dX6_inRectangle_1 : decode cX6_inRectangle 1 = .ok (.aload_n 0, 1) := by decide +kernel
theorem dX6_inRectangle_2 : decode cX6_inRectangle 2 = .ok (.getfield 22, 3) := by decide +kernel
theorem dX6_inRectangle_5 : decode cX6_inRectangle 5 = .ok (.if_icmp .lt 5, 3) := by decide +kernel
theorem dX6_inRectangle_8 : decode cX6_inRectangle 8 = .ok (.iconst 0, 1) := by decide +kernel
theorem dX6_inRectangle_9 : decode cX6_inRectangle 9 = .ok (.ireturn, 1) := by decide +kernel
theorem dX6_inRectangle_10 : decode cX6_inRectangle 10 = .ok (.iconst 4, 1) := by decide +kernel
theorem dX6_inRectangle_11 : decode cX6_inRectangle 11 = .ok (.iload_n 1, 1) := by decide +kernel
theorem dX6_inRectangle_12 : decode cX6_inRectangle 12 = .ok (.imul, 1) := by decide +kernel
theorem dX6_inRectangle_13 : decode cX6_inRectangle 13 = .ok (.istore 4, 2) := by decide +kernel
theorem dX6_inRectangle_15 : decode cX6_inRectangle 15 = .ok (.iload_n 2, 1) := by decide +kernel
theorem dX6_inRectangle_16 : decode cX6_inRectangle 16 = .ok (.aload_n 0, 1) := by decide +kernel
theorem dX6_inRectangle_17 : decode cX6_inRectangle 17 = .ok (.getfield 15, 3) := by decide +kernel
theorem dX6_inRectangle_20 : decode cX6_inRectangle 20 = .ok (.iload 4, 2) := by decide +kernel
theorem dX6_inRectangle_22 : decode cX6_inRectangle 22 = .ok (.iaload, 1) := by decide +kernel
theorem dX6_inRectangle_23 : decode cX6_inRectangle 23 = .ok (.if_icmp .lt 46, 3) := by decide +kernel
theorem dX6_inRectangle_26 : decode cX6_inRectangle 26 = .ok (.iload_n 2, 1) := by decide +kernel
theorem dX6_inRectangle_27 : decode cX6_inRectangle 27 = .ok (.aload_n 0, 1) := by decide +kernel
theorem dX6_inRectangle_28 : decode cX6_inRectangle 28 = .ok (.getfield 15, 3) := by decide +kernel
theorem dX6_inRectangle_31 : decode cX6_inRectangle 31 = .ok (.iload 4, 2) := by decide +kernel
theorem dX6_inRectangle_33 : decode cX6_inRectangle 33 = .ok (.iconst 1, 1) := by decide +kernel
theorem dX6_inRectangle_34 : decode cX6_inRectangle 34 = .ok (.iadd, 1) := by decide +kernel
theorem dX6_inRectangle_35 : decode cX6_inRectangle 35 = .ok (.iaload, 1) := by decide +kernel
theorem dX6_inRectangle_36 : decode cX6_inRectangle 36 = .ok (.if_icmp .gt 33, 3) := by decide +kernel
theorem dX6_inRectangle_39 : decode cX6_inRectangle 39 = .ok (.iload_n 3, 1) := by decide +kernel
theorem dX6_inRectangle_40 : decode cX6_inRectangle 40 = .ok (.aload_n 0, 1) := by decide +kernel
theorem dX6_inRectangle_41 : decode cX6_inRectangle 41 = .ok (.getfield 15, 3) := by decide +kernel
theorem dX6_inRectangle_44 : decode cX6_inRectangle 44 = .ok (.iload 4, 2) := by decide +kernel
theorem dX6_inRectangle_46 : decode cX6_inRectangle 46 = .ok (.iconst 2, 1) := by decide +kernel
theorem dX6_inRectangle_47 : decode cX6_inRectangle 47 = .ok (.iadd, 1) := by decide +kernel
theorem dX6_inRectangle_48 : decode cX6_inRectangle 48 = .ok (.iaload, 1) := by decide +kernel
theorem dX6_inRectangle_49 : decode cX6_inRectangle 49 = .ok (.if_icmp .lt 20, 3) := by decide +kernel
theorem dX6_inRectangle_52 : decode cX6_inRectangle 52 = .ok (.iload_n 3, 1) := by decide +kernel
theorem dX6_inRectangle_53 : decode cX6_inRectangle 53 = .ok (.aload_n 0, 1) := by decide +kernel
theorem dX6_inRectangle_54 : decode cX6_inRectangle 54 = .ok (.getfield 15, 3) := by decide +kernel
theorem dX6_inRectangle_57 : decode cX6_inRectangle 57 = .ok (.iload 4, 2) := by decide +kernel
theorem dX6_inRectangle_59 : decode cX6_inRectangle 59 = .ok (.iconst 3, 1) := by decide +kernel
theorem dX6_inRectangle_60 : decode cX6_inRectangle 60 = .ok (.iadd, 1) := by decide +kernel
theorem dX6_inRectangle_61 : decode cX6_inRectangle 61 = .ok (.iaload, 1) := by decide +kernel
theorem dX6_inRectangle_62 : decode cX6_inRectangle 62 = .ok (.if_icmp .gt 7, 3) := by decide +kernel
theorem dX6_inRectangle_65 : decode cX6_inRectangle 65 = .ok (.iconst 1, 1) := by decide +kernel
theorem dX6_inRectangle_66 : decode cX6_inRectangle 66 = .ok (.goto 4, 3) := by decide +kernel
theorem dX6_inRectangle_69 : decode cX6_inRectangle 69 = .ok (.iconst 0, 1) := by decide +kernel
theorem dX6_inRectangle_70 : decode cX6_inRectangle 70 = .ok (.ireturn, 1) := by decide +kernel
theorem dX6_copyFrom_0 : decode cX6_copyFrom 0 = .ok (.aload_n 1, 1) := by decide +kernel
theorem dX6_copyFrom_1 : decode cX6_copyFrom 1 = .ok (.getfield 9, 3) := by decide +kernel
theorem dX6_copyFrom_4 : decode cX6_copyFrom 4 = .ok (.iconst 0, 1) := by decide +kernel
theorem dX6_copyFrom_5 : decode cX6_copyFrom 5 = .ok (.aload_n 0, 1) := by decide +kernel
theorem dX6_copyFrom_6 : decode cX6_copyFrom 6 = .ok (.getfield 9, 3) := by decide +kernel
theorem dX6_copyFrom_9 : decode cX6_copyFrom 9 = .ok (.iconst 0, 1) := by decide +kernel
theorem dX6_copyFrom_10 : decode cX6_copyFrom 10 = .ok (.aload_n 1, 1) := by decide +kernel
theorem dX6_copyFrom_11 : decode cX6_copyFrom 11 = .ok (.getfield 18, 3) := by decide +kernel
theorem dX6_copyFrom_14 : decode cX6_copyFrom 14 = .ok (.invokestatic 44, 3) := by decide +kernel
theorem dX6_copyFrom_17 : decode cX6_copyFrom 17 = .ok (.aload_n 1, 1) := by decide +kernel
theorem dX6_copyFrom_18 : decode cX6_copyFrom 18 = .ok (.getfield 15, 3) := by decide +kernel
theorem dX6_copyFrom_21 : decode cX6_copyFrom 21 = .ok (.iconst 0, 1) := by decide +kernel
theorem dX6_copyFrom_22 : decode cX6_copyFrom 22 = .ok (.aload_n 0, 1) := by decide +kernel
theorem dX6_copyFrom_23 : decode cX6_copyFrom 23 = .ok (.getfield 15, 3) := by decide +kernel
theorem dX6_copyFrom_26 : decode cX6_copyFrom 26 = .ok (.iconst 0, 1) := by decide +kernel
theorem dX6_copyFrom_27 : decode cX6_copyFrom 27 = .ok (.iconst 4, 1) := by decide +kernel
theorem dX6_copyFrom_28 : decode cX6_copyFrom 28 = .ok (.aload_n 1, 1) := by decide +kernel
theorem dX6_copyFrom_29 : decode cX6_copyFrom 29 = .ok (.getfield 22, 3) := by decide +kernel
theorem dX6_copyFrom_32 : decode cX6_copyFrom 32 = .ok (.imul, 1) := by decide +kernel
theorem dX6_copyFrom_33 : decode cX6_copyFrom 33 = .ok (.invokestatic 44, 3) := by decide +kernel
theorem dX6_copyFrom_36 : decode cX6_copyFrom 36 = .ok (.aload_n 0, 1) := by decide +kernel
theorem dX6_copyFrom_37 : decode cX6_copyFrom 37 = .ok (.aload_n 1, 1) := by decide +kernel
theorem dX6_copyFrom_38 : decode cX6_copyFrom 38 = .ok (.getfield 18, 3) := by decide +kernel
theorem dX6_copyFrom_41 : decode cX6_copyFrom 41 = .ok (.putfield 18, 3) := by decide +kernel
theorem dX6_copyFrom_44 : decode cX6_copyFrom 44 = .ok (.aload_n 0, 1) := by decide +kernel
theorem dX6_copyFrom_45 : decode cX6_copyFrom 45 = .ok (.aload_n 1, 1) := by decide +kernel
theorem dX6_copyFrom_46 : decode cX6_copyFrom 46 = .ok (.getfield 22, 3) := by decide +kernel
theorem dX6_copyFrom_49 : decode cX6_copyFrom 49 = .ok (.putfield 22, 3) := by decide +kernel
theorem dX6_copyFrom_52 : decode cX6_copyFrom 52 = .ok (.return_, 1) := by decide +kernel
theorem dX7_init_0 : decode cX7_init 0 = .ok (.aload_n 0, 1) := by decide +kernel
theorem dX7_init_1 : decode cX7_init 1 = .ok (.invokespecial 1, 3) := by decide +kernel
theorem dX7_init_4 : decode cX7_init 4 = .ok (.aload_n 0, 1) := by decide +kernel
theorem dX7_init_5 : decode cX7_init 5 = .ok (.new 7, 3) := by decide +kernel
theorem dX7_init_8 : decode cX7_init 8 = .ok (.dup, 1) := by decide +kernel
theorem dX7_init_9 : decode cX7_init 9 = .ok (.invokespecial 9, 3) := by decide +kernel
theorem dX7_init_12 : decode cX7_init 12 = .ok (.putfield 10, 3) := by decide +kernel
theorem dX7_init_15 : decode cX7_init 15 = .ok (.aload_n 0, 1) := by decide +kernel
theorem dX7_init_16 : decode cX7_init 16 = .ok (.new 16, 3) := by decide +kernel
theorem dX7_init_19 : decode cX7_init 19 = .ok (.dup, 1) := by decide +kernel
theorem dX7_init_20 : decode cX7_init 20 = .ok (.invokespecial 18, 3) := by decide +kernel
theorem dX7_init_23 : decode cX7_init 23 = .ok (.putfield 19, 3) := by decide +kernel
theorem dX7_init_26 : decode cX7_init 26 = .ok (.aload_n 0, 1) := by decide +kernel
theorem dX7_init_27 : decode cX7_init 27 = .ok (.new 23, 3) := by decide +kernel
theorem dX7_init_30 : decode cX7_init 30 = .ok (.dup, 1) := by decide +kernel
theorem dX7_init_31 : decode cX7_init 31 = .ok (.invokespecial 25, 3) := by decide +kernel
theorem dX7_init_34 : decode cX7_init 34 = .ok (.putfield 26, 3) := by decide +kernel
theorem dX7_init_37 : decode cX7_init 37 = .ok (.aload_n 0, 1) := by decide +kernel
theorem dX7_init_38 : decode cX7_init 38 = .ok (.new 23, 3) := by decide +kernel
theorem dX7_init_41 : decode cX7_init 41 = .ok (.dup, 1) := by decide +kernel
theorem dX7_init_42 : decode cX7_init 42 = .ok (.invokespecial 25, 3) := by decide +kernel
theorem dX7_init_45 : decode cX7_init 45 = .ok (.putfield 30, 3) := by decide +kernel
theorem dX7_init_48 : decode cX7_init 48 = .ok (.aload_n 0, 1) := by decide +kernel
theorem dX7_init_49 : decode cX7_init 49 = .ok (.new 33, 3) := by decide +kernel
theorem dX7_init_52 : decode cX7_init 52 = .ok (.dup, 1) := by decide +kernel
theorem dX7_init_53 : decode cX7_init 53 = .ok (.invokespecial 35, 3) := by decide +kernel
theorem dX7_init_56 : decode cX7_init 56 = .ok (.putfield 36, 3) := by decide +kernel
theorem dX7_init_59 : decode cX7_init 59 = .ok (.aload_n 0, 1) := by decide +kernel
theorem dX7_init_60 : decode cX7_init 60 = .ok (.new 33, 3) := by decide +kernel
theorem dX7_init_63 : decode cX7_init 63 = .ok (.dup, 1) := by decide +kernel
theorem dX7_init_64 : decode cX7_init 64 = .ok (.invokespecial 35, 3) := by decide +kernel
theorem dX7_init_67 : decode cX7_init 67 = .ok (.putfield 40, 3) := by decide +kernel
theorem dX7_init_70 : decode cX7_init 70 = .ok (.aload_n 0, 1) := by decide +kernel
theorem dX7_init_71 : decode cX7_init 71 = .ok (.new 43, 3) := by decide +kernel
theorem dX7_init_74 : decode cX7_init 74 = .ok (.dup, 1) := by decide +kernel
theorem dX7_init_75 : decode cX7_init 75 = .ok (.invokespecial 45, 3) := by decide +kernel
theorem dX7_init_78 : decode cX7_init 78 = .ok (.putfield 46, 3) := by decide +kernel
theorem dX7_init_81 : decode cX7_init 81 = .ok (.aload_n 0, 1) := by decide +kernel
theorem dX7_init_82 : decode cX7_init 82 = .ok (.new 50, 3) := by decide +kernel
theorem dX7_init_85 : decode cX7_init 85 = .ok (.dup, 1) := by decide +kernel
theorem dX7_init_86 : decode cX7_init 86 = .ok (.invokespecial 52, 3) := by decide +kernel
theorem dX7_init_89 : decode cX7_init 89 = .ok (.putfield 53, 3) := by decide +kernel
theorem dX7_init_92 : decode cX7_init 92 = .ok (.aload_n 0, 1) := by decide +kernel
theorem dX7_init_93 : decode cX7_init 93 = .ok (.iconst 2, 1) := by decide +kernel
theorem dX7_init_94 : decode cX7_init 94 = .ok (.anewarray 57, 3) := by decide +kernel
theorem dX7_init_97 : decode cX7_init 97 = .ok (.putfield 59, 3) := by decide +kernel
theorem dX7_init_100 : decode cX7_init 100 = .ok (.iconst 0, 1) := by decide +kernel
theorem dX7_init_101 : decode cX7_init 101 = .ok (.istore_n 1, 1) := by decide +kernel
theorem dX7_init_102 : decode cX7_init 102 = .ok (.iload_n 1, 1) := by decide +kernel
theorem dX7_init_103 : decode cX7_init 103 = .ok (.iconst 2, 1) := by decide +kernel
theorem dX7_init_104 : decode cX7_init 104 = .ok (.if_icmp .ge 22, 3) := by decide +kernel
theorem dX7_init_107 : decode cX7_init 107 = .ok (.aload_n 0, 1) := by decide +kernel
theorem dX7_init_108 : decode cX7_init 108 = .ok (.getfield 59, 3) := by decide +kernel
theorem dX7_init_111 : decode cX7_init 111 = .ok (.iload_n 1, 1) := by decide +kernel
theorem dX7_init_112 : decode cX7_init 112 = .ok (.new 57, 3) := by decide +kernel
theorem dX7_init_115 : decode cX7_init 115 = .ok (.dup, 1) := by decide +kernel
theorem dX7_init_116 : decode cX7_init 116 = .ok (.invokespecial 63, 3) := by decide +kernel
theorem dX7_init_119 : decode cX7_init 119 = .ok (.aastore, 1) := by decide +kernel
theorem dX7_init_120 : decode cX7_init 120 = .ok (.iinc 1 1, 3) := by decide +kernel
theorem dX7_init_123 : decode cX7_init 123 = .ok (.goto (-21), 3) := by decide +kernel
theorem dX7_init_126 : decode cX7_init 126 = .ok (.return_, 1) := by decide +kernel
theorem dX7_put_0 : decode cX7_put 0 = .ok (.iload_n 1, 1) := by decide +kernel
theorem dX7_put_1 : decode cX7_put 1 = .ok (.iload_n 2, 1) := by decide +kernel
theorem dX7_put_2 : decode cX7_put 2 = .ok (.invokestatic 64, 3) := by decide +kernel
theorem dX7_put_5 : decode cX7_put 5 = .ok (.ifCond .eq 14, 3) := by decide +kernel
theorem dX7_put_8 : decode cX7_put 8 = .ok (.iload_n 3, 1) := by decide +kernel
theorem dX7_put_9 : decode cX7_put 9 = .ok (.iconst 1, 1) := by decide +kernel
theorem dX7_put_10 : decode cX7_put 10 = .ok (.if_icmp .lt 9, 3) := by decide +kernel
theorem dX7_put_13 : decode cX7_put 13 = .ok (.iload_n 3, 1) := by decide +kernel
theorem dX7_put_14 : decode cX7_put 14 = .ok (.bipush 100, 2) := by decide +kernel
theorem dX7_put_16 : decode cX7_put 16 = .ok (.if_icmp .le 10, 3) := by decide +kernel
theorem dX7_put_19 : decode cX7_put 19 = .ok (.aload_n 0, 1) := by decide +kernel
theorem dX7_put_20 : decode cX7_put 20 = .ok (.ldc 68, 2) := by decide +kernel
theorem dX7_put_22 : decode cX7_put 22 = .ok (.invokevirtual 69, 3) := by decide +kernel
theorem dX7_put_25 : decode cX7_put 25 = .ok (.ireturn, 1) := by decide +kernel
theorem dX7_put_26 : decode cX7_put 26 = .ok (.aload_n 0, 1) := by decide +kernel
theorem dX7_put_27 : decode cX7_put 27 = .ok (.getfield 10, 3) := by decide +kernel
theorem dX7_put_30 : decode cX7_put 30 = .ok (.invokevirtual 73, 3) := by decide +kernel
theorem dX7_put_33 : decode cX7_put 33 = .ok (.bipush 60, 2) := by decide +kernel
theorem dX7_put_35 : decode cX7_put 35 = .ok (.if_icmp .ge 14, 3) := by decide +kernel
theorem dX7_put_38 : decode cX7_put 38 = .ok (.aload_n 0, 1) := by decide +kernel
theorem dX7_put_39 : decode cX7_put 39 = .ok (.getfield 10, 3) := by decide +kernel
theorem dX7_put_42 : decode cX7_put 42 = .ok (.iconst 1, 1) := by decide +kernel
theorem dX7_put_43 : decode cX7_put 43 = .ok (.invokevirtual 77, 3) := by decide +kernel
theorem dX7_put_46 : decode cX7_put 46 = .ok (.ifCond .ne 10, 3) := by decide +kernel
theorem dX7_put_49 : decode cX7_put 49 = .ok (.aload_n 0, 1) := by decide +kernel
theorem dX7_put_50 : decode cX7_put 50 = .ok (.ldc 81, 2) := by decide +kernel
theorem dX7_put_52 : decode cX7_put 52 = .ok (.invokevirtual 69, 3) := by decide +kernel
theorem dX7_put_55 : decode cX7_put 55 = .ok (.ireturn, 1) := by decide +kernel
theorem dX7_put_56 : decode cX7_put 56 = .ok (.aload_n 0, 1) := by decide +kernel
theorem dX7_put_57 : decode cX7_put 57 = .ok (.getfield 19, 3) := by decide +kernel
theorem dX7_put_60 : decode cX7_put 60 = .ok (.aload_n 0, 1) := by decide +kernel
theorem dX7_put_61 : decode cX7_put 61 = .ok (.getfield 10, 3) := by decide +kernel
theorem dX7_put_64 : decode cX7_put 64 = .ok (.invokevirtual 82, 3) := by decide +kernel
theorem dX7_put_67 : decode cX7_put 67 = .ok (.aload_n 0, 1) := by decide +kernel
theorem dX7_put_68 : decode cX7_put 68 = .ok (.getfield 10, 3) := by decide +kernel
theorem dX7_put_71 : decode cX7_put 71 = .ok (.iload_n 1, 1) := by decide +kernel
theorem dX7_put_72 : decode cX7_put 72 = .ok (.iload_n 2, 1) := by decide +kernel
theorem dX7_put_73 : decode cX7_put 73 = .ok (.iload_n 3, 1) := by decide +kernel
theorem dX7_put_74 : decode cX7_put 74 = .ok (.invokevirtual 86, 3) := by decide +kernel
theorem dX7_put_77 : decode cX7_put 77 = .ok (.ireturn, 1) := by decide +kernel
theorem dX7_take_0 : decode cX7_take 0 = .ok (.aload_n 0, 1) := by decide +kernel
theorem dX7_take_1 : decode cX7_take 1 = .ok (.getfield 10, 3) := by decide +kernel
theorem dX7_take_4 : decode cX7_take 4 = .ok (.iload_n 1, 1) := by decide +kernel
theorem dX7_take_5 : decode cX7_take 5 = .ok (.invokevirtual 90, 3) := by decide +kernel
theorem dX7_take_8 : decode cX7_take 8 = .ok (.istore_n 2, 1) := by decide +kernel
theorem dX7_take_9 : decode cX7_take 9 = .ok (.iload_n 2, 1) := by decide +kernel
theorem dX7_take_10 : decode cX7_take 10 = .ok (.ifCond .ge 10, 3) := by decide +kernel
theorem dX7_take_13 : decode cX7_take 13 = .ok (.aload_n 0, 1) := by decide +kernel
theorem dX7_take_14 : decode cX7_take 14 = .ok (.ldc 68, 2) := by decide +kernel
theorem dX7_take_16 : decode cX7_take 16 = .ok (.invokevirtual 69, 3) := by decide +kernel
theorem dX7_take_19 : decode cX7_take 19 = .ok (.ireturn, 1) := by decide +kernel
theorem dX7_take_20 : decode cX7_take 20 = .ok (.aload_n 0, 1) := by decide +kernel
theorem dX7_take_21 : decode cX7_take 21 = .ok (.getfield 19, 3) := by decide +kernel
theorem dX7_take_24 : decode cX7_take 24 = .ok (.aload_n 0, 1) := by decide +kernel
theorem dX7_take_25 : decode cX7_take 25 = .ok (.getfield 10, 3) := by decide +kernel
theorem dX7_take_28 : decode cX7_take 28 = .ok (.invokevirtual 82, 3) := by decide +kernel
theorem dX7_take_31 : decode cX7_take 31 = .ok (.aload_n 0, 1) := by decide +kernel
theorem dX7_take_32 : decode cX7_take 32 = .ok (.getfield 10, 3) := by decide +kernel
theorem dX7_take_35 : decode cX7_take 35 = .ok (.iload_n 2, 1) := by decide +kernel
theorem dX7_take_36 : decode cX7_take 36 = .ok (.invokevirtual 93, 3) := by decide +kernel
theorem dX7_take_39 : decode cX7_take 39 = .ok (.ireturn, 1) := by decide +kernel
theorem dX7_move_0 : decode cX7_move 0 = .ok (.aload_n 0, 1) := by decide +kernel
theorem dX7_move_1 : decode cX7_move 1 = .ok (.getfield 10, 3) := by decide +kernel
theorem dX7_move_4 : decode cX7_move 4 = .ok (.iload_n 1, 1) := by decide +kernel
theorem dX7_move_5 : decode cX7_move 5 = .ok (.invokevirtual 90, 3) := by decide +kernel
theorem dX7_move_8 : decode cX7_move 8 = .ok (.istore 4, 2) := by decide +kernel
theorem dX7_move_10 : decode cX7_move 10 = .ok (.iload 4, 2) := by decide +kernel
theorem dX7_move_12 : decode cX7_move 12 = .ok (.ifCond .lt 11, 3) := by decide +kernel
theorem dX7_move_15 : decode cX7_move 15 = .ok (.iload_n 2, 1) := by decide +kernel
theorem dX7_move_16 : decode cX7_move 16 = .ok (.iload_n 3, 1) := by decide +kernel
theorem dX7_move_17 : decode cX7_move 17 = .ok (.invokestatic 64, 3) := by decide +kernel
theorem dX7_move_20 : decode cX7_move 20 = .ok (.ifCond .ne 10, 3) := by decide +kernel
theorem dX7_move_23 : decode cX7_move 23 = .ok (.aload_n 0, 1) := by decide +kernel
theorem dX7_move_24 : decode cX7_move 24 = .ok (.ldc 68, 2) := by decide +kernel
theorem dX7_move_26 : decode cX7_move 26 = .ok (.invokevirtual 69, 3) := by decide +kernel
theorem dX7_move_29 : decode cX7_move 29 = .ok (.ireturn, 1) := by decide +kernel
theorem dX7_move_30 : decode cX7_move 30 = .ok (.aload_n 0, 1) := by decide +kernel
theorem dX7_move_31 : decode cX7_move 31 = .ok (.getfield 10, 3) := by decide +kernel
theorem dX7_move_34 : decode cX7_move 34 = .ok (.iconst 1, 1) := by decide +kernel
theorem dX7_move_35 : decode cX7_move 35 = .ok (.invokevirtual 77, 3) := by decide +kernel
theorem dX7_move_38 : decode cX7_move 38 = .ok (.ifCond .ne 10, 3) := by decide +kernel
theorem dX7_move_41 : decode cX7_move 41 = .ok (.aload_n 0, 1) := by decide +kernel
theorem dX7_move_42 : decode cX7_move 42 = .ok (.ldc 81, 2) := by decide +kernel
theorem dX7_move_44 : decode cX7_move 44 = .ok (.invokevirtual 69, 3) := by decide +kernel
theorem dX7_move_47 : decode cX7_move 47 = .ok (.ireturn, 1) := by decide +kernel
theorem dX7_move_48 : decode cX7_move 48 = .ok (.aload_n 0, 1) := by decide +kernel
theorem dX7_move_49 : decode cX7_move 49 = .ok (.getfield 19, 3) := by decide +kernel
theorem dX7_move_52 : decode cX7_move 52 = .ok (.aload_n 0, 1) := by decide +kernel
theorem dX7_move_53 : decode cX7_move 53 = .ok (.getfield 10, 3) := by decide +kernel
theorem dX7_move_56 : decode cX7_move 56 = .ok (.invokevirtual 82, 3) := by decide +kernel
theorem dX7_move_59 : decode cX7_move 59 = .ok (.aload_n 0, 1) := by decide +kernel
theorem dX7_move_60 : decode cX7_move 60 = .ok (.getfield 10, 3) := by decide +kernel
theorem dX7_move_63 : decode cX7_move 63 = .ok (.iload 4, 2) := by decide +kernel
theorem dX7_move_65 : decode cX7_move 65 = .ok (.invokevirtual 93, 3) := by decide +kernel
theorem dX7_move_68 : decode cX7_move 68 = .ok (.istore 5, 2) := by decide +kernel
theorem dX7_move_70 : decode cX7_move 70 = .ok (.aload_n 0, 1) := by decide +kernel
theorem dX7_move_71 : decode cX7_move 71 = .ok (.getfield 10, 3) := by decide +kernel
theorem dX7_move_74 : decode cX7_move 74 = .ok (.iload_n 2, 1) := by decide +kernel
theorem dX7_move_75 : decode cX7_move 75 = .ok (.iload_n 3, 1) := by decide +kernel
theorem dX7_move_76 : decode cX7_move 76 = .ok (.iload 5, 2) := by decide +kernel
theorem dX7_move_78 : decode cX7_move 78 = .ok (.invokevirtual 86, 3) := by decide +kernel
theorem dX7_move_81 : decode cX7_move 81 = .ok (.ireturn, 1) := by decide +kernel
theorem dX7_scatter_0 : decode cX7_scatter 0 = .ok (.iload_n 1, 1) := by decide +kernel
theorem dX7_scatter_1 : decode cX7_scatter 1 = .ok (.ifCond .lt 20, 3) := by decide +kernel
theorem dX7_scatter_4 : decode cX7_scatter 4 = .ok (.iload_n 1, 1) := by decide +kernel
theorem dX7_scatter_5 : decode cX7_scatter 5 = .ok (.ldc 96, 2) := by decide +kernel
theorem dX7_scatter_7 : decode cX7_scatter 7 = .ok (.if_icmp .gt 14, 3) := by decide +kernel
theorem dX7_scatter_10 : decode cX7_scatter 10 = .ok (.iload_n 2, 1) := by decide +kernel
theorem dX7_scatter_11 : decode cX7_scatter 11 = .ok (.iconst 1, 1) := by decide +kernel
theorem dX7_scatter_12 : decode cX7_scatter 12 = .ok (.if_icmp .lt 9, 3) := by decide +kernel
theorem dX7_scatter_15 : decode cX7_scatter 15 = .ok (.iload_n 2, 1) := by decide +kernel
theorem dX7_scatter_16 : decode cX7_scatter 16 = .ok (.bipush 30, 2) := by decide +kernel
theorem dX7_scatter_18 : decode cX7_scatter 18 = .ok (.if_icmp .le 10, 3) := by decide +kernel
theorem dX7_scatter_21 : decode cX7_scatter 21 = .ok (.aload_n 0, 1) := by decide +kernel
theorem dX7_scatter_22 : decode cX7_scatter 22 = .ok (.ldc 68, 2) := by decide +kernel
theorem dX7_scatter_24 : decode cX7_scatter 24 = .ok (.invokevirtual 69, 3) := by decide +kernel
theorem dX7_scatter_27 : decode cX7_scatter 27 = .ok (.ireturn, 1) := by decide +kernel
theorem dX7_scatter_28 : decode cX7_scatter 28 = .ok (.aload_n 0, 1) := by decide +kernel
theorem dX7_scatter_29 : decode cX7_scatter 29 = .ok (.getfield 10, 3) := by decide +kernel
theorem dX7_scatter_32 : decode cX7_scatter 32 = .ok (.invokevirtual 73, 3) := by decide +kernel
theorem dX7_scatter_35 : decode cX7_scatter 35 = .ok (.iload_n 2, 1) := by decide +kernel
theorem dX7_scatter_36 : decode cX7_scatter 36 = .ok (.iadd, 1) := by decide +kernel
theorem dX7_scatter_37 : decode cX7_scatter 37 = .ok (.bipush 60, 2) := by decide +kernel
theorem dX7_scatter_39 : decode cX7_scatter 39 = .ok (.if_icmp .gt 14, 3) := by decide +kernel
theorem dX7_scatter_42 : decode cX7_scatter 42 = .ok (.aload_n 0, 1) := by decide +kernel
theorem dX7_scatter_43 : decode cX7_scatter 43 = .ok (.getfield 10, 3) := by decide +kernel
theorem dX7_scatter_46 : decode cX7_scatter 46 = .ok (.iload_n 2, 1) := by decide +kernel
theorem dX7_scatter_47 : decode cX7_scatter 47 = .ok (.invokevirtual 77, 3) := by decide +kernel
theorem dX7_scatter_50 : decode cX7_scatter 50 = .ok (.ifCond .ne 10, 3) := by decide +kernel
theorem dX7_scatter_53 : decode cX7_scatter 53 = .ok (.aload_n 0, 1) := by decide +kernel
theorem dX7_scatter_54 : decode cX7_scatter 54 = .ok (.ldc 81, 2) := by decide +kernel
theorem dX7_scatter_56 : decode cX7_scatter 56 = .ok (.invokevirtual 69, 3) := by decide +kernel
theorem dX7_scatter_59 : decode cX7_scatter 59 = .ok (.ireturn, 1) := by decide +kernel
theorem dX7_scatter_60 : decode cX7_scatter 60 = .ok (.aload_n 0, 1) := by decide +kernel
theorem dX7_scatter_61 : decode cX7_scatter 61 = .ok (.getfield 19, 3) := by decide +kernel
theorem dX7_scatter_64 : decode cX7_scatter 64 = .ok (.aload_n 0, 1) := by decide +kernel
theorem dX7_scatter_65 : decode cX7_scatter 65 = .ok (.getfield 10, 3) := by decide +kernel
theorem dX7_scatter_68 : decode cX7_scatter 68 = .ok (.invokevirtual 82, 3) := by decide +kernel
theorem dX7_scatter_71 : decode cX7_scatter 71 = .ok (.iload_n 1, 1) := by decide +kernel
theorem dX7_scatter_72 : decode cX7_scatter 72 = .ok (.i2l, 1) := by decide +kernel
theorem dX7_scatter_73 : decode cX7_scatter 73 = .ok (.lstore_n 3, 1) := by decide +kernel
theorem dX7_scatter_74 : decode cX7_scatter 74 = .ok (.iconst 0, 1) := by decide +kernel
theorem dX7_scatter_75 : decode cX7_scatter 75 = .ok (.istore 5, 2) := by decide +kernel
theorem dX7_scatter_77 : decode cX7_scatter 77 = .ok (.iload 5, 2) := by decide +kernel
theorem dX7_scatter_79 : decode cX7_scatter 79 = .ok (.iload_n 2, 1) := by decide +kernel
theorem dX7_scatter_80 : decode cX7_scatter 80 = .ok (.if_icmp .ge 70, 3) := by decide +kernel
theorem dX7_scatter_83 : decode cX7_scatter 83 = .ok (.lload_n 3, 1) := by decide +kernel
theorem dX7_scatter_84 : decode cX7_scatter 84 = .ok (.invokestatic 97, 3) := by decide +kernel
theorem dX7_scatter_87 : decode cX7_scatter 87 = .ok (.lstore_n 3, 1) := by decide +kernel
theorem dX7_scatter_88 : decode cX7_scatter 88 = .ok (.lload_n 3, 1) := by decide +kernel
theorem dX7_scatter_89 : decode cX7_scatter 89 = .ok (.sipush 1001, 3) := by decide +kernel
theorem dX7_scatter_92 : decode cX7_scatter 92 = .ok (.invokestatic 101, 3) := by decide +kernel
theorem dX7_scatter_95 : decode cX7_scatter 95 = .ok (.sipush 500, 3) := by decide +kernel
theorem dX7_scatter_98 : decode cX7_scatter 98 = .ok (.isub, 1) := by decide +kernel
theorem dX7_scatter_99 : decode cX7_scatter 99 = .ok (.istore 6, 2) := by decide +kernel
theorem dX7_scatter_101 : decode cX7_scatter 101 = .ok (.lload_n 3, 1) := by decide +kernel
theorem dX7_scatter_102 : decode cX7_scatter 102 = .ok (.invokestatic 97, 3) := by decide +kernel
theorem dX7_scatter_105 : decode cX7_scatter 105 = .ok (.lstore_n 3, 1) := by decide +kernel
theorem dX7_scatter_106 : decode cX7_scatter 106 = .ok (.lload_n 3, 1) := by decide +kernel
theorem dX7_scatter_107 : decode cX7_scatter 107 = .ok (.sipush 1001, 3) := by decide +kernel
theorem dX7_scatter_110 : decode cX7_scatter 110 = .ok (.invokestatic 101, 3) := by decide +kernel
theorem dX7_scatter_113 : decode cX7_scatter 113 = .ok (.sipush 500, 3) := by decide +kernel
theorem dX7_scatter_116 : decode cX7_scatter 116 = .ok (.isub, 1) := by decide +kernel
theorem dX7_scatter_117 : decode cX7_scatter 117 = .ok (.istore 7, 2) := by decide +kernel
theorem dX7_scatter_119 : decode cX7_scatter 119 = .ok (.lload_n 3, 1) := by decide +kernel
theorem dX7_scatter_120 : decode cX7_scatter 120 = .ok (.invokestatic 97, 3) := by decide +kernel
theorem dX7_scatter_123 : decode cX7_scatter 123 = .ok (.lstore_n 3, 1) := by decide +kernel
theorem dX7_scatter_124 : decode cX7_scatter 124 = .ok (.aload_n 0, 1) := by decide +kernel
theorem dX7_scatter_125 : decode cX7_scatter 125 = .ok (.getfield 10, 3) := by decide +kernel
theorem dX7_scatter_128 : decode cX7_scatter 128 = .ok (.iload 6, 2) := by decide +kernel
theorem dX7_scatter_130 : decode cX7_scatter 130 = .ok (.iload 7, 2) := by decide +kernel
theorem dX7_scatter_132 : decode cX7_scatter 132 = .ok (.iconst 1, 1) := by decide +kernel
theorem dX7_scatter_133 : decode cX7_scatter 133 = .ok (.lload_n 3, 1) := by decide +kernel
theorem dX7_scatter_134 : decode cX7_scatter 134 = .ok (.bipush 100, 2) := by decide +kernel
theorem dX7_scatter_136 : decode cX7_scatter 136 = .ok (.invokestatic 101, 3) := by decide +kernel
theorem dX7_scatter_139 : decode cX7_scatter 139 = .ok (.iadd, 1) := by decide +kernel
theorem dX7_scatter_140 : decode cX7_scatter 140 = .ok (.invokevirtual 86, 3) := by decide +kernel
theorem dX7_scatter_143 : decode cX7_scatter 143 = .ok (.pop, 1) := by decide +kernel
theorem dX7_scatter_144 : decode cX7_scatter 144 = .ok (.iinc 5 1, 3) := by decide +kernel
theorem dX7_scatter_147 : decode cX7_scatter 147 = .ok (.goto (-70), 3) := by decide +kernel
theorem dX7_scatter_150 : decode cX7_scatter 150 = .ok (.aload_n 0, 1) := by decide +kernel
theorem dX7_scatter_151 : decode cX7_scatter 151 = .ok (.getfield 10, 3) := by decide +kernel
theorem dX7_scatter_154 : decode cX7_scatter 154 = .ok (.invokevirtual 73, 3) := by decide +kernel
theorem dX7_scatter_157 : decode cX7_scatter 157 = .ok (.ireturn, 1) := by decide +kernel
theorem dX7_sweep_0 : decode cX7_sweep 0 = .ok (.iload_n 1, 1) := by decide +kernel
theorem dX7_sweep_1 : decode cX7_sweep 1 = .ok (.iload_n 2, 1) := by decide +kernel
theorem dX7_sweep_2 : decode cX7_sweep 2 = .ok (.iload_n 3, 1) := by decide +kernel
theorem dX7_sweep_3 : decode cX7_sweep 3 = .ok (.iload 4, 2) := by decide +kernel
theorem dX7_sweep_5 : decode cX7_sweep 5 = .ok (.invokestatic 105, 3) := by decide +kernel
theorem dX7_sweep_8 : decode cX7_sweep 8 = .ok (.ifCond .ne 10, 3) := by decide +kernel
theorem dX7_sweep_11 : decode cX7_sweep 11 = .ok (.aload_n 0, 1) := by decide +kernel
theorem dX7_sweep_12 : decode cX7_sweep 12 = .ok (.ldc 68, 2) := by decide +kernel
theorem dX7_sweep_14 : decode cX7_sweep 14 = .ok (.invokevirtual 69, 3) := by decide +kernel
theorem dX7_sweep_17 : decode cX7_sweep 17 = .ok (.ireturn, 1) := by decide +kernel
theorem dX7_sweep_18 : decode cX7_sweep 18 = .ok (.aload_n 0, 1) := by decide +kernel
theorem dX7_sweep_19 : decode cX7_sweep 19 = .ok (.iload_n 1, 1) := by decide +kernel
theorem dX7_sweep_20 : decode cX7_sweep 20 = .ok (.iload_n 2, 1) := by decide +kernel
theorem dX7_sweep_21 : decode cX7_sweep 21 = .ok (.iload_n 3, 1) := by decide +kernel
theorem dX7_sweep_22 : decode cX7_sweep 22 = .ok (.iload 4, 2) := by decide +kernel
theorem dX7_sweep_24 : decode cX7_sweep 24 = .ok (.invokevirtual 109, 3) := by decide +kernel
theorem dX7_sweep_27 : decode cX7_sweep 27 = .ok (.aload_n 0, 1) := by decide +kernel
theorem dX7_sweep_28 : decode cX7_sweep 28 = .ok (.invokevirtual 113, 3) := by decide +kernel
theorem dX7_sweep_31 : decode cX7_sweep 31 = .ok (.ireturn, 1) := by decide +kernel
theorem dX7_counter_0 : decode cX7_counter 0 = .ok (.iload_n 1, 1) := by decide +kernel
theorem dX7_counter_1 : decode cX7_counter 1 = .ok (.ifCond .lt 8, 3) := by decide +kernel
theorem dX7_counter_4 : decode cX7_counter 4 = .ok (.iload_n 1, 1) := by decide +kernel
theorem dX7_counter_5 : decode cX7_counter 5 = .ok (.iconst 5, 1) := by decide +kernel
theorem dX7_counter_6 : decode cX7_counter 6 = .ok (.if_icmp .le 10, 3) := by decide +kernel
theorem dX7_counter_9 : decode cX7_counter 9 = .ok (.aload_n 0, 1) := by decide +kernel
theorem dX7_counter_10 : decode cX7_counter 10 = .ok (.ldc 68, 2) := by decide +kernel
theorem dX7_counter_12 : decode cX7_counter 12 = .ok (.invokevirtual 69, 3) := by decide +kernel
theorem dX7_counter_15 : decode cX7_counter 15 = .ok (.ireturn, 1) := by decide +kernel
theorem dX7_counter_16 : decode cX7_counter 16 = .ok (.aload_n 0, 1) := by decide +kernel
theorem dX7_counter_17 : decode cX7_counter 17 = .ok (.getfield 19, 3) := by decide +kernel
theorem dX7_counter_20 : decode cX7_counter 20 = .ok (.aload_n 0, 1) := by decide +kernel
theorem dX7_counter_21 : decode cX7_counter 21 = .ok (.getfield 10, 3) := by decide +kernel
theorem dX7_counter_24 : decode cX7_counter 24 = .ok (.invokevirtual 82, 3) := by decide +kernel
theorem dX7_counter_27 : decode cX7_counter 27 = .ok (.aload_n 0, 1) := by decide +kernel
theorem dX7_counter_28 : decode cX7_counter 28 = .ok (.getfield 10, 3) := by decide +kernel
theorem dX7_counter_31 : decode cX7_counter 31 = .ok (.getfield 116, 3) := by decide +kernel
theorem dX7_counter_34 : decode cX7_counter 34 = .ok (.istore_n 2, 1) := by decide +kernel
theorem dX7_counter_35 : decode cX7_counter 35 = .ok (.aload_n 0, 1) := by decide +kernel
theorem dX7_counter_36 : decode cX7_counter 36 = .ok (.getfield 10, 3) := by decide +kernel
theorem dX7_counter_39 : decode cX7_counter 39 = .ok (.iload_n 1, 1) := by decide +kernel
theorem dX7_counter_40 : decode cX7_counter 40 = .ok (.putfield 116, 3) := by decide +kernel
theorem dX7_counter_43 : decode cX7_counter 43 = .ok (.iload_n 2, 1) := by decide +kernel
theorem dX7_counter_44 : decode cX7_counter 44 = .ok (.ireturn, 1) := by decide +kernel
theorem dX7_undo_0 : decode cX7_undo 0 = .ok (.aload_n 0, 1) := by decide +kernel
theorem dX7_undo_1 : decode cX7_undo 1 = .ok (.getfield 19, 3) := by decide +kernel
theorem dX7_undo_4 : decode cX7_undo 4 = .ok (.getfield 120, 3) := by decide +kernel
theorem dX7_undo_7 : decode cX7_undo 7 = .ok (.ifCond .ne 10, 3) := by decide +kernel
theorem dX7_undo_10 : decode cX7_undo 10 = .ok (.aload_n 0, 1) := by decide +kernel
theorem dX7_undo_11 : decode cX7_undo 11 = .ok (.ldc 123, 2) := by decide +kernel
theorem dX7_undo_13 : decode cX7_undo 13 = .ok (.invokevirtual 69, 3) := by decide +kernel
theorem dX7_undo_16 : decode cX7_undo 16 = .ok (.ireturn, 1) := by decide +kernel
theorem dX7_undo_17 : decode cX7_undo 17 = .ok (.aload_n 0, 1) := by decide +kernel
theorem dX7_undo_18 : decode cX7_undo 18 = .ok (.getfield 19, 3) := by decide +kernel
theorem dX7_undo_21 : decode cX7_undo 21 = .ok (.aload_n 0, 1) := by decide +kernel
theorem dX7_undo_22 : decode cX7_undo 22 = .ok (.getfield 10, 3) := by decide +kernel
theorem dX7_undo_25 : decode cX7_undo 25 = .ok (.invokevirtual 124, 3) := by decide +kernel
theorem dX7_undo_28 : decode cX7_undo 28 = .ok (.aload_n 0, 1) := by decide +kernel
theorem dX7_undo_29 : decode cX7_undo 29 = .ok (.getfield 19, 3) := by decide +kernel
theorem dX7_undo_32 : decode cX7_undo 32 = .ok (.getfield 120, 3) := by decide +kernel
theorem dX7_undo_35 : decode cX7_undo 35 = .ok (.ireturn, 1) := by decide +kernel
theorem dX7_of_0 : decode cX7_of 0 = .ok (.aload_n 0, 1) := by decide +kernel
theorem dX7_of_1 : decode cX7_of 1 = .ok (.getfield 10, 3) := by decide +kernel
theorem dX7_of_4 : decode cX7_of 4 = .ok (.iload_n 1, 1) := by decide +kernel
theorem dX7_of_5 : decode cX7_of 5 = .ok (.invokevirtual 90, 3) := by decide +kernel
theorem dX7_of_8 : decode cX7_of 8 = .ok (.istore_n 3, 1) := by decide +kernel
theorem dX7_of_9 : decode cX7_of 9 = .ok (.iload_n 3, 1) := by decide +kernel

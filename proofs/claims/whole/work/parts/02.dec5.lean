theorem dX8_takesNumber_4 : decode cX8_takesNumber 4 = .ok (.bipush 45, 2) := by decide +kernel
theorem dX8_takesNumber_6 : decode cX8_takesNumber 6 = .ok (.if_icmp .ne 7, 3) := by decide +kernel
theorem dX8_takesNumber_9 : decode cX8_takesNumber 9 = .ok (.iconst 1, 1) := by decide +kernel
theorem dX8_takesNumber_10 : decode cX8_takesNumber 10 = .ok (.goto 4, 3) := by decide +kernel
theorem dX8_takesNumber_13 : decode cX8_takesNumber 13 = .ok (.iconst 0, 1) := by decide +kernel
theorem dX8_takesNumber_14 : decode cX8_takesNumber 14 = .ok (.istore_n 2, 1) := by decide +kernel
theorem dX8_takesNumber_15 : decode cX8_takesNumber 15 = .ok (.aload_n 0, 1) := by decide +kernel
theorem dX8_takesNumber_16 : decode cX8_takesNumber 16 = .ok (.getfield 191, 3) := by decide +kernel
theorem dX8_takesNumber_19 : decode cX8_takesNumber 19 = .ok (.istore_n 3, 1) := by decide +kernel
theorem dX8_takesNumber_20 : decode cX8_takesNumber 20 = .ok (.aload_n 0, 1) := by decide +kernel
theorem dX8_takesNumber_21 : decode cX8_takesNumber 21 = .ok (.dup, 1) := by decide +kernel
theorem dX8_takesNumber_22 : decode cX8_takesNumber 22 = .ok (.getfield 191, 3) := by decide +kernel
theorem dX8_takesNumber_25 : decode cX8_takesNumber 25 = .ok (.iload_n 2, 1) := by decide +kernel
theorem dX8_takesNumber_26 : decode cX8_takesNumber 26 = .ok (.ifCond .eq 7, 3) := by decide +kernel
theorem dX8_takesNumber_29 : decode cX8_takesNumber 29 = .ok (.iconst 1, 1) := by decide +kernel
theorem dX8_takesNumber_30 : decode cX8_takesNumber 30 = .ok (.goto 4, 3) := by decide +kernel
theorem dX8_takesNumber_33 : decode cX8_takesNumber 33 = .ok (.iconst 0, 1) := by decide +kernel
theorem dX8_takesNumber_34 : decode cX8_takesNumber 34 = .ok (.iadd, 1) := by decide +kernel
theorem dX8_takesNumber_35 : decode cX8_takesNumber 35 = .ok (.putfield 191, 3) := by decide +kernel
theorem dX8_takesNumber_38 : decode cX8_takesNumber 38 = .ok (.iconst 0, 1) := by decide +kernel
theorem dX8_takesNumber_39 : decode cX8_takesNumber 39 = .ok (.istore 4, 2) := by decide +kernel
theorem dX8_takesNumber_41 : decode cX8_takesNumber 41 = .ok (.aload_n 0, 1) := by decide +kernel
theorem dX8_takesNumber_42 : decode cX8_takesNumber 42 = .ok (.iconst 0, 1) := by decide +kernel
theorem dX8_takesNumber_43 : decode cX8_takesNumber 43 = .ok (.putfield 203, 3) := by decide +kernel
theorem dX8_takesNumber_46 : decode cX8_takesNumber 46 = .ok (.aload_n 0, 1) := by decide +kernel
theorem dX8_takesNumber_47 : decode cX8_takesNumber 47 = .ok (.invokevirtual 194, 3) := by decide +kernel
theorem dX8_takesNumber_50 : decode cX8_takesNumber 50 = .ok (.i2l, 1) := by decide +kernel
theorem dX8_takesNumber_51 : decode cX8_takesNumber 51 = .ok (.ldc2_w 206, 3) := by decide +kernel
theorem dX8_takesNumber_54 : decode cX8_takesNumber 54 = .ok (.ldc2_w 208, 3) := by decide +kernel
theorem dX8_takesNumber_57 : decode cX8_takesNumber 57 = .ok (.invokestatic 49, 3) := by decide +kernel
theorem dX8_takesNumber_60 : decode cX8_takesNumber 60 = .ok (.ifCond .eq 51, 3) := by decide +kernel
theorem dX8_takesNumber_63 : decode cX8_takesNumber 63 = .ok (.aload_n 0, 1) := by decide +kernel
theorem dX8_takesNumber_64 : decode cX8_takesNumber 64 = .ok (.iload 4, 2) := by decide +kernel
theorem dX8_takesNumber_66 : decode cX8_takesNumber 66 = .ok (.iconst 4, 1) := by decide +kernel
theorem dX8_takesNumber_67 : decode cX8_takesNumber 67 = .ok (.if_icmp .ge 21, 3) := by decide +kernel
theorem dX8_takesNumber_70 : decode cX8_takesNumber 70 = .ok (.bipush 10, 2) := by decide +kernel
theorem dX8_takesNumber_72 : decode cX8_takesNumber 72 = .ok (.aload_n 0, 1) := by decide +kernel
theorem dX8_takesNumber_73 : decode cX8_takesNumber 73 = .ok (.getfield 203, 3) := by decide +kernel
theorem dX8_takesNumber_76 : decode cX8_takesNumber 76 = .ok (.imul, 1) := by decide +kernel
theorem dX8_takesNumber_77 : decode cX8_takesNumber 77 = .ok (.aload_n 0, 1) := by decide +kernel
theorem dX8_takesNumber_78 : decode cX8_takesNumber 78 = .ok (.invokevirtual 194, 3) := by decide +kernel
theorem dX8_takesNumber_81 : decode cX8_takesNumber 81 = .ok (.iadd, 1) := by decide +kernel
theorem dX8_takesNumber_82 : decode cX8_takesNumber 82 = .ok (.bipush 48, 2) := by decide +kernel
theorem dX8_takesNumber_84 : decode cX8_takesNumber 84 = .ok (.isub, 1) := by decide +kernel
theorem dX8_takesNumber_85 : decode cX8_takesNumber 85 = .ok (.goto 7, 3) := by decide +kernel
theorem dX8_takesNumber_88 : decode cX8_takesNumber 88 = .ok (.aload_n 0, 1) := by decide +kernel
theorem dX8_takesNumber_89 : decode cX8_takesNumber 89 = .ok (.getfield 203, 3) := by decide +kernel
theorem dX8_takesNumber_92 : decode cX8_takesNumber 92 = .ok (.putfield 203, 3) := by decide +kernel
theorem dX8_takesNumber_95 : decode cX8_takesNumber 95 = .ok (.iinc 4 1, 3) := by decide +kernel
theorem dX8_takesNumber_98 : decode cX8_takesNumber 98 = .ok (.aload_n 0, 1) := by decide +kernel
theorem dX8_takesNumber_99 : decode cX8_takesNumber 99 = .ok (.dup, 1) := by decide +kernel
theorem dX8_takesNumber_100 : decode cX8_takesNumber 100 = .ok (.getfield 191, 3) := by decide +kernel
theorem dX8_takesNumber_103 : decode cX8_takesNumber 103 = .ok (.iconst 1, 1) := by decide +kernel
theorem dX8_takesNumber_104 : decode cX8_takesNumber 104 = .ok (.iadd, 1) := by decide +kernel
theorem dX8_takesNumber_105 : decode cX8_takesNumber 105 = .ok (.putfield 191, 3) := by decide +kernel
theorem dX8_takesNumber_108 : decode cX8_takesNumber 108 = .ok (.goto (-62), 3) := by decide +kernel
theorem dX8_takesNumber_111 : decode cX8_takesNumber 111 = .ok (.aload_n 0, 1) := by decide +kernel
theorem dX8_takesNumber_112 : decode cX8_takesNumber 112 = .ok (.iload_n 2, 1) := by decide +kernel
theorem dX8_takesNumber_113 : decode cX8_takesNumber 113 = .ok (.ifCond .eq 11, 3) := by decide +kernel
theorem dX8_takesNumber_116 : decode cX8_takesNumber 116 = .ok (.aload_n 0, 1) := by decide +kernel
theorem dX8_takesNumber_117 : decode cX8_takesNumber 117 = .ok (.getfield 203, 3) := by decide +kernel
theorem dX8_takesNumber_120 : decode cX8_takesNumber 120 = .ok (.ineg, 1) := by decide +kernel
theorem dX8_takesNumber_121 : decode cX8_takesNumber 121 = .ok (.goto 7, 3) := by decide +kernel
theorem dX8_takesNumber_124 : decode cX8_takesNumber 124 = .ok (.aload_n 0, 1) := by decide +kernel
theorem dX8_takesNumber_125 : decode cX8_takesNumber 125 = .ok (.getfield 203, 3) := by decide +kernel
theorem dX8_takesNumber_128 : decode cX8_takesNumber 128 = .ok (.putfield 203, 3) := by decide +kernel
theorem dX8_takesNumber_131 : decode cX8_takesNumber 131 = .ok (.aload_n 0, 1) := by decide +kernel
theorem dX8_takesNumber_132 : decode cX8_takesNumber 132 = .ok (.iload 4, 2) := by decide +kernel
theorem dX8_takesNumber_134 : decode cX8_takesNumber 134 = .ok (.ifCond .ne 10, 3) := by decide +kernel
theorem dX8_takesNumber_137 : decode cX8_takesNumber 137 = .ok (.aload_n 0, 1) := by decide +kernel
theorem dX8_takesNumber_138 : decode cX8_takesNumber 138 = .ok (.getfield 191, 3) := by decide +kernel
theorem dX8_takesNumber_141 : decode cX8_takesNumber 141 = .ok (.goto 4, 3) := by decide +kernel
theorem dX8_takesNumber_144 : decode cX8_takesNumber 144 = .ok (.iload_n 3, 1) := by decide +kernel
theorem dX8_takesNumber_145 : decode cX8_takesNumber 145 = .ok (.putfield 197, 3) := by decide +kernel
theorem dX8_takesNumber_148 : decode cX8_takesNumber 148 = .ok (.iload 4, 2) := by decide +kernel
theorem dX8_takesNumber_150 : decode cX8_takesNumber 150 = .ok (.i2l, 1) := by decide +kernel
theorem dX8_takesNumber_151 : decode cX8_takesNumber 151 = .ok (.lconst 1, 1) := by decide +kernel
theorem dX8_takesNumber_152 : decode cX8_takesNumber 152 = .ok (.ldc2_w 146, 3) := by decide +kernel
theorem dX8_takesNumber_155 : decode cX8_takesNumber 155 = .ok (.invokestatic 49, 3) := by decide +kernel
theorem dX8_takesNumber_158 : decode cX8_takesNumber 158 = .ok (.ifCond .eq 23, 3) := by decide +kernel
theorem dX8_takesNumber_161 : decode cX8_takesNumber 161 = .ok (.aload_n 0, 1) := by decide +kernel
theorem dX8_takesNumber_162 : decode cX8_takesNumber 162 = .ok (.getfield 203, 3) := by decide +kernel
theorem dX8_takesNumber_165 : decode cX8_takesNumber 165 = .ok (.i2l, 1) := by decide +kernel
theorem dX8_takesNumber_166 : decode cX8_takesNumber 166 = .ok (.iload_n 1, 1) := by decide +kernel
theorem dX8_takesNumber_167 : decode cX8_takesNumber 167 = .ok (.i2l, 1) := by decide +kernel
theorem dX8_takesNumber_168 : decode cX8_takesNumber 168 = .ok (.ldc2_w 47, 3) := by decide +kernel
theorem dX8_takesNumber_171 : decode cX8_takesNumber 171 = .ok (.invokestatic 49, 3) := by decide +kernel
theorem dX8_takesNumber_174 : decode cX8_takesNumber 174 = .ok (.ifCond .eq 7, 3) := by decide +kernel
theorem dX8_takesNumber_177 : decode cX8_takesNumber 177 = .ok (.iconst 1, 1) := by decide +kernel
theorem dX8_takesNumber_178 : decode cX8_takesNumber 178 = .ok (.goto 4, 3) := by decide +kernel
theorem dX8_takesNumber_181 : decode cX8_takesNumber 181 = .ok (.iconst 0, 1) := by decide +kernel
theorem dX8_takesNumber_182 : decode cX8_takesNumber 182 = .ok (.ireturn, 1) := by decide +kernel
theorem dX8_puts_0 : decode cX8_puts 0 = .ok (.aload_n 0, 1) := by decide +kernel
theorem dX8_puts_1 : decode cX8_puts 1 = .ok (.getfield 13, 3) := by decide +kernel
theorem dX8_puts_4 : decode cX8_puts 4 = .ok (.sipush 548, 3) := by decide +kernel
theorem dX8_puts_7 : decode cX8_puts 7 = .ok (.aload_n 0, 1) := by decide +kernel
theorem dX8_puts_8 : decode cX8_puts 8 = .ok (.getfield 13, 3) := by decide +kernel
theorem dX8_puts_11 : decode cX8_puts 11 = .ok (.sipush 546, 3) := by decide +kernel
theorem dX8_puts_14 : decode cX8_puts 14 = .ok (.iaload, 1) := by decide +kernel
theorem dX8_puts_15 : decode cX8_puts 15 = .ok (.iadd, 1) := by decide +kernel
theorem dX8_puts_16 : decode cX8_puts 16 = .ok (.iload_n 1, 1) := by decide +kernel
theorem dX8_puts_17 : decode cX8_puts 17 = .ok (.iastore, 1) := by decide +kernel
theorem dX8_puts_18 : decode cX8_puts 18 = .ok (.aload_n 0, 1) := by decide +kernel
theorem dX8_puts_19 : decode cX8_puts 19 = .ok (.getfield 13, 3) := by decide +kernel
theorem dX8_puts_22 : decode cX8_puts 22 = .ok (.sipush 546, 3) := by decide +kernel
theorem dX8_puts_25 : decode cX8_puts 25 = .ok (.dup2, 1) := by decide +kernel
theorem dX8_puts_26 : decode cX8_puts 26 = .ok (.iaload, 1) := by decide +kernel
theorem dX8_puts_27 : decode cX8_puts 27 = .ok (.iconst 1, 1) := by decide +kernel
theorem dX8_puts_28 : decode cX8_puts 28 = .ok (.iadd, 1) := by decide +kernel
theorem dX8_puts_29 : decode cX8_puts 29 = .ok (.iastore, 1) := by decide +kernel
theorem dX8_puts_30 : decode cX8_puts 30 = .ok (.return_, 1) := by decide +kernel
theorem dX8_takesRect_0 : decode cX8_takesRect 0 = .ok (.sipush 668, 3) := by decide +kernel
theorem dX8_takesRect_3 : decode cX8_takesRect 3 = .ok (.iconst 4, 1) := by decide +kernel
theorem dX8_takesRect_4 : decode cX8_takesRect 4 = .ok (.aload_n 0, 1) := by decide +kernel
theorem dX8_takesRect_5 : decode cX8_takesRect 5 = .ok (.getfield 13, 3) := by decide +kernel
theorem dX8_takesRect_8 : decode cX8_takesRect 8 = .ok (.sipush 547, 3) := by decide +kernel
theorem dX8_takesRect_11 : decode cX8_takesRect 11 = .ok (.iaload, 1) := by decide +kernel
theorem dX8_takesRect_12 : decode cX8_takesRect 12 = .ok (.imul, 1) := by decide +kernel
theorem dX8_takesRect_13 : decode cX8_takesRect 13 = .ok (.iadd, 1) := by decide +kernel
theorem dX8_takesRect_14 : decode cX8_takesRect 14 = .ok (.istore_n 1, 1) := by decide +kernel
theorem dX8_takesRect_15 : decode cX8_takesRect 15 = .ok (.iconst 0, 1) := by decide +kernel
theorem dX8_takesRect_16 : decode cX8_takesRect 16 = .ok (.istore_n 2, 1) := by decide +kernel
theorem dX8_takesRect_17 : decode cX8_takesRect 17 = .ok (.iload_n 2, 1) := by decide +kernel
theorem dX8_takesRect_18 : decode cX8_takesRect 18 = .ok (.iconst 4, 1) := by decide +kernel
theorem dX8_takesRect_19 : decode cX8_takesRect 19 = .ok (.if_icmp .ge 80, 3) := by decide +kernel
theorem dX8_takesRect_22 : decode cX8_takesRect 22 = .ok (.aload_n 0, 1) := by decide +kernel
theorem dX8_takesRect_23 : decode cX8_takesRect 23 = .ok (.iload_n 2, 1) := by decide +kernel
theorem dX8_takesRect_24 : decode cX8_takesRect 24 = .ok (.ifCond .ne 8, 3) := by decide +kernel
theorem dX8_takesRect_27 : decode cX8_takesRect 27 = .ok (.bipush 91, 2) := by decide +kernel
theorem dX8_takesRect_29 : decode cX8_takesRect 29 = .ok (.goto 5, 3) := by decide +kernel
theorem dX8_takesRect_32 : decode cX8_takesRect 32 = .ok (.bipush 44, 2) := by decide +kernel
theorem dX8_takesRect_34 : decode cX8_takesRect 34 = .ok (.invokevirtual 210, 3) := by decide +kernel
theorem dX8_takesRect_37 : decode cX8_takesRect 37 = .ok (.ifCond .eq 36, 3) := by decide +kernel
theorem dX8_takesRect_40 : decode cX8_takesRect 40 = .ok (.aload_n 0, 1) := by decide +kernel
theorem dX8_takesRect_41 : decode cX8_takesRect 41 = .ok (.iload_n 2, 1) := by decide +kernel
theorem dX8_takesRect_42 : decode cX8_takesRect 42 = .ok (.iconst 2, 1) := by decide +kernel
theorem dX8_takesRect_43 : decode cX8_takesRect 43 = .ok (.irem, 1) := by decide +kernel
theorem dX8_takesRect_44 : decode cX8_takesRect 44 = .ok (.ifCond .ne 9, 3) := by decide +kernel
theorem dX8_takesRect_47 : decode cX8_takesRect 47 = .ok (.sipush (-500), 3) := by decide +kernel
theorem dX8_takesRect_50 : decode cX8_takesRect 50 = .ok (.goto 13, 3) := by decide +kernel
theorem dX8_takesRect_53 : decode cX8_takesRect 53 = .ok (.aload_n 0, 1) := by decide +kernel
theorem dX8_takesRect_54 : decode cX8_takesRect 54 = .ok (.getfield 13, 3) := by decide +kernel
theorem dX8_takesRect_57 : decode cX8_takesRect 57 = .ok (.iload_n 1, 1) := by decide +kernel
theorem dX8_takesRect_58 : decode cX8_takesRect 58 = .ok (.iload_n 2, 1) := by decide +kernel
theorem dX8_takesRect_59 : decode cX8_takesRect 59 = .ok (.iadd, 1) := by decide +kernel
theorem dX8_takesRect_60 : decode cX8_takesRect 60 = .ok (.iconst 1, 1) := by decide +kernel
theorem dX8_takesRect_61 : decode cX8_takesRect 61 = .ok (.isub, 1) := by decide +kernel
theorem dX8_takesRect_62 : decode cX8_takesRect 62 = .ok (.iaload, 1) := by decide +kernel
theorem dX8_takesRect_63 : decode cX8_takesRect 63 = .ok (.invokevirtual 213, 3) := by decide +kernel
theorem dX8_takesRect_66 : decode cX8_takesRect 66 = .ok (.ifCond .eq 7, 3) := by decide +kernel
theorem dX8_takesRect_69 : decode cX8_takesRect 69 = .ok (.iconst 1, 1) := by decide +kernel
theorem dX8_takesRect_70 : decode cX8_takesRect 70 = .ok (.goto 4, 3) := by decide +kernel
theorem dX8_takesRect_73 : decode cX8_takesRect 73 = .ok (.iconst 0, 1) := by decide +kernel
theorem dX8_takesRect_74 : decode cX8_takesRect 74 = .ok (.istore_n 3, 1) := by decide +kernel
theorem dX8_takesRect_75 : decode cX8_takesRect 75 = .ok (.iload_n 3, 1) := by decide +kernel
theorem dX8_takesRect_76 : decode cX8_takesRect 76 = .ok (.ifCond .ne 5, 3) := by decide +kernel
theorem dX8_takesRect_79 : decode cX8_takesRect 79 = .ok (.iconst 0, 1) := by decide +kernel
theorem dX8_takesRect_80 : decode cX8_takesRect 80 = .ok (.ireturn, 1) := by decide +kernel
theorem dX8_takesRect_81 : decode cX8_takesRect 81 = .ok (.aload_n 0, 1) := by decide +kernel
theorem dX8_takesRect_82 : decode cX8_takesRect 82 = .ok (.getfield 13, 3) := by decide +kernel
theorem dX8_takesRect_85 : decode cX8_takesRect 85 = .ok (.iload_n 1, 1) := by decide +kernel
theorem dX8_takesRect_86 : decode cX8_takesRect 86 = .ok (.iload_n 2, 1) := by decide +kernel
theorem dX8_takesRect_87 : decode cX8_takesRect 87 = .ok (.iadd, 1) := by decide +kernel
theorem dX8_takesRect_88 : decode cX8_takesRect 88 = .ok (.aload_n 0, 1) := by decide +kernel
theorem dX8_takesRect_89 : decode cX8_takesRect 89 = .ok (.getfield 203, 3) := by decide +kernel
theorem dX8_takesRect_92 : decode cX8_takesRect 92 = .ok (.iastore, 1) := by decide +kernel
theorem dX8_takesRect_93 : decode cX8_takesRect 93 = .ok (.iinc 2 1, 3) := by decide +kernel
theorem dX8_takesRect_96 : decode cX8_takesRect 96 = .ok (.goto (-79), 3) := by decide +kernel
theorem dX8_takesRect_99 : decode cX8_takesRect 99 = .ok (.aload_n 0, 1) := by decide +kernel
theorem dX8_takesRect_100 : decode cX8_takesRect 100 = .ok (.bipush 93, 2) := by decide +kernel
theorem dX8_takesRect_102 : decode cX8_takesRect 102 = .ok (.invokevirtual 210, 3) := by decide +kernel
theorem dX8_takesRect_105 : decode cX8_takesRect 105 = .ok (.ifCond .ne 5, 3) := by decide +kernel
theorem dX8_takesRect_108 : decode cX8_takesRect 108 = .ok (.iconst 0, 1) := by decide +kernel
theorem dX8_takesRect_109 : decode cX8_takesRect 109 = .ok (.ireturn, 1) := by decide +kernel
theorem dX8_takesRect_110 : decode cX8_takesRect 110 = .ok (.aload_n 0, 1) := by decide +kernel
theorem dX8_takesRect_111 : decode cX8_takesRect 111 = .ok (.aload_n 0, 1) := by decide +kernel
theorem dX8_takesRect_112 : decode cX8_takesRect 112 = .ok (.getfield 13, 3) := by decide +kernel
theorem dX8_takesRect_115 : decode cX8_takesRect 115 = .ok (.sipush 547, 3) := by decide +kernel
theorem dX8_takesRect_118 : decode cX8_takesRect 118 = .ok (.iaload, 1) := by decide +kernel
theorem dX8_takesRect_119 : decode cX8_takesRect 119 = .ok (.invokevirtual 216, 3) := by decide +kernel
theorem dX8_takesRect_122 : decode cX8_takesRect 122 = .ok (.aload_n 0, 1) := by decide +kernel
theorem dX8_takesRect_123 : decode cX8_takesRect 123 = .ok (.getfield 13, 3) := by decide +kernel
theorem dX8_takesRect_126 : decode cX8_takesRect 126 = .ok (.sipush 547, 3) := by decide +kernel
theorem dX8_takesRect_129 : decode cX8_takesRect 129 = .ok (.dup2, 1) := by decide +kernel
theorem dX8_takesRect_130 : decode cX8_takesRect 130 = .ok (.iaload, 1) := by decide +kernel
theorem dX8_takesRect_131 : decode cX8_takesRect 131 = .ok (.iconst 1, 1) := by decide +kernel
theorem dX8_takesRect_132 : decode cX8_takesRect 132 = .ok (.iadd, 1) := by decide +kernel
theorem dX8_takesRect_133 : decode cX8_takesRect 133 = .ok (.iastore, 1) := by decide +kernel
theorem dX8_takesRect_134 : decode cX8_takesRect 134 = .ok (.iconst 1, 1) := by decide +kernel
theorem dX8_takesRect_135 : decode cX8_takesRect 135 = .ok (.ireturn, 1) := by decide +kernel
theorem dX8_notes_0 : decode cX8_notes 0 = .ok (.aload_n 0, 1) := by decide +kernel
theorem dX8_notes_1 : decode cX8_notes 1 = .ok (.getfield 219, 3) := by decide +kernel
theorem dX8_notes_4 : decode cX8_notes 4 = .ok (.ifCond .le 38, 3) := by decide +kernel
theorem dX8_notes_7 : decode cX8_notes 7 = .ok (.aload_n 0, 1) := by decide +kernel
theorem dX8_notes_8 : decode cX8_notes 8 = .ok (.getfield 36, 3) := by decide +kernel
theorem dX8_notes_11 : decode cX8_notes 11 = .ok (.aload_n 0, 1) := by decide +kernel
theorem dX8_notes_12 : decode cX8_notes 12 = .ok (.getfield 219, 3) := by decide +kernel
theorem dX8_notes_15 : decode cX8_notes 15 = .ok (.iconst 1, 1) := by decide +kernel
theorem dX8_notes_16 : decode cX8_notes 16 = .ok (.isub, 1) := by decide +kernel
theorem dX8_notes_17 : decode cX8_notes 17 = .ok (.iaload, 1) := by decide +kernel
theorem dX8_notes_18 : decode cX8_notes 18 = .ok (.bipush (-4), 2) := by decide +kernel
theorem dX8_notes_20 : decode cX8_notes 20 = .ok (.if_icmp .ne 22, 3) := by decide +kernel
theorem dX8_notes_23 : decode cX8_notes 23 = .ok (.aload_n 0, 1) := by decide +kernel
theorem dX8_notes_24 : decode cX8_notes 24 = .ok (.dup, 1) := by decide +kernel
theorem dX8_notes_25 : decode cX8_notes 25 = .ok (.getfield 219, 3) := by decide +kernel
theorem dX8_notes_28 : decode cX8_notes 28 = .ok (.iconst 1, 1) := by decide +kernel
theorem dX8_notes_29 : decode cX8_notes 29 = .ok (.isub, 1) := by decide +kernel
theorem dX8_notes_30 : decode cX8_notes 30 = .ok (.putfield 219, 3) := by decide +kernel
theorem dX8_notes_33 : decode cX8_notes 33 = .ok (.aload_n 0, 1) := by decide +kernel
theorem dX8_notes_34 : decode cX8_notes 34 = .ok (.bipush (-4), 2) := by decide +kernel
theorem dX8_notes_36 : decode cX8_notes 36 = .ok (.invokevirtual 216, 3) := by decide +kernel
theorem dX8_notes_39 : decode cX8_notes 39 = .ok (.goto (-39), 3) := by decide +kernel
theorem dX8_notes_42 : decode cX8_notes 42 = .ok (.return_, 1) := by decide +kernel
theorem dX8_does_0 : decode cX8_does 0 = .ok (.aload_n 0, 1) := by decide +kernel
theorem dX8_does_1 : decode cX8_does 1 = .ok (.getfield 219, 3) := by decide +kernel
theorem dX8_does_4 : decode cX8_does 4 = .ok (.ifCond .le 80, 3) := by decide +kernel
theorem dX8_does_7 : decode cX8_does 7 = .ok (.aload_n 0, 1) := by decide +kernel
theorem dX8_does_8 : decode cX8_does 8 = .ok (.getfield 36, 3) := by decide +kernel
theorem dX8_does_11 : decode cX8_does 11 = .ok (.aload_n 0, 1) := by decide +kernel
theorem dX8_does_12 : decode cX8_does 12 = .ok (.getfield 219, 3) := by decide +kernel
theorem dX8_does_15 : decode cX8_does 15 = .ok (.iconst 1, 1) := by decide +kernel
theorem dX8_does_16 : decode cX8_does 16 = .ok (.isub, 1) := by decide +kernel
theorem dX8_does_17 : decode cX8_does 17 = .ok (.iaload, 1) := by decide +kernel
theorem dX8_does_18 : decode cX8_does 18 = .ok (.bipush (-3), 2) := by decide +kernel
theorem dX8_does_20 : decode cX8_does 20 = .ok (.if_icmp .eq 38, 3) := by decide +kernel
theorem dX8_does_23 : decode cX8_does 23 = .ok (.iload_n 1, 1) := by decide +kernel
theorem dX8_does_24 : decode cX8_does 24 = .ok (.ifCond .ne 60, 3) := by decide +kernel
theorem dX8_does_27 : decode cX8_does 27 = .ok (.aload_n 0, 1) := by decide +kernel
theorem dX8_does_28 : decode cX8_does 28 = .ok (.getfield 36, 3) := by decide +kernel
theorem dX8_does_31 : decode cX8_does 31 = .ok (.aload_n 0, 1) := by decide +kernel
theorem dX8_does_32 : decode cX8_does 32 = .ok (.getfield 219, 3) := by decide +kernel
theorem dX8_does_35 : decode cX8_does 35 = .ok (.iconst 1, 1) := by decide +kernel
theorem dX8_does_36 : decode cX8_does 36 = .ok (.isub, 1) := by decide +kernel
theorem dX8_does_37 : decode cX8_does 37 = .ok (.iaload, 1) := by decide +kernel
theorem dX8_does_38 : decode cX8_does 38 = .ok (.iconst (-1), 1) := by decide +kernel
theorem dX8_does_39 : decode cX8_does 39 = .ok (.if_icmp .eq 19, 3) := by decide +kernel
theorem dX8_does_42 : decode cX8_does 42 = .ok (.aload_n 0, 1) := by decide +kernel
theorem dX8_does_43 : decode cX8_does 43 = .ok (.getfield 36, 3) := by decide +kernel
theorem dX8_does_46 : decode cX8_does 46 = .ok (.aload_n 0, 1) := by decide +kernel
theorem dX8_does_47 : decode cX8_does 47 = .ok (.getfield 219, 3) := by decide +kernel
theorem dX8_does_50 : decode cX8_does 50 = .ok (.iconst 1, 1) := by decide +kernel
theorem dX8_does_51 : decode cX8_does 51 = .ok (.isub, 1) := by decide +kernel
theorem dX8_does_52 : decode cX8_does 52 = .ok (.iaload, 1) := by decide +kernel
theorem dX8_does_53 : decode cX8_does 53 = .ok (.bipush (-2), 2) := by decide +kernel
theorem dX8_does_55 : decode cX8_does 55 = .ok (.if_icmp .ne 29, 3) := by decide +kernel
theorem dX8_does_58 : decode cX8_does 58 = .ok (.aload_n 0, 1) := by decide +kernel
theorem dX8_does_59 : decode cX8_does 59 = .ok (.dup, 1) := by decide +kernel
theorem dX8_does_60 : decode cX8_does 60 = .ok (.getfield 219, 3) := by decide +kernel
theorem dX8_does_63 : decode cX8_does 63 = .ok (.iconst 1, 1) := by decide +kernel
theorem dX8_does_64 : decode cX8_does 64 = .ok (.isub, 1) := by decide +kernel
theorem dX8_does_65 : decode cX8_does 65 = .ok (.putfield 219, 3) := by decide +kernel
theorem dX8_does_68 : decode cX8_does 68 = .ok (.aload_n 0, 1) := by decide +kernel
theorem dX8_does_69 : decode cX8_does 69 = .ok (.aload_n 0, 1) := by decide +kernel
theorem dX8_does_70 : decode cX8_does 70 = .ok (.getfield 36, 3) := by decide +kernel
theorem dX8_does_73 : decode cX8_does 73 = .ok (.aload_n 0, 1) := by decide +kernel
theorem dX8_does_74 : decode cX8_does 74 = .ok (.getfield 219, 3) := by decide +kernel
theorem dX8_does_77 : decode cX8_does 77 = .ok (.iaload, 1) := by decide +kernel
theorem dX8_does_78 : decode cX8_does 78 = .ok (.invokevirtual 216, 3) := by decide +kernel
theorem dX8_does_81 : decode cX8_does 81 = .ok (.goto (-81), 3) := by decide +kernel
theorem dX8_does_84 : decode cX8_does 84 = .ok (.return_, 1) := by decide +kernel
theorem dX8_deep_0 : decode cX8_deep 0 = .ok (.iconst 0, 1) := by decide +kernel
theorem dX8_deep_1 : decode cX8_deep 1 = .ok (.istore_n 1, 1) := by decide +kernel
theorem dX8_deep_2 : decode cX8_deep 2 = .ok (.iconst 0, 1) := by decide +kernel
theorem dX8_deep_3 : decode cX8_deep 3 = .ok (.istore_n 2, 1) := by decide +kernel
theorem dX8_deep_4 : decode cX8_deep 4 = .ok (.iload_n 2, 1) := by decide +kernel
theorem dX8_deep_5 : decode cX8_deep 5 = .ok (.aload_n 0, 1) := by decide +kernel
theorem dX8_deep_6 : decode cX8_deep 6 = .ok (.getfield 219, 3) := by decide +kernel
theorem dX8_deep_9 : decode cX8_deep 9 = .ok (.if_icmp .ge 39, 3) := by decide +kernel
theorem dX8_deep_12 : decode cX8_deep 12 = .ok (.iload_n 1, 1) := by decide +kernel
theorem dX8_deep_13 : decode cX8_deep 13 = .ok (.aload_n 0, 1) := by decide +kernel
theorem dX8_deep_14 : decode cX8_deep 14 = .ok (.getfield 36, 3) := by decide +kernel
theorem dX8_deep_17 : decode cX8_deep 17 = .ok (.iload_n 2, 1) := by decide +kernel
theorem dX8_deep_18 : decode cX8_deep 18 = .ok (.iaload, 1) := by decide +kernel
theorem dX8_deep_19 : decode cX8_deep 19 = .ok (.bipush (-4), 2) := by decide +kernel
theorem dX8_deep_21 : decode cX8_deep 21 = .ok (.if_icmp .eq 14, 3) := by decide +kernel
theorem dX8_deep_24 : decode cX8_deep 24 = .ok (.aload_n 0, 1) := by decide +kernel
theorem dX8_deep_25 : decode cX8_deep 25 = .ok (.getfield 36, 3) := by decide +kernel
theorem dX8_deep_28 : decode cX8_deep 28 = .ok (.iload_n 2, 1) := by decide +kernel
theorem dX8_deep_29 : decode cX8_deep 29 = .ok (.iaload, 1) := by decide +kernel
theorem dX8_deep_30 : decode cX8_deep 30 = .ok (.bipush (-5), 2) := by decide +kernel
theorem dX8_deep_32 : decode cX8_deep 32 = .ok (.if_icmp .ne 7, 3) := by decide +kernel
theorem dX8_deep_35 : decode cX8_deep 35 = .ok (.iconst 1, 1) := by decide +kernel
theorem dX8_deep_36 : decode cX8_deep 36 = .ok (.goto 4, 3) := by decide +kernel
theorem dX8_deep_39 : decode cX8_deep 39 = .ok (.iconst 0, 1) := by decide +kernel
theorem dX8_deep_40 : decode cX8_deep 40 = .ok (.iadd, 1) := by decide +kernel
theorem dX8_deep_41 : decode cX8_deep 41 = .ok (.istore_n 1, 1) := by decide +kernel
theorem dX8_deep_42 : decode cX8_deep 42 = .ok (.iinc 2 1, 3) := by decide +kernel
theorem dX8_deep_45 : decode cX8_deep 45 = .ok (.goto (-41), 3) := by decide +kernel
theorem dX8_deep_48 : decode cX8_deep 48 = .ok (.iload_n 1, 1) := by decide +kernel
theorem dX8_deep_49 : decode cX8_deep 49 = .ok (.ireturn, 1) := by decide +kernel
theorem dX8_opens_0 : decode cX8_opens 0 = .ok (.aload_n 0, 1) := by decide +kernel
theorem dX8_opens_1 : decode cX8_opens 1 = .ok (.getfield 36, 3) := by decide +kernel
theorem dX8_opens_4 : decode cX8_opens 4 = .ok (.aload_n 0, 1) := by decide +kernel
theorem dX8_opens_5 : decode cX8_opens 5 = .ok (.getfield 219, 3) := by decide +kernel
theorem dX8_opens_8 : decode cX8_opens 8 = .ok (.iload_n 1, 1) := by decide +kernel
theorem dX8_opens_9 : decode cX8_opens 9 = .ok (.iastore, 1) := by decide +kernel
theorem dX8_opens_10 : decode cX8_opens 10 = .ok (.aload_n 0, 1) := by decide +kernel
theorem dX8_opens_11 : decode cX8_opens 11 = .ok (.dup, 1) := by decide +kernel
theorem dX8_opens_12 : decode cX8_opens 12 = .ok (.getfield 219, 3) := by decide +kernel
theorem dX8_opens_15 : decode cX8_opens 15 = .ok (.iconst 1, 1) := by decide +kernel
theorem dX8_opens_16 : decode cX8_opens 16 = .ok (.iadd, 1) := by decide +kernel
theorem dX8_opens_17 : decode cX8_opens 17 = .ok (.putfield 219, 3) := by decide +kernel
theorem dX8_opens_20 : decode cX8_opens 20 = .ok (.return_, 1) := by decide +kernel
theorem dX8_spot_0 : decode cX8_spot 0 = .ok (.aload_n 0, 1) := by decide +kernel
theorem dX8_spot_1 : decode cX8_spot 1 = .ok (.invokevirtual 200, 3) := by decide +kernel
theorem dX8_spot_4 : decode cX8_spot 4 = .ok (.istore_n 1, 1) := by decide +kernel
theorem dX8_spot_5 : decode cX8_spot 5 = .ok (.iload_n 1, 1) := by decide +kernel
theorem dX8_spot_6 : decode cX8_spot 6 = .ok (.bipush 91, 2) := by decide +kernel
theorem dX8_spot_8 : decode cX8_spot 8 = .ok (.if_icmp .ne 18, 3) := by decide +kernel
theorem dX8_spot_11 : decode cX8_spot 11 = .ok (.aload_n 0, 1) := by decide +kernel
theorem dX8_spot_12 : decode cX8_spot 12 = .ok (.invokevirtual 222, 3) := by decide +kernel
theorem dX8_spot_15 : decode cX8_spot 15 = .ok (.ifCond .ne 5, 3) := by decide +kernel
theorem dX8_spot_18 : decode cX8_spot 18 = .ok (.iconst 0, 1) := by decide +kernel
theorem dX8_spot_19 : decode cX8_spot 19 = .ok (.ireturn, 1) := by decide +kernel
theorem dX8_spot_20 : decode cX8_spot 20 = .ok (.aload_n 0, 1) := by decide +kernel
theorem dX8_spot_21 : decode cX8_spot 21 = .ok (.invokevirtual 226, 3) := by decide +kernel
theorem dX8_spot_24 : decode cX8_spot 24 = .ok (.iconst 1, 1) := by decide +kernel
theorem dX8_spot_25 : decode cX8_spot 25 = .ok (.ireturn, 1) := by decide +kernel
theorem dX8_spot_26 : decode cX8_spot 26 = .ok (.iload_n 1, 1) := by decide +kernel
theorem dX8_spot_27 : decode cX8_spot 27 = .ok (.bipush 40, 2) := by decide +kernel
theorem dX8_spot_29 : decode cX8_spot 29 = .ok (.if_icmp .eq 9, 3) := by decide +kernel
theorem dX8_spot_32 : decode cX8_spot 32 = .ok (.iload_n 1, 1) := by decide +kernel
theorem dX8_spot_33 : decode cX8_spot 33 = .ok (.bipush 33, 2) := by decide +kernel
theorem dX8_spot_35 : decode cX8_spot 35 = .ok (.if_icmp .ne 12, 3) := by decide +kernel
theorem dX8_spot_38 : decode cX8_spot 38 = .ok (.aload_n 0, 1) := by decide +kernel
theorem dX8_spot_39 : decode cX8_spot 39 = .ok (.invokevirtual 229, 3) := by decide +kernel
theorem dX8_spot_42 : decode cX8_spot 42 = .ok (.bipush 12, 2) := by decide +kernel
theorem dX8_spot_44 : decode cX8_spot 44 = .ok (.if_icmp .ne 5, 3) := by decide +kernel
theorem dX8_spot_47 : decode cX8_spot 47 = .ok (.iconst 0, 1) := by decide +kernel
theorem dX8_spot_48 : decode cX8_spot 48 = .ok (.ireturn, 1) := by decide +kernel
theorem dX8_spot_49 : decode cX8_spot 49 = .ok (.aload_n 0, 1) := by decide +kernel
theorem dX8_spot_50 : decode cX8_spot 50 = .ok (.dup, 1) := by decide +kernel
theorem dX8_spot_51 : decode cX8_spot 51 = .ok (.getfield 191, 3) := by decide +kernel
theorem dX8_spot_54 : decode cX8_spot 54 = .ok (.iconst 1, 1) := by decide +kernel
theorem dX8_spot_55 : decode cX8_spot 55 = .ok (.iadd, 1) := by decide +kernel
theorem dX8_spot_56 : decode cX8_spot 56 = .ok (.putfield 191, 3) := by decide +kernel
theorem dX8_spot_59 : decode cX8_spot 59 = .ok (.aload_n 0, 1) := by decide +kernel
theorem dX8_spot_60 : decode cX8_spot 60 = .ok (.iload_n 1, 1) := by decide +kernel
theorem dX8_spot_61 : decode cX8_spot 61 = .ok (.bipush 33, 2) := by decide +kernel
theorem dX8_spot_63 : decode cX8_spot 63 = .ok (.if_icmp .ne 8, 3) := by decide +kernel
theorem dX8_spot_66 : decode cX8_spot 66 = .ok (.bipush (-4), 2) := by decide +kernel
theorem dX8_spot_68 : decode cX8_spot 68 = .ok (.goto 5, 3) := by decide +kernel
theorem dX8_spot_71 : decode cX8_spot 71 = .ok (.bipush (-5), 2) := by decide +kernel
theorem dX8_spot_73 : decode cX8_spot 73 = .ok (.invokevirtual 232, 3) := by decide +kernel
theorem dX8_spot_76 : decode cX8_spot 76 = .ok (.iconst 2, 1) := by decide +kernel
theorem dX8_spot_77 : decode cX8_spot 77 = .ok (.ireturn, 1) := by decide +kernel
theorem dX8_behind_0 : decode cX8_behind 0 = .ok (.aload_n 0, 1) := by decide +kernel
theorem dX8_behind_1 : decode cX8_behind 1 = .ok (.invokevirtual 200, 3) := by decide +kernel
theorem dX8_behind_4 : decode cX8_behind 4 = .ok (.istore_n 1, 1) := by decide +kernel
theorem dX8_behind_5 : decode cX8_behind 5 = .ok (.iload_n 1, 1) := by decide +kernel
theorem dX8_behind_6 : decode cX8_behind 6 = .ok (.bipush 38, 2) := by decide +kernel
theorem dX8_behind_8 : decode cX8_behind 8 = .ok (.if_icmp .ne 17, 3) := by decide +kernel
theorem dX8_behind_11 : decode cX8_behind 11 = .ok (.aload_n 0, 1) := by decide +kernel
theorem dX8_behind_12 : decode cX8_behind 12 = .ok (.iconst 1, 1) := by decide +kernel
theorem dX8_behind_13 : decode cX8_behind 13 = .ok (.invokevirtual 235, 3) := by decide +kernel
theorem dX8_behind_16 : decode cX8_behind 16 = .ok (.aload_n 0, 1) := by decide +kernel
theorem dX8_behind_17 : decode cX8_behind 17 = .ok (.bipush (-3), 2) := by decide +kernel
theorem dX8_behind_19 : decode cX8_behind 19 = .ok (.invokevirtual 232, 3) := by decide +kernel
theorem dX8_behind_22 : decode cX8_behind 22 = .ok (.goto 114, 3) := by decide +kernel
theorem dX8_behind_25 : decode cX8_behind 25 = .ok (.iload_n 1, 1) := by decide +kernel
theorem dX8_behind_26 : decode cX8_behind 26 = .ok (.bipush 43, 2) := by decide +kernel
theorem dX8_behind_28 : decode cX8_behind 28 = .ok (.if_icmp .eq 9, 3) := by decide +kernel
theorem dX8_behind_31 : decode cX8_behind 31 = .ok (.iload_n 1, 1) := by decide +kernel
theorem dX8_behind_32 : decode cX8_behind 32 = .ok (.bipush 45, 2) := by decide +kernel
theorem dX8_behind_34 : decode cX8_behind 34 = .ok (.if_icmp .ne 27, 3) := by decide +kernel
theorem dX8_behind_37 : decode cX8_behind 37 = .ok (.aload_n 0, 1) := by decide +kernel
theorem dX8_behind_38 : decode cX8_behind 38 = .ok (.iconst 0, 1) := by decide +kernel
theorem dX8_behind_39 : decode cX8_behind 39 = .ok (.invokevirtual 235, 3) := by decide +kernel
theorem dX8_behind_42 : decode cX8_behind 42 = .ok (.aload_n 0, 1) := by decide +kernel
theorem dX8_behind_43 : decode cX8_behind 43 = .ok (.iload_n 1, 1) := by decide +kernel
theorem dX8_behind_44 : decode cX8_behind 44 = .ok (.bipush 43, 2) := by decide +kernel
theorem dX8_behind_46 : decode cX8_behind 46 = .ok (.if_icmp .ne 7, 3) := by decide +kernel
theorem dX8_behind_49 : decode cX8_behind 49 = .ok (.iconst (-1), 1) := by decide +kernel
theorem dX8_behind_50 : decode cX8_behind 50 = .ok (.goto 5, 3) := by decide +kernel
theorem dX8_behind_53 : decode cX8_behind 53 = .ok (.bipush (-2), 2) := by decide +kernel
theorem dX8_behind_55 : decode cX8_behind 55 = .ok (.invokevirtual 232, 3) := by decide +kernel
theorem dX8_behind_58 : decode cX8_behind 58 = .ok (.goto 78, 3) := by decide +kernel
theorem dX8_behind_61 : decode cX8_behind 61 = .ok (.iload_n 1, 1) := by decide +kernel
theorem dX8_behind_62 : decode cX8_behind 62 = .ok (.bipush 41, 2) := by decide +kernel
theorem dX8_behind_64 : decode cX8_behind 64 = .ok (.if_icmp .eq 9, 3) := by decide +kernel
theorem dX8_behind_67 : decode cX8_behind 67 = .ok (.iload_n 1, 1) := by decide +kernel
theorem dX8_behind_68 : decode cX8_behind 68 = .ok (.bipush 59, 2) := by decide +kernel
theorem dX8_behind_70 : decode cX8_behind 70 = .ok (.if_icmp .ne 64, 3) := by decide +kernel
theorem dX8_behind_73 : decode cX8_behind 73 = .ok (.aload_n 0, 1) := by decide +kernel
theorem dX8_behind_74 : decode cX8_behind 74 = .ok (.iconst 0, 1) := by decide +kernel
theorem dX8_behind_75 : decode cX8_behind 75 = .ok (.invokevirtual 235, 3) := by decide +kernel
theorem dX8_behind_78 : decode cX8_behind 78 = .ok (.aload_n 0, 1) := by decide +kernel
theorem dX8_behind_79 : decode cX8_behind 79 = .ok (.getfield 219, 3) := by decide +kernel
theorem dX8_behind_82 : decode cX8_behind 82 = .ok (.ifCond .le 7, 3) := by decide +kernel
theorem dX8_behind_85 : decode cX8_behind 85 = .ok (.iconst 1, 1) := by decide +kernel
theorem dX8_behind_86 : decode cX8_behind 86 = .ok (.goto 4, 3) := by decide +kernel
theorem dX8_behind_89 : decode cX8_behind 89 = .ok (.iconst 0, 1) := by decide +kernel
theorem dX8_behind_90 : decode cX8_behind 90 = .ok (.iload_n 1, 1) := by decide +kernel
theorem dX8_behind_91 : decode cX8_behind 91 = .ok (.bipush 41, 2) := by decide +kernel
theorem dX8_behind_93 : decode cX8_behind 93 = .ok (.if_icmp .ne 7, 3) := by decide +kernel
theorem dX8_behind_96 : decode cX8_behind 96 = .ok (.iconst 1, 1) := by decide +kernel
theorem dX8_behind_97 : decode cX8_behind 97 = .ok (.goto 4, 3) := by decide +kernel
theorem dX8_behind_100 : decode cX8_behind 100 = .ok (.iconst 0, 1) := by decide +kernel
theorem dX8_behind_101 : decode cX8_behind 101 = .ok (.if_icmp .eq 5, 3) := by decide +kernel
theorem dX8_behind_104 : decode cX8_behind 104 = .ok (.iconst 0, 1) := by decide +kernel
theorem dX8_behind_105 : decode cX8_behind 105 = .ok (.ireturn, 1) := by decide +kernel
theorem dX8_behind_106 : decode cX8_behind 106 = .ok (.aload_n 0, 1) := by decide +kernel
theorem dX8_behind_107 : decode cX8_behind 107 = .ok (.dup, 1) := by decide +kernel
theorem dX8_behind_108 : decode cX8_behind 108 = .ok (.getfield 219, 3) := by decide +kernel
theorem dX8_behind_111 : decode cX8_behind 111 = .ok (.aload_n 0, 1) := by decide +kernel
theorem dX8_behind_112 : decode cX8_behind 112 = .ok (.getfield 219, 3) := by decide +kernel
theorem dX8_behind_115 : decode cX8_behind 115 = .ok (.ifCond .le 7, 3) := by decide +kernel
theorem dX8_behind_118 : decode cX8_behind 118 = .ok (.iconst 1, 1) := by decide +kernel
theorem dX8_behind_119 : decode cX8_behind 119 = .ok (.goto 4, 3) := by decide +kernel
theorem dX8_behind_122 : decode cX8_behind 122 = .ok (.iconst 0, 1) := by decide +kernel
theorem dX8_behind_123 : decode cX8_behind 123 = .ok (.isub, 1) := by decide +kernel
theorem dX8_behind_124 : decode cX8_behind 124 = .ok (.putfield 219, 3) := by decide +kernel
theorem dX8_behind_127 : decode cX8_behind 127 = .ok (.aload_n 0, 1) := by decide +kernel
theorem dX8_behind_128 : decode cX8_behind 128 = .ok (.invokevirtual 226, 3) := by decide +kernel
theorem dX8_behind_131 : decode cX8_behind 131 = .ok (.goto 5, 3) := by decide +kernel
theorem dX8_behind_134 : decode cX8_behind 134 = .ok (.iconst 0, 1) := by decide +kernel
theorem dX8_behind_135 : decode cX8_behind 135 = .ok (.ireturn, 1) := by decide +kernel
theorem dX8_behind_136 : decode cX8_behind 136 = .ok (.aload_n 0, 1) := by decide +kernel
theorem dX8_behind_137 : decode cX8_behind 137 = .ok (.dup, 1) := by decide +kernel
theorem dX8_behind_138 : decode cX8_behind 138 = .ok (.getfield 191, 3) := by decide +kernel
theorem dX8_behind_141 : decode cX8_behind 141 = .ok (.iconst 1, 1) := by decide +kernel
theorem dX8_behind_142 : decode cX8_behind 142 = .ok (.iadd, 1) := by decide +kernel
theorem dX8_behind_143 : decode cX8_behind 143 = .ok (.putfield 191, 3) := by decide +kernel
theorem dX8_behind_146 : decode cX8_behind 146 = .ok (.iload_n 1, 1) := by decide +kernel
theorem dX8_behind_147 : decode cX8_behind 147 = .ok (.bipush 59, 2) := by decide +kernel
theorem dX8_behind_149 : decode cX8_behind 149 = .ok (.if_icmp .ne 7, 3) := by decide +kernel
theorem dX8_behind_152 : decode cX8_behind 152 = .ok (.iconst 3, 1) := by decide +kernel
theorem dX8_behind_153 : decode cX8_behind 153 = .ok (.goto 14, 3) := by decide +kernel
theorem dX8_behind_156 : decode cX8_behind 156 = .ok (.iload_n 1, 1) := by decide +kernel
theorem dX8_behind_157 : decode cX8_behind 157 = .ok (.bipush 41, 2) := by decide +kernel
theorem dX8_behind_159 : decode cX8_behind 159 = .ok (.if_icmp .ne 7, 3) := by decide +kernel
theorem dX8_behind_162 : decode cX8_behind 162 = .ok (.iconst 1, 1) := by decide +kernel
theorem dX8_behind_163 : decode cX8_behind 163 = .ok (.goto 4, 3) := by decide +kernel
theorem dX8_behind_166 : decode cX8_behind 166 = .ok (.iconst 2, 1) := by decide +kernel
theorem dX8_behind_167 : decode cX8_behind 167 = .ok (.ireturn, 1) := by decide +kernel
theorem dX8_area_0 : decode cX8_area 0 = .ok (.aload_n 0, 1) := by decide +kernel
theorem dX8_area_1 : decode cX8_area 1 = .ok (.getfield 13, 3) := by decide +kernel
theorem dX8_area_4 : decode cX8_area 4 = .ok (.sipush 546, 3) := by decide +kernel
theorem dX8_area_7 : decode cX8_area 7 = .ok (.iconst 0, 1) := by decide +kernel
theorem dX8_area_8 : decode cX8_area 8 = .ok (.iastore, 1) := by decide +kernel
theorem dX8_area_9 : decode cX8_area 9 = .ok (.aload_n 0, 1) := by decide +kernel
theorem dX8_area_10 : decode cX8_area 10 = .ok (.getfield 13, 3) := by decide +kernel
theorem dX8_area_13 : decode cX8_area 13 = .ok (.sipush 547, 3) := by decide +kernel
theorem dX8_area_16 : decode cX8_area 16 = .ok (.iconst 0, 1) := by decide +kernel
theorem dX8_area_17 : decode cX8_area 17 = .ok (.iastore, 1) := by decide +kernel
theorem dX8_area_18 : decode cX8_area 18 = .ok (.aload_n 0, 1) := by decide +kernel
theorem dX8_area_19 : decode cX8_area 19 = .ok (.iconst 0, 1) := by decide +kernel
theorem dX8_area_20 : decode cX8_area 20 = .ok (.putfield 191, 3) := by decide +kernel
theorem dX8_area_23 : decode cX8_area 23 = .ok (.aload_n 0, 1) := by decide +kernel
theorem dX8_area_24 : decode cX8_area 24 = .ok (.iconst 0, 1) := by decide +kernel
theorem dX8_area_25 : decode cX8_area 25 = .ok (.putfield 219, 3) := by decide +kernel
theorem dX8_area_28 : decode cX8_area 28 = .ok (.iconst 2, 1) := by decide +kernel
theorem dX8_area_29 : decode cX8_area 29 = .ok (.istore_n 1, 1) := by decide +kernel
theorem dX8_area_30 : decode cX8_area 30 = .ok (.iload_n 1, 1) := by decide +kernel
theorem dX8_area_31 : decode cX8_area 31 = .ok (.iconst 1, 1) := by decide +kernel
theorem dX8_area_32 : decode cX8_area 32 = .ok (.if_icmp .eq 8, 3) := by decide +kernel
theorem dX8_area_35 : decode cX8_area 35 = .ok (.iload_n 1, 1) := by decide +kernel
theorem dX8_area_36 : decode cX8_area 36 = .ok (.iconst 2, 1) := by decide +kernel
theorem dX8_area_37 : decode cX8_area 37 = .ok (.if_icmp .ne 23, 3) := by decide +kernel
theorem dX8_area_40 : decode cX8_area 40 = .ok (.iload_n 1, 1) := by decide +kernel
theorem dX8_area_41 : decode cX8_area 41 = .ok (.iconst 2, 1) := by decide +kernel
theorem dX8_area_42 : decode cX8_area 42 = .ok (.if_icmp .ne 10, 3) := by decide +kernel
theorem dX8_area_45 : decode cX8_area 45 = .ok (.aload_n 0, 1) := by decide +kernel
theorem dX8_area_46 : decode cX8_area 46 = .ok (.invokevirtual 239, 3) := by decide +kernel
theorem dX8_area_49 : decode cX8_area 49 = .ok (.goto 7, 3) := by decide +kernel
theorem dX8_area_52 : decode cX8_area 52 = .ok (.aload_n 0, 1) := by decide +kernel
theorem dX8_area_53 : decode cX8_area 53 = .ok (.invokevirtual 242, 3) := by decide +kernel
theorem dX8_area_56 : decode cX8_area 56 = .ok (.istore_n 1, 1) := by decide +kernel
theorem dX8_area_57 : decode cX8_area 57 = .ok (.goto (-27), 3) := by decide +kernel
theorem dX8_area_60 : decode cX8_area 60 = .ok (.iload_n 1, 1) := by decide +kernel
theorem dX8_area_61 : decode cX8_area 61 = .ok (.ifCond .eq 10, 3) := by decide +kernel
theorem dX8_area_64 : decode cX8_area 64 = .ok (.aload_n 0, 1) := by decide +kernel
theorem dX8_area_65 : decode cX8_area 65 = .ok (.invokevirtual 200, 3) := by decide +kernel
theorem dX8_area_68 : decode cX8_area 68 = .ok (.ifCond .lt 11, 3) := by decide +kernel
theorem dX8_area_71 : decode cX8_area 71 = .ok (.bipush (-10), 2) := by decide +kernel
theorem dX8_area_73 : decode cX8_area 73 = .ok (.aload_n 0, 1) := by decide +kernel
theorem dX8_area_74 : decode cX8_area 74 = .ok (.getfield 197, 3) := by decide +kernel
theorem dX8_area_77 : decode cX8_area 77 = .ok (.isub, 1) := by decide +kernel
theorem dX8_area_78 : decode cX8_area 78 = .ok (.ireturn, 1) := by decide +kernel
theorem dX8_area_79 : decode cX8_area 79 = .ok (.aload_n 0, 1) := by decide +kernel
theorem dX8_area_80 : decode cX8_area 80 = .ok (.sipush 546, 3) := by decide +kernel
theorem dX8_area_83 : decode cX8_area 83 = .ok (.iconst 0, 1) := by decide +kernel
theorem dX8_area_84 : decode cX8_area 84 = .ok (.invokevirtual 245, 3) := by decide +kernel
theorem dX8_area_87 : decode cX8_area 87 = .ok (.aload_n 0, 1) := by decide +kernel
theorem dX8_area_88 : decode cX8_area 88 = .ok (.getfield 13, 3) := by decide +kernel
theorem dX8_area_91 : decode cX8_area 91 = .ok (.iconst 1, 1) := by decide +kernel
theorem dX8_area_92 : decode cX8_area 92 = .ok (.iaload, 1) := by decide +kernel
theorem dX8_area_93 : decode cX8_area 93 = .ok (.ireturn, 1) := by decide +kernel
theorem dX8_isCovered_0 : decode cX8_isCovered 0 = .ok (.iconst 0, 1) := by decide +kernel
theorem dX8_isCovered_1 : decode cX8_isCovered 1 = .ok (.istore_n 3, 1) := by decide +kernel
theorem dX8_isCovered_2 : decode cX8_isCovered 2 = .ok (.iconst 0, 1) := by decide +kernel
theorem dX8_isCovered_3 : decode cX8_isCovered 3 = .ok (.istore 4, 2) := by decide +kernel
theorem dX8_isCovered_5 : decode cX8_isCovered 5 = .ok (.iload 4, 2) := by decide +kernel
theorem dX8_isCovered_7 : decode cX8_isCovered 7 = .ok (.aload_n 0, 1) := by decide +kernel
theorem dX8_isCovered_8 : decode cX8_isCovered 8 = .ok (.getfield 13, 3) := by decide +kernel
theorem dX8_isCovered_11 : decode cX8_isCovered 11 = .ok (.iconst 0, 1) := by decide +kernel
theorem dX8_isCovered_12 : decode cX8_isCovered 12 = .ok (.iaload, 1) := by decide +kernel
theorem dX8_isCovered_13 : decode cX8_isCovered 13 = .ok (.if_icmp .ge 232, 3) := by decide +kernel
theorem dX8_isCovered_16 : decode cX8_isCovered 16 = .ok (.aload_n 0, 1) := by decide +kernel
theorem dX8_isCovered_17 : decode cX8_isCovered 17 = .ok (.getfield 13, 3) := by decide +kernel
theorem dX8_isCovered_20 : decode cX8_isCovered 20 = .ok (.iconst 2, 1) := by decide +kernel
theorem dX8_isCovered_21 : decode cX8_isCovered 21 = .ok (.iload 4, 2) := by decide +kernel
theorem dX8_isCovered_23 : decode cX8_isCovered 23 = .ok (.iadd, 1) := by decide +kernel
theorem dX8_isCovered_24 : decode cX8_isCovered 24 = .ok (.iaload, 1) := by decide +kernel
theorem dX8_isCovered_25 : decode cX8_isCovered 25 = .ok (.istore 5, 2) := by decide +kernel
theorem dX8_isCovered_27 : decode cX8_isCovered 27 = .ok (.iload 5, 2) := by decide +kernel
theorem dX8_isCovered_29 : decode cX8_isCovered 29 = .ok (.bipush (-4), 2) := by decide +kernel
theorem dX8_isCovered_31 : decode cX8_isCovered 31 = .ok (.if_icmp .ne 30, 3) := by decide +kernel
theorem dX8_isCovered_34 : decode cX8_isCovered 34 = .ok (.aload_n 0, 1) := by decide +kernel
theorem dX8_isCovered_35 : decode cX8_isCovered 35 = .ok (.getfield 39, 3) := by decide +kernel
theorem dX8_isCovered_38 : decode cX8_isCovered 38 = .ok (.iload_n 3, 1) := by decide +kernel
theorem dX8_isCovered_39 : decode cX8_isCovered 39 = .ok (.iconst 1, 1) := by decide +kernel
theorem dX8_isCovered_40 : decode cX8_isCovered 40 = .ok (.isub, 1) := by decide +kernel
theorem dX8_isCovered_41 : decode cX8_isCovered 41 = .ok (.aload_n 0, 1) := by decide +kernel
theorem dX8_isCovered_42 : decode cX8_isCovered 42 = .ok (.getfield 39, 3) := by decide +kernel
theorem dX8_isCovered_45 : decode cX8_isCovered 45 = .ok (.iload_n 3, 1) := by decide +kernel
theorem dX8_isCovered_46 : decode cX8_isCovered 46 = .ok (.iconst 1, 1) := by decide +kernel
theorem dX8_isCovered_47 : decode cX8_isCovered 47 = .ok (.isub, 1) := by decide +kernel
theorem dX8_isCovered_48 : decode cX8_isCovered 48 = .ok (.baload, 1) := by decide +kernel
theorem dX8_isCovered_49 : decode cX8_isCovered 49 = .ok (.ifCond .ne 7, 3) := by decide +kernel
theorem dX8_isCovered_52 : decode cX8_isCovered 52 = .ok (.iconst 1, 1) := by decide +kernel
theorem dX8_isCovered_53 : decode cX8_isCovered 53 = .ok (.goto 4, 3) := by decide +kernel
theorem dX8_isCovered_56 : decode cX8_isCovered 56 = .ok (.iconst 0, 1) := by decide +kernel
theorem dX8_isCovered_57 : decode cX8_isCovered 57 = .ok (.bastore, 1) := by decide +kernel
theorem dX8_isCovered_58 : decode cX8_isCovered 58 = .ok (.goto 181, 3) := by decide +kernel
theorem dX8_isCovered_61 : decode cX8_isCovered 61 = .ok (.iload 5, 2) := by decide +kernel
theorem dX8_isCovered_63 : decode cX8_isCovered 63 = .ok (.ifCond .ge 99, 3) := by decide +kernel
theorem dX8_isCovered_66 : decode cX8_isCovered 66 = .ok (.iinc 3 (-1), 3) := by decide +kernel
theorem dX8_isCovered_69 : decode cX8_isCovered 69 = .ok (.aload_n 0, 1) := by decide +kernel
theorem dX8_isCovered_70 : decode cX8_isCovered 70 = .ok (.getfield 39, 3) := by decide +kernel
theorem dX8_isCovered_73 : decode cX8_isCovered 73 = .ok (.iload_n 3, 1) := by decide +kernel
theorem dX8_isCovered_74 : decode cX8_isCovered 74 = .ok (.iconst 1, 1) := by decide +kernel
theorem dX8_isCovered_75 : decode cX8_isCovered 75 = .ok (.isub, 1) := by decide +kernel
theorem dX8_isCovered_76 : decode cX8_isCovered 76 = .ok (.baload, 1) := by decide +kernel
theorem dX8_isCovered_77 : decode cX8_isCovered 77 = .ok (.istore 6, 2) := by decide +kernel
theorem dX8_isCovered_79 : decode cX8_isCovered 79 = .ok (.aload_n 0, 1) := by decide +kernel
theorem dX8_isCovered_80 : decode cX8_isCovered 80 = .ok (.getfield 39, 3) := by decide +kernel
theorem dX8_isCovered_83 : decode cX8_isCovered 83 = .ok (.iload_n 3, 1) := by decide +kernel
theorem dX8_isCovered_84 : decode cX8_isCovered 84 = .ok (.baload, 1) := by decide +kernel
theorem dX8_isCovered_85 : decode cX8_isCovered 85 = .ok (.istore 7, 2) := by decide +kernel
theorem dX8_isCovered_87 : decode cX8_isCovered 87 = .ok (.aload_n 0, 1) := by decide +kernel
theorem dX8_isCovered_88 : decode cX8_isCovered 88 = .ok (.getfield 39, 3) := by decide +kernel
theorem dX8_isCovered_91 : decode cX8_isCovered 91 = .ok (.iload_n 3, 1) := by decide +kernel
theorem dX8_isCovered_92 : decode cX8_isCovered 92 = .ok (.iconst 1, 1) := by decide +kernel
theorem dX8_isCovered_93 : decode cX8_isCovered 93 = .ok (.isub, 1) := by decide +kernel
theorem dX8_isCovered_94 : decode cX8_isCovered 94 = .ok (.iload 5, 2) := by decide +kernel
theorem dX8_isCovered_96 : decode cX8_isCovered 96 = .ok (.iconst (-1), 1) := by decide +kernel
theorem dX8_isCovered_97 : decode cX8_isCovered 97 = .ok (.if_icmp .ne 21, 3) := by decide +kernel
theorem dX8_isCovered_100 : decode cX8_isCovered 100 = .ok (.iload 6, 2) := by decide +kernel
theorem dX8_isCovered_102 : decode cX8_isCovered 102 = .ok (.ifCond .ne 8, 3) := by decide +kernel
theorem dX8_isCovered_105 : decode cX8_isCovered 105 = .ok (.iload 7, 2) := by decide +kernel
theorem dX8_isCovered_107 : decode cX8_isCovered 107 = .ok (.ifCond .eq 7, 3) := by decide +kernel
theorem dX8_isCovered_110 : decode cX8_isCovered 110 = .ok (.iconst 1, 1) := by decide +kernel
theorem dX8_isCovered_111 : decode cX8_isCovered 111 = .ok (.goto 47, 3) := by decide +kernel
theorem dX8_isCovered_114 : decode cX8_isCovered 114 = .ok (.iconst 0, 1) := by decide +kernel
theorem dX8_isCovered_115 : decode cX8_isCovered 115 = .ok (.goto 43, 3) := by decide +kernel
theorem dX8_isCovered_118 : decode cX8_isCovered 118 = .ok (.iload 5, 2) := by decide +kernel
theorem dX8_isCovered_120 : decode cX8_isCovered 120 = .ok (.bipush (-2), 2) := by decide +kernel
theorem dX8_isCovered_122 : decode cX8_isCovered 122 = .ok (.if_icmp .ne 21, 3) := by decide +kernel
theorem dX8_isCovered_125 : decode cX8_isCovered 125 = .ok (.iload 6, 2) := by decide +kernel
theorem dX8_isCovered_127 : decode cX8_isCovered 127 = .ok (.ifCond .eq 12, 3) := by decide +kernel
theorem dX8_isCovered_130 : decode cX8_isCovered 130 = .ok (.iload 7, 2) := by decide +kernel
theorem dX8_isCovered_132 : decode cX8_isCovered 132 = .ok (.ifCond .ne 7, 3) := by decide +kernel
theorem dX8_isCovered_135 : decode cX8_isCovered 135 = .ok (.iconst 1, 1) := by decide +kernel
theorem dX8_isCovered_136 : decode cX8_isCovered 136 = .ok (.goto 22, 3) := by decide +kernel
theorem dX8_isCovered_139 : decode cX8_isCovered 139 = .ok (.iconst 0, 1) := by decide +kernel
theorem dX8_isCovered_140 : decode cX8_isCovered 140 = .ok (.goto 18, 3) := by decide +kernel
theorem dX8_isCovered_143 : decode cX8_isCovered 143 = .ok (.iload 6, 2) := by decide +kernel
theorem dX8_isCovered_145 : decode cX8_isCovered 145 = .ok (.ifCond .eq 12, 3) := by decide +kernel
theorem dX8_isCovered_148 : decode cX8_isCovered 148 = .ok (.iload 7, 2) := by decide +kernel
theorem dX8_isCovered_150 : decode cX8_isCovered 150 = .ok (.ifCond .eq 7, 3) := by decide +kernel
theorem dX8_isCovered_153 : decode cX8_isCovered 153 = .ok (.iconst 1, 1) := by decide +kernel
theorem dX8_isCovered_154 : decode cX8_isCovered 154 = .ok (.goto 4, 3) := by decide +kernel
theorem dX8_isCovered_157 : decode cX8_isCovered 157 = .ok (.iconst 0, 1) := by decide +kernel
theorem dX8_isCovered_158 : decode cX8_isCovered 158 = .ok (.bastore, 1) := by decide +kernel
theorem dX8_isCovered_159 : decode cX8_isCovered 159 = .ok (.goto 80, 3) := by decide +kernel
theorem dX8_isCovered_162 : decode cX8_isCovered 162 = .ok (.bipush 122, 2) := by decide +kernel
theorem dX8_isCovered_164 : decode cX8_isCovered 164 = .ok (.iconst 4, 1) := by decide +kernel
theorem dX8_isCovered_165 : decode cX8_isCovered 165 = .ok (.iload 5, 2) := by decide +kernel
theorem dX8_isCovered_167 : decode cX8_isCovered 167 = .ok (.imul, 1) := by decide +kernel
theorem dX8_isCovered_168 : decode cX8_isCovered 168 = .ok (.iadd, 1) := by decide +kernel
theorem dX8_isCovered_169 : decode cX8_isCovered 169 = .ok (.istore 6, 2) := by decide +kernel
theorem dX8_isCovered_171 : decode cX8_isCovered 171 = .ok (.aload_n 0, 1) := by decide +kernel
theorem dX8_isCovered_172 : decode cX8_isCovered 172 = .ok (.getfield 39, 3) := by decide +kernel
theorem dX8_isCovered_175 : decode cX8_isCovered 175 = .ok (.iload_n 3, 1) := by decide +kernel
theorem dX8_isCovered_176 : decode cX8_isCovered 176 = .ok (.iload_n 1, 1) := by decide +kernel
theorem dX8_isCovered_177 : decode cX8_isCovered 177 = .ok (.i2l, 1) := by decide +kernel
theorem dX8_isCovered_178 : decode cX8_isCovered 178 = .ok (.aload_n 0, 1) := by decide +kernel
theorem dX8_isCovered_179 : decode cX8_isCovered 179 = .ok (.getfield 13, 3) := by decide +kernel
theorem dX8_isCovered_182 : decode cX8_isCovered 182 = .ok (.iload 6, 2) := by decide +kernel
theorem dX8_isCovered_184 : decode cX8_isCovered 184 = .ok (.iaload, 1) := by decide +kernel
theorem dX8_isCovered_185 : decode cX8_isCovered 185 = .ok (.i2l, 1) := by decide +kernel
theorem dX8_isCovered_186 : decode cX8_isCovered 186 = .ok (.aload_n 0, 1) := by decide +kernel
theorem dX8_isCovered_187 : decode cX8_isCovered 187 = .ok (.getfield 13, 3) := by decide +kernel
theorem dX8_isCovered_190 : decode cX8_isCovered 190 = .ok (.iload 6, 2) := by decide +kernel
theorem dX8_isCovered_192 : decode cX8_isCovered 192 = .ok (.iconst 1, 1) := by decide +kernel
theorem dX8_isCovered_193 : decode cX8_isCovered 193 = .ok (.iadd, 1) := by decide +kernel
theorem dX8_isCovered_194 : decode cX8_isCovered 194 = .ok (.iaload, 1) := by decide +kernel
theorem dX8_isCovered_195 : decode cX8_isCovered 195 = .ok (.i2l, 1) := by decide +kernel
theorem dX8_isCovered_196 : decode cX8_isCovered 196 = .ok (.invokestatic 49, 3) := by decide +kernel
theorem dX8_isCovered_199 : decode cX8_isCovered 199 = .ok (.ifCond .eq 35, 3) := by decide +kernel
theorem dX8_isCovered_202 : decode cX8_isCovered 202 = .ok (.iload_n 2, 1) := by decide +kernel
theorem dX8_isCovered_203 : decode cX8_isCovered 203 = .ok (.i2l, 1) := by decide +kernel
theorem dX8_isCovered_204 : decode cX8_isCovered 204 = .ok (.aload_n 0, 1) := by decide +kernel
theorem dX8_isCovered_205 : decode cX8_isCovered 205 = .ok (.getfield 13, 3) := by decide +kernel
theorem dX8_isCovered_208 : decode cX8_isCovered 208 = .ok (.iload 6, 2) := by decide +kernel
theorem dX8_isCovered_210 : decode cX8_isCovered 210 = .ok (.iconst 2, 1) := by decide +kernel
theorem dX8_isCovered_211 : decode cX8_isCovered 211 = .ok (.iadd, 1) := by decide +kernel
theorem dX8_isCovered_212 : decode cX8_isCovered 212 = .ok (.iaload, 1) := by decide +kernel
theorem dX8_isCovered_213 : decode cX8_isCovered 213 = .ok (.i2l, 1) := by decide +kernel
theorem dX8_isCovered_214 : decode cX8_isCovered 214 = .ok (.aload_n 0, 1) := by decide +kernel
theorem dX8_isCovered_215 : decode cX8_isCovered 215 = .ok (.getfield 13, 3) := by decide +kernel
theorem dX8_isCovered_218 : decode cX8_isCovered 218 = .ok (.iload 6, 2) := by decide +kernel
theorem dX8_isCovered_220 : decode cX8_isCovered 220 = .ok (.iconst 3, 1) := by decide +kernel
theorem dX8_isCovered_221 : decode cX8_isCovered 221 = .ok (.iadd, 1) := by decide +kernel
theorem dX8_isCovered_222 : decode cX8_isCovered 222 = .ok (.iaload, 1) := by decide +kernel
theorem dX8_isCovered_223 : decode cX8_isCovered 223 = .ok (.i2l, 1) := by decide +kernel
theorem dX8_isCovered_224 : decode cX8_isCovered 224 = .ok (.invokestatic 49, 3) := by decide +kernel
theorem dX8_isCovered_227 : decode cX8_isCovered 227 = .ok (.ifCond .eq 7, 3) := by decide +kernel
theorem dX8_isCovered_230 : decode cX8_isCovered 230 = .ok (.iconst 1, 1) := by decide +kernel
theorem dX8_isCovered_231 : decode cX8_isCovered 231 = .ok (.goto 4, 3) := by decide +kernel
theorem dX8_isCovered_234 : decode cX8_isCovered 234 = .ok (.iconst 0, 1) := by decide +kernel
theorem dX8_isCovered_235 : decode cX8_isCovered 235 = .ok (.bastore, 1) := by decide +kernel
theorem dX8_isCovered_236 : decode cX8_isCovered 236 = .ok (.iinc 3 1, 3) := by decide +kernel
theorem dX8_isCovered_239 : decode cX8_isCovered 239 = .ok (.iinc 4 1, 3) := by decide +kernel
theorem dX8_isCovered_242 : decode cX8_isCovered 242 = .ok (.goto (-237), 3) := by decide +kernel
theorem dX8_isCovered_245 : decode cX8_isCovered 245 = .ok (.iload_n 3, 1) := by decide +kernel
theorem dX8_isCovered_246 : decode cX8_isCovered 246 = .ok (.ifCond .le 16, 3) := by decide +kernel
theorem dX8_isCovered_249 : decode cX8_isCovered 249 = .ok (.aload_n 0, 1) := by decide +kernel
theorem dX8_isCovered_250 : decode cX8_isCovered 250 = .ok (.getfield 39, 3) := by decide +kernel
theorem dX8_isCovered_253 : decode cX8_isCovered 253 = .ok (.iconst 0, 1) := by decide +kernel
theorem dX8_isCovered_254 : decode cX8_isCovered 254 = .ok (.baload, 1) := by decide +kernel
theorem dX8_isCovered_255 : decode cX8_isCovered 255 = .ok (.ifCond .eq 7, 3) := by decide +kernel
theorem dX8_isCovered_258 : decode cX8_isCovered 258 = .ok (.iconst 1, 1) := by decide +kernel
theorem dX8_isCovered_259 : decode cX8_isCovered 259 = .ok (.goto 4, 3) := by decide +kernel
theorem dX8_isCovered_262 : decode cX8_isCovered 262 = .ok (.iconst 0, 1) := by decide +kernel
theorem dX8_isCovered_263 : decode cX8_isCovered 263 = .ok (.ireturn, 1) := by decide +kernel
theorem dX8_linesArea_0 : decode cX8_linesArea 0 = .ok (.aload_n 0, 1) := by decide +kernel
theorem dX8_linesArea_1 : decode cX8_linesArea 1 = .ok (.iconst 0, 1) := by decide +kernel
theorem dX8_linesArea_2 : decode cX8_linesArea 2 = .ok (.putfield 113, 3) := by decide +kernel
theorem dX8_linesArea_5 : decode cX8_linesArea 5 = .ok (.iconst 0, 1) := by decide +kernel
theorem dX8_linesArea_6 : decode cX8_linesArea 6 = .ok (.istore_n 1, 1) := by decide +kernel
theorem dX8_linesArea_7 : decode cX8_linesArea 7 = .ok (.iload_n 1, 1) := by decide +kernel
theorem dX8_linesArea_8 : decode cX8_linesArea 8 = .ok (.aload_n 0, 1) := by decide +kernel
theorem dX8_linesArea_9 : decode cX8_linesArea 9 = .ok (.getfield 7, 3) := by decide +kernel
theorem dX8_linesArea_12 : decode cX8_linesArea 12 = .ok (.iconst 0, 1) := by decide +kernel
theorem dX8_linesArea_13 : decode cX8_linesArea 13 = .ok (.iaload, 1) := by decide +kernel
theorem dX8_linesArea_14 : decode cX8_linesArea 14 = .ok (.if_icmp .ge 49, 3) := by decide +kernel
theorem dX8_linesArea_17 : decode cX8_linesArea 17 = .ok (.aload_n 0, 1) := by decide +kernel
theorem dX8_linesArea_18 : decode cX8_linesArea 18 = .ok (.iload_n 1, 1) := by decide +kernel
theorem dX8_linesArea_19 : decode cX8_linesArea 19 = .ok (.invokevirtual 57, 3) := by decide +kernel
theorem dX8_linesArea_22 : decode cX8_linesArea 22 = .ok (.ifCond .eq 35, 3) := by decide +kernel
theorem dX8_linesArea_25 : decode cX8_linesArea 25 = .ok (.aload_n 0, 1) := by decide +kernel
theorem dX8_linesArea_26 : decode cX8_linesArea 26 = .ok (.aload_n 0, 1) := by decide +kernel
theorem dX8_linesArea_27 : decode cX8_linesArea 27 = .ok (.getfield 7, 3) := by decide +kernel
theorem dX8_linesArea_30 : decode cX8_linesArea 30 = .ok (.sipush 128, 3) := by decide +kernel
theorem dX8_linesArea_33 : decode cX8_linesArea 33 = .ok (.iload_n 1, 1) := by decide +kernel
theorem dX8_linesArea_34 : decode cX8_linesArea 34 = .ok (.iadd, 1) := by decide +kernel
theorem dX8_linesArea_35 : decode cX8_linesArea 35 = .ok (.iaload, 1) := by decide +kernel
theorem dX8_linesArea_36 : decode cX8_linesArea 36 = .ok (.aload_n 0, 1) := by decide +kernel
theorem dX8_linesArea_37 : decode cX8_linesArea 37 = .ok (.getfield 7, 3) := by decide +kernel
theorem dX8_linesArea_40 : decode cX8_linesArea 40 = .ok (.sipush 250, 3) := by decide +kernel
theorem dX8_linesArea_43 : decode cX8_linesArea 43 = .ok (.iload_n 1, 1) := by decide +kernel
theorem dX8_linesArea_44 : decode cX8_linesArea 44 = .ok (.iadd, 1) := by decide +kernel
theorem dX8_linesArea_45 : decode cX8_linesArea 45 = .ok (.iaload, 1) := by decide +kernel
theorem dX8_linesArea_46 : decode cX8_linesArea 46 = .ok (.invokevirtual 248, 3) := by decide +kernel
theorem dX8_linesArea_49 : decode cX8_linesArea 49 = .ok (.ifCond .eq 8, 3) := by decide +kernel
theorem dX8_linesArea_52 : decode cX8_linesArea 52 = .ok (.aload_n 0, 1) := by decide +kernel
theorem dX8_linesArea_53 : decode cX8_linesArea 53 = .ok (.iload_n 1, 1) := by decide +kernel
theorem dX8_linesArea_54 : decode cX8_linesArea 54 = .ok (.invokevirtual 124, 3) := by decide +kernel
theorem dX8_linesArea_57 : decode cX8_linesArea 57 = .ok (.iinc 1 1, 3) := by decide +kernel
theorem dX8_linesArea_60 : decode cX8_linesArea 60 = .ok (.goto (-53), 3) := by decide +kernel
theorem dX8_linesArea_63 : decode cX8_linesArea 63 = .ok (.return_, 1) := by decide +kernel
theorem dX8_inside_0 : decode cX8_inside 0 = .ok (.aload_n 0, 1) := by decide +kernel
theorem dX8_inside_1 : decode cX8_inside 1 = .ok (.invokevirtual 251, 3) := by decide +kernel
theorem dX8_inside_4 : decode cX8_inside 4 = .ok (.iconst 0, 1) := by decide +kernel
theorem dX8_inside_5 : decode cX8_inside 5 = .ok (.istore_n 1, 1) := by decide +kernel
theorem dX8_inside_6 : decode cX8_inside 6 = .ok (.iconst 0, 1) := by decide +kernel
theorem dX8_inside_7 : decode cX8_inside 7 = .ok (.istore_n 2, 1) := by decide +kernel
theorem dX8_inside_8 : decode cX8_inside 8 = .ok (.iload_n 2, 1) := by decide +kernel
theorem dX8_inside_9 : decode cX8_inside 9 = .ok (.aload_n 0, 1) := by decide +kernel
theorem dX8_inside_10 : decode cX8_inside 10 = .ok (.getfield 113, 3) := by decide +kernel
theorem dX8_inside_13 : decode cX8_inside 13 = .ok (.if_icmp .ge 22, 3) := by decide +kernel
theorem dX8_inside_16 : decode cX8_inside 16 = .ok (.iload_n 1, 1) := by decide +kernel
theorem dX8_inside_17 : decode cX8_inside 17 = .ok (.aload_n 0, 1) := by decide +kernel
theorem dX8_inside_18 : decode cX8_inside 18 = .ok (.aload_n 0, 1) := by decide +kernel
theorem dX8_inside_19 : decode cX8_inside 19 = .ok (.getfield 33, 3) := by decide +kernel
theorem dX8_inside_22 : decode cX8_inside 22 = .ok (.iload_n 2, 1) := by decide +kernel
theorem dX8_inside_23 : decode cX8_inside 23 = .ok (.iaload, 1) := by decide +kernel
theorem dX8_inside_24 : decode cX8_inside 24 = .ok (.invokevirtual 143, 3) := by decide +kernel
theorem dX8_inside_27 : decode cX8_inside 27 = .ok (.iadd, 1) := by decide +kernel
theorem dX8_inside_28 : decode cX8_inside 28 = .ok (.istore_n 1, 1) := by decide +kernel
theorem dX8_inside_29 : decode cX8_inside 29 = .ok (.iinc 2 1, 3) := by decide +kernel
theorem dX8_inside_32 : decode cX8_inside 32 = .ok (.goto (-24), 3) := by decide +kernel
theorem dX8_inside_35 : decode cX8_inside 35 = .ok (.iload_n 1, 1) := by decide +kernel
theorem dX8_inside_36 : decode cX8_inside 36 = .ok (.ireturn, 1) := by decide +kernel
theorem dX8_covers_0 : decode cX8_covers 0 = .ok (.iload_n 1, 1) := by decide +kernel
theorem dX8_covers_1 : decode cX8_covers 1 = .ok (.invokestatic 53, 3) := by decide +kernel
theorem dX8_covers_4 : decode cX8_covers 4 = .ok (.ifCond .eq 10, 3) := by decide +kernel
theorem dX8_covers_7 : decode cX8_covers 7 = .ok (.iload_n 2, 1) := by decide +kernel
theorem dX8_covers_8 : decode cX8_covers 8 = .ok (.invokestatic 53, 3) := by decide +kernel
theorem dX8_covers_11 : decode cX8_covers 11 = .ok (.ifCond .ne 8, 3) := by decide +kernel
theorem dX8_covers_14 : decode cX8_covers 14 = .ok (.aload_n 0, 1) := by decide +kernel
theorem dX8_covers_15 : decode cX8_covers 15 = .ok (.invokevirtual 81, 3) := by decide +kernel
theorem dX8_covers_18 : decode cX8_covers 18 = .ok (.ireturn, 1) := by decide +kernel
theorem dX8_covers_19 : decode cX8_covers 19 = .ok (.aload_n 0, 1) := by decide +kernel
theorem dX8_covers_20 : decode cX8_covers 20 = .ok (.iload_n 1, 1) := by decide +kernel
theorem dX8_covers_21 : decode cX8_covers 21 = .ok (.iload_n 2, 1) := by decide +kernel
theorem dX8_covers_22 : decode cX8_covers 22 = .ok (.invokevirtual 248, 3) := by decide +kernel
theorem dX8_covers_25 : decode cX8_covers 25 = .ok (.ifCond .eq 7, 3) := by decide +kernel
theorem dX8_covers_28 : decode cX8_covers 28 = .ok (.iconst 1, 1) := by decide +kernel
theorem dX8_covers_29 : decode cX8_covers 29 = .ok (.goto 4, 3) := by decide +kernel
theorem dX8_covers_32 : decode cX8_covers 32 = .ok (.iconst 0, 1) := by decide +kernel
theorem dX8_covers_33 : decode cX8_covers 33 = .ok (.ireturn, 1) := by decide +kernel
theorem dX8_found_0 : decode cX8_found 0 = .ok (.iload_n 1, 1) := by decide +kernel
theorem dX8_found_1 : decode cX8_found 1 = .ok (.ifCond .ge 8, 3) := by decide +kernel
theorem dX8_found_4 : decode cX8_found 4 = .ok (.aload_n 0, 1) := by decide +kernel
theorem dX8_found_5 : decode cX8_found 5 = .ok (.invokevirtual 81, 3) := by decide +kernel
theorem dX8_found_8 : decode cX8_found 8 = .ok (.ireturn, 1) := by decide +kernel
theorem dX8_found_9 : decode cX8_found 9 = .ok (.aload_n 0, 1) := by decide +kernel
theorem dX8_found_10 : decode cX8_found 10 = .ok (.invokevirtual 251, 3) := by decide +kernel
theorem dX8_found_13 : decode cX8_found 13 = .ok (.iload_n 1, 1) := by decide +kernel
theorem dX8_found_14 : decode cX8_found 14 = .ok (.aload_n 0, 1) := by decide +kernel
theorem dX8_found_15 : decode cX8_found 15 = .ok (.getfield 113, 3) := by decide +kernel
theorem dX8_found_18 : decode cX8_found 18 = .ok (.if_icmp .ge 20, 3) := by decide +kernel
theorem dX8_found_21 : decode cX8_found 21 = .ok (.aload_n 0, 1) := by decide +kernel
theorem dX8_found_22 : decode cX8_found 22 = .ok (.getfield 7, 3) := by decide +kernel
theorem dX8_found_25 : decode cX8_found 25 = .ok (.bipush 6, 2) := by decide +kernel
theorem dX8_found_27 : decode cX8_found 27 = .ok (.aload_n 0, 1) := by decide +kernel
theorem dX8_found_28 : decode cX8_found 28 = .ok (.getfield 33, 3) := by decide +kernel
theorem dX8_found_31 : decode cX8_found 31 = .ok (.iload_n 1, 1) := by decide +kernel
theorem dX8_found_32 : decode cX8_found 32 = .ok (.iaload, 1) := by decide +kernel
theorem dX8_found_33 : decode cX8_found 33 = .ok (.iadd, 1) := by decide +kernel
theorem dX8_found_34 : decode cX8_found 34 = .ok (.iaload, 1) := by decide +kernel
theorem dX8_found_35 : decode cX8_found 35 = .ok (.goto 5, 3) := by decide +kernel
theorem dX8_found_38 : decode cX8_found 38 = .ok (.ldc 152, 2) := by decide +kernel
theorem dX8_found_40 : decode cX8_found 40 = .ok (.ireturn, 1) := by decide +kernel
theorem dX8_mow_0 : decode cX8_mow 0 = .ok (.aload_n 0, 1) := by decide +kernel
theorem dX8_mow_1 : decode cX8_mow 1 = .ok (.invokevirtual 251, 3) := by decide +kernel
theorem dX8_mow_4 : decode cX8_mow 4 = .ok (.aload_n 0, 1) := by decide +kernel
theorem dX8_mow_5 : decode cX8_mow 5 = .ok (.invokevirtual 135, 3) := by decide +kernel
theorem dX8_mow_8 : decode cX8_mow 8 = .ok (.ireturn, 1) := by decide +kernel
theorem dX8_tells_0 : decode cX8_tells 0 = .ok (.lload_n 1, 1) := by decide +kernel
theorem dX8_tells_1 : decode cX8_tells 1 = .ok (.lstore 5, 2) := by decide +kernel
theorem dX8_tells_3 : decode cX8_tells 3 = .ok (.lload_n 3, 1) := by decide +kernel
theorem dX8_tells_4 : decode cX8_tells 4 = .ok (.lstore 7, 2) := by decide +kernel
theorem dX8_tells_6 : decode cX8_tells 6 = .ok (.lload 7, 2) := by decide +kernel
theorem dX8_tells_8 : decode cX8_tells 8 = .ok (.lconst 0, 1) := by decide +kernel
theorem dX8_tells_9 : decode cX8_tells 9 = .ok (.lcmp, 1) := by decide +kernel
theorem dX8_tells_10 : decode cX8_tells 10 = .ok (.ifCond .eq 21, 3) := by decide +kernel
theorem dX8_tells_13 : decode cX8_tells 13 = .ok (.lload 5, 2) := by decide +kernel
theorem dX8_tells_15 : decode cX8_tells 15 = .ok (.lload 7, 2) := by decide +kernel
theorem dX8_tells_17 : decode cX8_tells 17 = .ok (.lrem, 1) := by decide +kernel
theorem dX8_tells_18 : decode cX8_tells 18 = .ok (.lstore 9, 2) := by decide +kernel
theorem dX8_tells_20 : decode cX8_tells 20 = .ok (.lload 7, 2) := by decide +kernel
theorem dX8_tells_22 : decode cX8_tells 22 = .ok (.lstore 5, 2) := by decide +kernel
theorem dX8_tells_24 : decode cX8_tells 24 = .ok (.lload 9, 2) := by decide +kernel
theorem dX8_tells_26 : decode cX8_tells 26 = .ok (.lstore 7, 2) := by decide +kernel
theorem dX8_tells_28 : decode cX8_tells 28 = .ok (.goto (-22), 3) := by decide +kernel
theorem dX8_tells_31 : decode cX8_tells 31 = .ok (.aload_n 0, 1) := by decide +kernel
theorem dX8_tells_32 : decode cX8_tells 32 = .ok (.lload_n 1, 1) := by decide +kernel
theorem dX8_tells_33 : decode cX8_tells 33 = .ok (.lload 5, 2) := by decide +kernel
theorem dX8_tells_35 : decode cX8_tells 35 = .ok (.ldiv, 1) := by decide +kernel
theorem dX8_tells_36 : decode cX8_tells 36 = .ok (.putfield 23, 3) := by decide +kernel
theorem dX8_tells_39 : decode cX8_tells 39 = .ok (.aload_n 0, 1) := by decide +kernel
theorem dX8_tells_40 : decode cX8_tells 40 = .ok (.lload_n 3, 1) := by decide +kernel
theorem dX8_tells_41 : decode cX8_tells 41 = .ok (.lload 5, 2) := by decide +kernel
theorem dX8_tells_43 : decode cX8_tells 43 = .ok (.ldiv, 1) := by decide +kernel
theorem dX8_tells_44 : decode cX8_tells 44 = .ok (.putfield 27, 3) := by decide +kernel
theorem dX8_tells_47 : decode cX8_tells 47 = .ok (.iconst 1, 1) := by decide +kernel
theorem dX8_tells_48 : decode cX8_tells 48 = .ok (.ireturn, 1) := by decide +kernel
theorem dX8_odds_0 : decode cX8_odds 0 = .ok (.iload_n 1, 1) := by decide +kernel
theorem dX8_odds_1 : decode cX8_odds 1 = .ok (.iload_n 2, 1) := by decide +kernel
theorem dX8_odds_2 : decode cX8_odds 2 = .ok (.iload_n 3, 1) := by decide +kernel
theorem dX8_odds_3 : decode cX8_odds 3 = .ok (.iload 4, 2) := by decide +kernel
theorem dX8_odds_5 : decode cX8_odds 5 = .ok (.invokestatic 127, 3) := by decide +kernel
theorem dX8_odds_8 : decode cX8_odds 8 = .ok (.ifCond .eq 29, 3) := by decide +kernel
theorem dX8_odds_11 : decode cX8_odds 11 = .ok (.iload 5, 2) := by decide +kernel
theorem dX8_odds_13 : decode cX8_odds 13 = .ok (.i2l, 1) := by decide +kernel
theorem dX8_odds_14 : decode cX8_odds 14 = .ok (.lconst 0, 1) := by decide +kernel
theorem dX8_odds_15 : decode cX8_odds 15 = .ok (.ldc2_w 254, 3) := by decide +kernel
theorem dX8_odds_18 : decode cX8_odds 18 = .ok (.invokestatic 49, 3) := by decide +kernel
theorem dX8_odds_21 : decode cX8_odds 21 = .ok (.ifCond .eq 16, 3) := by decide +kernel
theorem dX8_odds_24 : decode cX8_odds 24 = .ok (.iload 6, 2) := by decide +kernel
theorem dX8_odds_26 : decode cX8_odds 26 = .ok (.i2l, 1) := by decide +kernel
theorem dX8_odds_27 : decode cX8_odds 27 = .ok (.lconst 0, 1) := by decide +kernel
theorem dX8_odds_28 : decode cX8_odds 28 = .ok (.ldc2_w 256, 3) := by decide +kernel
theorem dX8_odds_31 : decode cX8_odds 31 = .ok (.invokestatic 49, 3) := by decide +kernel
theorem dX8_odds_34 : decode cX8_odds 34 = .ok (.ifCond .ne 8, 3) := by decide +kernel
theorem dX8_odds_37 : decode cX8_odds 37 = .ok (.aload_n 0, 1) := by decide +kernel
theorem dX8_odds_38 : decode cX8_odds 38 = .ok (.invokevirtual 81, 3) := by decide +kernel
theorem dX8_odds_41 : decode cX8_odds 41 = .ok (.ireturn, 1) := by decide +kernel
theorem dX8_odds_42 : decode cX8_odds 42 = .ok (.aload_n 0, 1) := by decide +kernel
theorem dX8_odds_43 : decode cX8_odds 43 = .ok (.iload_n 1, 1) := by decide +kernel
theorem dX8_odds_44 : decode cX8_odds 44 = .ok (.iload_n 2, 1) := by decide +kernel
theorem dX8_odds_45 : decode cX8_odds 45 = .ok (.iload_n 3, 1) := by decide +kernel
theorem dX8_odds_46 : decode cX8_odds 46 = .ok (.iload 4, 2) := by decide +kernel
theorem dX8_odds_48 : decode cX8_odds 48 = .ok (.invokevirtual 159, 3) := by decide +kernel
theorem dX8_odds_51 : decode cX8_odds 51 = .ok (.istore 7, 2) := by decide +kernel
theorem dX8_odds_53 : decode cX8_odds 53 = .ok (.iload 7, 2) := by decide +kernel
theorem dX8_odds_55 : decode cX8_odds 55 = .ok (.bipush 15, 2) := by decide +kernel
theorem dX8_odds_57 : decode cX8_odds 57 = .ok (.if_icmp .le 8, 3) := by decide +kernel
theorem dX8_odds_60 : decode cX8_odds 60 = .ok (.aload_n 0, 1) := by decide +kernel
theorem dX8_odds_61 : decode cX8_odds 61 = .ok (.invokevirtual 140, 3) := by decide +kernel
theorem dX8_odds_64 : decode cX8_odds 64 = .ok (.ireturn, 1) := by decide +kernel
theorem dX8_odds_65 : decode cX8_odds 65 = .ok (.lconst 0, 1) := by decide +kernel
theorem dX8_odds_66 : decode cX8_odds 66 = .ok (.lstore 8, 2) := by decide +kernel
theorem dX8_odds_68 : decode cX8_odds 68 = .ok (.lconst 1, 1) := by decide +kernel
theorem dX8_odds_69 : decode cX8_odds 69 = .ok (.lstore 10, 2) := by decide +kernel
theorem dX8_odds_71 : decode cX8_odds 71 = .ok (.lconst 1, 1) := by decide +kernel
theorem dX8_odds_72 : decode cX8_odds 72 = .ok (.lstore 12, 2) := by decide +kernel
theorem dX8_odds_74 : decode cX8_odds 74 = .ok (.iconst 0, 1) := by decide +kernel
theorem dX8_odds_75 : decode cX8_odds 75 = .ok (.istore 14, 2) := by decide +kernel
theorem dX8_odds_77 : decode cX8_odds 77 = .ok (.iload 14, 2) := by decide +kernel
theorem dX8_odds_79 : decode cX8_odds 79 = .ok (.iload 7, 2) := by decide +kernel
theorem dX8_odds_81 : decode cX8_odds 81 = .ok (.if_icmp .gt 107, 3) := by decide +kernel
theorem dX8_odds_84 : decode cX8_odds 84 = .ok (.lload 12, 2) := by decide +kernel
theorem dX8_odds_86 : decode cX8_odds 86 = .ok (.lstore 15, 2) := by decide +kernel
theorem dX8_odds_88 : decode cX8_odds 88 = .ok (.iconst 0, 1) := by decide +kernel
theorem dX8_odds_89 : decode cX8_odds 89 = .ok (.istore 17, 2) := by decide +kernel
theorem dX8_odds_91 : decode cX8_odds 91 = .ok (.iload 17, 2) := by decide +kernel
theorem dX8_odds_93 : decode cX8_odds 93 = .ok (.iload 7, 2) := by decide +kernel
theorem dX8_odds_95 : decode cX8_odds 95 = .ok (.if_icmp .ge 33, 3) := by decide +kernel
theorem dX8_odds_98 : decode cX8_odds 98 = .ok (.lload 15, 2) := by decide +kernel
theorem dX8_odds_100 : decode cX8_odds 100 = .ok (.iload 17, 2) := by decide +kernel
theorem dX8_odds_102 : decode cX8_odds 102 = .ok (.iload 14, 2) := by decide +kernel
theorem dX8_odds_104 : decode cX8_odds 104 = .ok (.if_icmp .ge 9, 3) := by decide +kernel
theorem dX8_odds_107 : decode cX8_odds 107 = .ok (.iload 6, 2) := by decide +kernel
theorem dX8_odds_109 : decode cX8_odds 109 = .ok (.i2l, 1) := by decide +kernel
theorem dX8_odds_110 : decode cX8_odds 110 = .ok (.goto 9, 3) := by decide +kernel
theorem dX8_odds_113 : decode cX8_odds 113 = .ok (.bipush 10, 2) := by decide +kernel
theorem dX8_odds_115 : decode cX8_odds 115 = .ok (.iload 6, 2) := by decide +kernel
theorem dX8_odds_117 : decode cX8_odds 117 = .ok (.isub, 1) := by decide +kernel
theorem dX8_odds_118 : decode cX8_odds 118 = .ok (.i2l, 1) := by decide +kernel
theorem dX8_odds_119 : decode cX8_odds 119 = .ok (.lmul, 1) := by decide +kernel
theorem dX8_odds_120 : decode cX8_odds 120 = .ok (.lstore 15, 2) := by decide +kernel
theorem dX8_odds_122 : decode cX8_odds 122 = .ok (.iinc 17 1, 3) := by decide +kernel
theorem dX8_odds_125 : decode cX8_odds 125 = .ok (.goto (-34), 3) := by decide +kernel
theorem dX8_odds_128 : decode cX8_odds 128 = .ok (.lload 8, 2) := by decide +kernel
theorem dX8_odds_130 : decode cX8_odds 130 = .ok (.iload 14, 2) := by decide +kernel
theorem dX8_odds_132 : decode cX8_odds 132 = .ok (.iload 5, 2) := by decide +kernel
theorem dX8_odds_134 : decode cX8_odds 134 = .ok (.if_icmp .lt 8, 3) := by decide +kernel
theorem dX8_odds_137 : decode cX8_odds 137 = .ok (.lload 15, 2) := by decide +kernel
theorem dX8_odds_139 : decode cX8_odds 139 = .ok (.goto 4, 3) := by decide +kernel
theorem dX8_odds_142 : decode cX8_odds 142 = .ok (.lconst 0, 1) := by decide +kernel
theorem dX8_odds_143 : decode cX8_odds 143 = .ok (.ladd, 1) := by decide +kernel
theorem dX8_odds_144 : decode cX8_odds 144 = .ok (.lstore 8, 2) := by decide +kernel
theorem dX8_odds_146 : decode cX8_odds 146 = .ok (.lload 12, 2) := by decide +kernel
theorem dX8_odds_148 : decode cX8_odds 148 = .ok (.iload 7, 2) := by decide +kernel
theorem dX8_odds_150 : decode cX8_odds 150 = .ok (.iload 14, 2) := by decide +kernel
theorem dX8_odds_152 : decode cX8_odds 152 = .ok (.isub, 1) := by decide +kernel
theorem dX8_odds_153 : decode cX8_odds 153 = .ok (.i2l, 1) := by decide +kernel
theorem dX8_odds_154 : decode cX8_odds 154 = .ok (.lmul, 1) := by decide +kernel
theorem dX8_odds_155 : decode cX8_odds 155 = .ok (.iload 14, 2) := by decide +kernel
theorem dX8_odds_157 : decode cX8_odds 157 = .ok (.iconst 1, 1) := by decide +kernel
theorem dX8_odds_158 : decode cX8_odds 158 = .ok (.iadd, 1) := by decide +kernel
theorem dX8_odds_159 : decode cX8_odds 159 = .ok (.i2l, 1) := by decide +kernel
theorem dX8_odds_160 : decode cX8_odds 160 = .ok (.ldiv, 1) := by decide +kernel
theorem dX8_odds_161 : decode cX8_odds 161 = .ok (.lstore 12, 2) := by decide +kernel
theorem dX8_odds_163 : decode cX8_odds 163 = .ok (.lload 10, 2) := by decide +kernel
theorem dX8_odds_165 : decode cX8_odds 165 = .ok (.iload 14, 2) := by decide +kernel
theorem dX8_odds_167 : decode cX8_odds 167 = .ok (.iload 7, 2) := by decide +kernel
theorem dX8_odds_169 : decode cX8_odds 169 = .ok (.if_icmp .ge 9, 3) := by decide +kernel
theorem dX8_odds_172 : decode cX8_odds 172 = .ok (.ldc2_w 256, 3) := by decide +kernel
theorem dX8_odds_175 : decode cX8_odds 175 = .ok (.goto 4, 3) := by decide +kernel
theorem dX8_odds_178 : decode cX8_odds 178 = .ok (.lconst 1, 1) := by decide +kernel
theorem dX8_odds_179 : decode cX8_odds 179 = .ok (.lmul, 1) := by decide +kernel
theorem dX8_odds_180 : decode cX8_odds 180 = .ok (.lstore 10, 2) := by decide +kernel
theorem dX8_odds_182 : decode cX8_odds 182 = .ok (.iinc 14 1, 3) := by decide +kernel
theorem dX8_odds_185 : decode cX8_odds 185 = .ok (.goto (-108), 3) := by decide +kernel
theorem dX8_odds_188 : decode cX8_odds 188 = .ok (.aload_n 0, 1) := by decide +kernel
theorem dX8_odds_189 : decode cX8_odds 189 = .ok (.lload 8, 2) := by decide +kernel
theorem dX8_odds_191 : decode cX8_odds 191 = .ok (.lload 10, 2) := by decide +kernel
theorem dX8_odds_193 : decode cX8_odds 193 = .ok (.invokevirtual 258, 3) := by decide +kernel
theorem dX8_odds_196 : decode cX8_odds 196 = .ok (.ireturn, 1) := by decide +kernel
theorem dX8_part_0 : decode cX8_part 0 = .ok (.iload_n 1, 1) := by decide +kernel
theorem dX8_part_1 : decode cX8_part 1 = .ok (.i2l, 1) := by decide +kernel
theorem dX8_part_2 : decode cX8_part 2 = .ok (.lconst 0, 1) := by decide +kernel
theorem dX8_part_3 : decode cX8_part 3 = .ok (.lconst 1, 1) := by decide +kernel
theorem dX8_part_4 : decode cX8_part 4 = .ok (.invokestatic 49, 3) := by decide +kernel
theorem dX8_part_7 : decode cX8_part 7 = .ok (.ifCond .ne 17, 3) := by decide +kernel
theorem dX8_part_10 : decode cX8_part 10 = .ok (.aload_n 0, 1) := by decide +kernel
theorem dX8_part_11 : decode cX8_part 11 = .ok (.getfield 30, 3) := by decide +kernel
theorem dX8_part_14 : decode cX8_part 14 = .ok (.iconst 0, 1) := by decide +kernel
theorem dX8_part_15 : decode cX8_part 15 = .ok (.dup2, 1) := by decide +kernel
theorem dX8_part_16 : decode cX8_part 16 = .ok (.iaload, 1) := by decide +kernel
theorem dX8_part_17 : decode cX8_part 17 = .ok (.iconst 1, 1) := by decide +kernel
theorem dX8_part_18 : decode cX8_part 18 = .ok (.iadd, 1) := by decide +kernel
theorem dX8_part_19 : decode cX8_part 19 = .ok (.iastore, 1) := by decide +kernel
theorem dX8_part_20 : decode cX8_part 20 = .ok (.ldc2_w 262, 3) := by decide +kernel
theorem dX8_part_23 : decode cX8_part 23 = .ok (.lreturn, 1) := by decide +kernel
theorem dX8_part_24 : decode cX8_part 24 = .ok (.iload_n 1, 1) := by decide +kernel
theorem dX8_part_25 : decode cX8_part 25 = .ok (.ifCond .ne 10, 3) := by decide +kernel
theorem dX8_part_28 : decode cX8_part 28 = .ok (.aload_n 0, 1) := by decide +kernel
theorem dX8_part_29 : decode cX8_part 29 = .ok (.getfield 23, 3) := by decide +kernel
theorem dX8_part_32 : decode cX8_part 32 = .ok (.goto 7, 3) := by decide +kernel
theorem dX8_part_35 : decode cX8_part 35 = .ok (.aload_n 0, 1) := by decide +kernel
theorem dX8_part_36 : decode cX8_part 36 = .ok (.getfield 27, 3) := by decide +kernel
theorem dX8_part_39 : decode cX8_part 39 = .ok (.lreturn, 1) := by decide +kernel
theorem dX8_image_0 : decode cX8_image 0 = .ok (.iload_n 1, 1) := by decide +kernel
theorem dX8_image_1 : decode cX8_image 1 = .ok (.i2l, 1) := by decide +kernel
theorem dX8_image_2 : decode cX8_image 2 = .ok (.lconst 0, 1) := by decide +kernel
theorem dX8_image_3 : decode cX8_image 3 = .ok (.lconst 1, 1) := by decide +kernel
theorem dX8_image_4 : decode cX8_image 4 = .ok (.invokestatic 49, 3) := by decide +kernel
theorem dX8_image_7 : decode cX8_image 7 = .ok (.ifCond .ne 8, 3) := by decide +kernel
theorem dX8_image_10 : decode cX8_image 10 = .ok (.aload_n 0, 1) := by decide +kernel
theorem dX8_image_11 : decode cX8_image 11 = .ok (.invokevirtual 81, 3) := by decide +kernel
theorem dX8_image_14 : decode cX8_image 14 = .ok (.ireturn, 1) := by decide +kernel
theorem dX8_image_15 : decode cX8_image 15 = .ok (.aload_n 0, 1) := by decide +kernel
theorem dX8_image_16 : decode cX8_image 16 = .ok (.iconst 0, 1) := by decide +kernel
theorem dX8_image_17 : decode cX8_image 17 = .ok (.sipush 678, 3) := by decide +kernel
theorem dX8_image_20 : decode cX8_image 20 = .ok (.sipush 678, 3) := by decide +kernel
theorem dX8_image_23 : decode cX8_image 23 = .ok (.iload_n 1, 1) := by decide +kernel
theorem dX8_image_24 : decode cX8_image 24 = .ok (.imul, 1) := by decide +kernel
theorem dX8_image_25 : decode cX8_image 25 = .ok (.iadd, 1) := by decide +kernel
theorem dX8_image_26 : decode cX8_image 26 = .ok (.invokevirtual 64, 3) := by decide +kernel
theorem dX8_image_29 : decode cX8_image 29 = .ok (.aload_n 0, 1) := by decide +kernel
theorem dX8_image_30 : decode cX8_image 30 = .ok (.iconst 0, 1) := by decide +kernel
theorem dX8_image_31 : decode cX8_image 31 = .ok (.sipush 182, 3) := by decide +kernel
theorem dX8_image_34 : decode cX8_image 34 = .ok (.iconst 1, 1) := by decide +kernel
theorem dX8_image_35 : decode cX8_image 35 = .ok (.iload_n 1, 1) := by decide +kernel
theorem dX8_image_36 : decode cX8_image 36 = .ok (.iadd, 1) := by decide +kernel
theorem dX8_image_37 : decode cX8_image 37 = .ok (.imul, 1) := by decide +kernel
theorem dX8_image_38 : decode cX8_image 38 = .ok (.invokevirtual 245, 3) := by decide +kernel
theorem dX8_image_41 : decode cX8_image 41 = .ok (.aload_n 0, 1) := by decide +kernel
theorem dX8_image_42 : decode cX8_image 42 = .ok (.getfield 16, 3) := by decide +kernel
theorem dX8_image_45 : decode cX8_image 45 = .ok (.iload_n 1, 1) := by decide +kernel
theorem dX8_image_46 : decode cX8_image 46 = .ok (.iconst 1, 1) := by decide +kernel
theorem dX8_image_47 : decode cX8_image 47 = .ok (.bastore, 1) := by decide +kernel
theorem dX8_image_48 : decode cX8_image 48 = .ok (.iconst 1, 1) := by decide +kernel
theorem dX8_image_49 : decode cX8_image 49 = .ok (.ireturn, 1) := by decide +kernel
theorem dX8_from_0 : decode cX8_from 0 = .ok (.iload_n 1, 1) := by decide +kernel
theorem dX8_from_1 : decode cX8_from 1 = .ok (.i2l, 1) := by decide +kernel
theorem dX8_from_2 : decode cX8_from 2 = .ok (.lconst 0, 1) := by decide +kernel
theorem dX8_from_3 : decode cX8_from 3 = .ok (.lconst 1, 1) := by decide +kernel
theorem dX8_from_4 : decode cX8_from 4 = .ok (.invokestatic 49, 3) := by decide +kernel
theorem dX8_from_7 : decode cX8_from 7 = .ok (.ifCond .ne 8, 3) := by decide +kernel
theorem dX8_from_10 : decode cX8_from 10 = .ok (.aload_n 0, 1) := by decide +kernel
theorem dX8_from_11 : decode cX8_from 11 = .ok (.invokevirtual 81, 3) := by decide +kernel
theorem dX8_from_14 : decode cX8_from 14 = .ok (.ireturn, 1) := by decide +kernel
theorem dX8_from_15 : decode cX8_from 15 = .ok (.aload_n 0, 1) := by decide +kernel
theorem dX8_from_16 : decode cX8_from 16 = .ok (.getfield 16, 3) := by decide +kernel
theorem dX8_from_19 : decode cX8_from 19 = .ok (.iload_n 1, 1) := by decide +kernel
theorem dX8_from_20 : decode cX8_from 20 = .ok (.baload, 1) := by decide +kernel
theorem dX8_from_21 : decode cX8_from 21 = .ok (.ifCond .ne 8, 3) := by decide +kernel
theorem dX8_from_24 : decode cX8_from 24 = .ok (.aload_n 0, 1) := by decide +kernel
theorem dX8_from_25 : decode cX8_from 25 = .ok (.invokevirtual 140, 3) := by decide +kernel
theorem dX8_from_28 : decode cX8_from 28 = .ok (.ireturn, 1) := by decide +kernel
theorem dX8_from_29 : decode cX8_from 29 = .ok (.aload_n 0, 1) := by decide +kernel
theorem dX8_from_30 : decode cX8_from 30 = .ok (.sipush 678, 3) := by decide +kernel
theorem dX8_from_33 : decode cX8_from 33 = .ok (.sipush 678, 3) := by decide +kernel
theorem dX8_from_36 : decode cX8_from 36 = .ok (.iload_n 1, 1) := by decide +kernel
theorem dX8_from_37 : decode cX8_from 37 = .ok (.imul, 1) := by decide +kernel
theorem dX8_from_38 : decode cX8_from 38 = .ok (.iadd, 1) := by decide +kernel
theorem dX8_from_39 : decode cX8_from 39 = .ok (.iconst 0, 1) := by decide +kernel
theorem dX8_from_40 : decode cX8_from 40 = .ok (.invokevirtual 64, 3) := by decide +kernel
theorem dX8_from_43 : decode cX8_from 43 = .ok (.aload_n 0, 1) := by decide +kernel
theorem dX8_from_44 : decode cX8_from 44 = .ok (.sipush 182, 3) := by decide +kernel
theorem dX8_from_47 : decode cX8_from 47 = .ok (.iconst 1, 1) := by decide +kernel
theorem dX8_from_48 : decode cX8_from 48 = .ok (.iload_n 1, 1) := by decide +kernel
theorem dX8_from_49 : decode cX8_from 49 = .ok (.iadd, 1) := by decide +kernel
theorem dX8_from_50 : decode cX8_from 50 = .ok (.imul, 1) := by decide +kernel
theorem dX8_from_51 : decode cX8_from 51 = .ok (.iconst 0, 1) := by decide +kernel
theorem dX8_from_52 : decode cX8_from 52 = .ok (.invokevirtual 245, 3) := by decide +kernel
theorem dX8_from_55 : decode cX8_from 55 = .ok (.aload_n 0, 1) := by decide +kernel
theorem dX8_from_56 : decode cX8_from 56 = .ok (.iconst 0, 1) := by decide +kernel
theorem dX8_from_57 : decode cX8_from 57 = .ok (.putfield 60, 3) := by decide +kernel
theorem dX8_from_60 : decode cX8_from 60 = .ok (.iconst 1, 1) := by decide +kernel
theorem dX8_from_61 : decode cX8_from 61 = .ok (.ireturn, 1) := by decide +kernel
theorem dX8_status_0 : decode cX8_status 0 = .ok (.iload_n 1, 1) := by decide +kernel
theorem dX8_status_1 : decode cX8_status 1 = .ok (.i2l, 1) := by decide +kernel
theorem dX8_status_2 : decode cX8_status 2 = .ok (.lconst 0, 1) := by decide +kernel
theorem dX8_status_3 : decode cX8_status 3 = .ok (.ldc2_w 174, 3) := by decide +kernel
theorem dX8_status_6 : decode cX8_status 6 = .ok (.invokestatic 49, 3) := by decide +kernel
theorem dX8_status_9 : decode cX8_status 9 = .ok (.ifCond .ne 15, 3) := by decide +kernel
theorem dX8_status_12 : decode cX8_status 12 = .ok (.aload_n 0, 1) := by decide +kernel
theorem dX8_status_13 : decode cX8_status 13 = .ok (.getfield 30, 3) := by decide +kernel
theorem dX8_status_16 : decode cX8_status 16 = .ok (.iconst 0, 1) := by decide +kernel
theorem dX8_status_17 : decode cX8_status 17 = .ok (.dup2, 1) := by decide +kernel
theorem dX8_status_18 : decode cX8_status 18 = .ok (.iaload, 1) := by decide +kernel
theorem dX8_status_19 : decode cX8_status 19 = .ok (.iconst 1, 1) := by decide +kernel
theorem dX8_status_20 : decode cX8_status 20 = .ok (.iadd, 1) := by decide +kernel
theorem dX8_status_21 : decode cX8_status 21 = .ok (.iastore, 1) := by decide +kernel
theorem dX8_status_22 : decode cX8_status 22 = .ok (.iconst (-1), 1) := by decide +kernel
theorem dX8_status_23 : decode cX8_status 23 = .ok (.ireturn, 1) := by decide +kernel
theorem dX8_status_24 : decode cX8_status 24 = .ok (.aload_n 0, 1) := by decide +kernel
theorem dX8_status_25 : decode cX8_status 25 = .ok (.getfield 30, 3) := by decide +kernel
theorem dX8_status_28 : decode cX8_status 28 = .ok (.iload_n 1, 1) := by decide +kernel
theorem dX8_status_29 : decode cX8_status 29 = .ok (.iaload, 1) := by decide +kernel
theorem dX8_status_30 : decode cX8_status 30 = .ok (.ireturn, 1) := by decide +kernel
theorem dX8_weights_0 : decode cX8_weights 0 = .ok (.iconst 0, 1) := by decide +kernel
theorem dX8_weights_1 : decode cX8_weights 1 = .ok (.istore_n 1, 1) := by decide +kernel
theorem dX8_weights_2 : decode cX8_weights 2 = .ok (.iconst 0, 1) := by decide +kernel
theorem dX8_weights_3 : decode cX8_weights 3 = .ok (.istore_n 2, 1) := by decide +kernel
theorem dX8_weights_4 : decode cX8_weights 4 = .ok (.iload_n 2, 1) := by decide +kernel
theorem dX8_weights_5 : decode cX8_weights 5 = .ok (.aload_n 0, 1) := by decide +kernel
theorem dX8_weights_6 : decode cX8_weights 6 = .ok (.getfield 7, 3) := by decide +kernel
theorem dX8_weights_9 : decode cX8_weights 9 = .ok (.iconst 0, 1) := by decide +kernel
theorem dX8_weights_10 : decode cX8_weights 10 = .ok (.iaload, 1) := by decide +kernel
theorem dX8_weights_11 : decode cX8_weights 11 = .ok (.if_icmp .ge 34, 3) := by decide +kernel
theorem dX8_weights_14 : decode cX8_weights 14 = .ok (.iload_n 1, 1) := by decide +kernel
theorem dX8_weights_15 : decode cX8_weights 15 = .ok (.aload_n 0, 1) := by decide +kernel
theorem dX8_weights_16 : decode cX8_weights 16 = .ok (.iload_n 2, 1) := by decide +kernel
theorem dX8_weights_17 : decode cX8_weights 17 = .ok (.invokevirtual 57, 3) := by decide +kernel
theorem dX8_weights_20 : decode cX8_weights 20 = .ok (.ifCond .eq 16, 3) := by decide +kernel
theorem dX8_weights_23 : decode cX8_weights 23 = .ok (.aload_n 0, 1) := by decide +kernel
theorem dX8_weights_24 : decode cX8_weights 24 = .ok (.getfield 7, 3) := by decide +kernel
theorem dX8_weights_27 : decode cX8_weights 27 = .ok (.sipush 372, 3) := by decide +kernel
theorem dX8_weights_30 : decode cX8_weights 30 = .ok (.iload_n 2, 1) := by decide +kernel
theorem dX8_weights_31 : decode cX8_weights 31 = .ok (.iadd, 1) := by decide +kernel
theorem dX8_weights_32 : decode cX8_weights 32 = .ok (.iaload, 1) := by decide +kernel
theorem dX8_weights_33 : decode cX8_weights 33 = .ok (.goto 4, 3) := by decide +kernel
theorem dX8_weights_36 : decode cX8_weights 36 = .ok (.iconst 0, 1) := by decide +kernel
theorem dX8_weights_37 : decode cX8_weights 37 = .ok (.iadd, 1) := by decide +kernel
theorem dX8_weights_38 : decode cX8_weights 38 = .ok (.istore_n 1, 1) := by decide +kernel
theorem dX8_weights_39 : decode cX8_weights 39 = .ok (.iinc 2 1, 3) := by decide +kernel
theorem dX8_weights_42 : decode cX8_weights 42 = .ok (.goto (-38), 3) := by decide +kernel
theorem dX8_weights_45 : decode cX8_weights 45 = .ok (.iload_n 1, 1) := by decide +kernel
theorem dX8_weights_46 : decode cX8_weights 46 = .ok (.ireturn, 1) := by decide +kernel
theorem dX8_sizeOf_0 : decode cX8_sizeOf 0 = .ok (.iload_n 1, 1) := by decide +kernel
theorem dX8_sizeOf_1 : decode cX8_sizeOf 1 = .ok (.tableswitch 84 0 6 #[43, 48, 55, 62, 69, 74, 79], 43) := by decide +kernel
theorem dX8_sizeOf_44 : decode cX8_sizeOf 44 = .ok (.aload_n 0, 1) := by decide +kernel
theorem dX8_sizeOf_45 : decode cX8_sizeOf 45 = .ok (.invokevirtual 72, 3) := by decide +kernel
theorem dX8_sizeOf_48 : decode cX8_sizeOf 48 = .ok (.ireturn, 1) := by decide +kernel
theorem dX8_sizeOf_49 : decode cX8_sizeOf 49 = .ok (.aload_n 0, 1) := by decide +kernel
theorem dX8_sizeOf_50 : decode cX8_sizeOf 50 = .ok (.getfield 7, 3) := by decide +kernel
theorem dX8_sizeOf_53 : decode cX8_sizeOf 53 = .ok (.iconst 1, 1) := by decide +kernel
theorem dX8_sizeOf_54 : decode cX8_sizeOf 54 = .ok (.iaload, 1) := by decide +kernel
theorem dX8_sizeOf_55 : decode cX8_sizeOf 55 = .ok (.ireturn, 1) := by decide +kernel
theorem dX8_sizeOf_56 : decode cX8_sizeOf 56 = .ok (.aload_n 0, 1) := by decide +kernel
theorem dX8_sizeOf_57 : decode cX8_sizeOf 57 = .ok (.getfield 7, 3) := by decide +kernel
theorem dX8_sizeOf_60 : decode cX8_sizeOf 60 = .ok (.iconst 2, 1) := by decide +kernel
theorem dX8_sizeOf_61 : decode cX8_sizeOf 61 = .ok (.iaload, 1) := by decide +kernel
theorem dX8_sizeOf_62 : decode cX8_sizeOf 62 = .ok (.ireturn, 1) := by decide +kernel
theorem dX8_sizeOf_63 : decode cX8_sizeOf 63 = .ok (.aload_n 0, 1) := by decide +kernel
theorem dX8_sizeOf_64 : decode cX8_sizeOf 64 = .ok (.getfield 7, 3) := by decide +kernel
theorem dX8_sizeOf_67 : decode cX8_sizeOf 67 = .ok (.iconst 3, 1) := by decide +kernel
theorem dX8_sizeOf_68 : decode cX8_sizeOf 68 = .ok (.iaload, 1) := by decide +kernel
theorem dX8_sizeOf_69 : decode cX8_sizeOf 69 = .ok (.ireturn, 1) := by decide +kernel
theorem dX8_sizeOf_70 : decode cX8_sizeOf 70 = .ok (.aload_n 0, 1) := by decide +kernel
theorem dX8_sizeOf_71 : decode cX8_sizeOf 71 = .ok (.invokevirtual 264, 3) := by decide +kernel
theorem dX8_sizeOf_74 : decode cX8_sizeOf 74 = .ok (.ireturn, 1) := by decide +kernel
theorem dX8_sizeOf_75 : decode cX8_sizeOf 75 = .ok (.aload_n 0, 1) := by decide +kernel
theorem dX8_sizeOf_76 : decode cX8_sizeOf 76 = .ok (.getfield 60, 3) := by decide +kernel
theorem dX8_sizeOf_79 : decode cX8_sizeOf 79 = .ok (.ireturn, 1) := by decide +kernel
theorem dX8_sizeOf_80 : decode cX8_sizeOf 80 = .ok (.aload_n 0, 1) := by decide +kernel
theorem dX8_sizeOf_81 : decode cX8_sizeOf 81 = .ok (.getfield 188, 3) := by decide +kernel
theorem dX8_sizeOf_84 : decode cX8_sizeOf 84 = .ok (.ireturn, 1) := by decide +kernel
theorem dX8_sizeOf_85 : decode cX8_sizeOf 85 = .ok (.aload_n 0, 1) := by decide +kernel
theorem dX8_sizeOf_86 : decode cX8_sizeOf 86 = .ok (.getfield 13, 3) := by decide +kernel
theorem dX8_sizeOf_89 : decode cX8_sizeOf 89 = .ok (.iconst 1, 1) := by decide +kernel
theorem dX8_sizeOf_90 : decode cX8_sizeOf 90 = .ok (.iaload, 1) := by decide +kernel
theorem dX8_sizeOf_91 : decode cX8_sizeOf 91 = .ok (.ireturn, 1) := by decide +kernel
theorem dX8_size_0 : decode cX8_size 0 = .ok (.iload_n 1, 1) := by decide +kernel
theorem dX8_size_1 : decode cX8_size 1 = .ok (.i2l, 1) := by decide +kernel
theorem dX8_size_2 : decode cX8_size 2 = .ok (.lconst 0, 1) := by decide +kernel
theorem dX8_size_3 : decode cX8_size 3 = .ok (.ldc2_w 267, 3) := by decide +kernel
theorem dX8_size_6 : decode cX8_size 6 = .ok (.invokestatic 49, 3) := by decide +kernel
theorem dX8_size_9 : decode cX8_size 9 = .ok (.ifCond .eq 11, 3) := by decide +kernel
theorem dX8_size_12 : decode cX8_size 12 = .ok (.aload_n 0, 1) := by decide +kernel
theorem dX8_size_13 : decode cX8_size 13 = .ok (.iload_n 1, 1) := by decide +kernel
theorem dX8_size_14 : decode cX8_size 14 = .ok (.invokevirtual 269, 3) := by decide +kernel
theorem dX8_size_17 : decode cX8_size 17 = .ok (.goto 7, 3) := by decide +kernel
theorem dX8_size_20 : decode cX8_size 20 = .ok (.aload_n 0, 1) := by decide +kernel
theorem dX8_size_21 : decode cX8_size 21 = .ok (.invokevirtual 81, 3) := by decide +kernel
theorem dX8_size_24 : decode cX8_size 24 = .ok (.ireturn, 1) := by decide +kernel
theorem dX8_mix_0 : decode cX8_mix 0 = .ok (.aload_n 0, 1) := by decide +kernel
theorem dX8_mix_1 : decode cX8_mix 1 = .ok (.ldc2_w 272, 3) := by decide +kernel
theorem dX8_mix_4 : decode cX8_mix 4 = .ok (.aload_n 0, 1) := by decide +kernel
theorem dX8_mix_5 : decode cX8_mix 5 = .ok (.getfield 274, 3) := by decide +kernel
theorem dX8_mix_8 : decode cX8_mix 8 = .ok (.lmul, 1) := by decide +kernel
theorem dX8_mix_9 : decode cX8_mix 9 = .ok (.lload_n 1, 1) := by decide +kernel
theorem dX8_mix_10 : decode cX8_mix 10 = .ok (.ladd, 1) := by decide +kernel
theorem dX8_mix_11 : decode cX8_mix 11 = .ok (.putfield 274, 3) := by decide +kernel
theorem dX8_mix_14 : decode cX8_mix 14 = .ok (.return_, 1) := by decide +kernel
theorem dX8_digest_0 : decode cX8_digest 0 = .ok (.aload_n 0, 1) := by decide +kernel
theorem dX8_digest_1 : decode cX8_digest 1 = .ok (.ldc2_w 277, 3) := by decide +kernel
theorem dX8_digest_4 : decode cX8_digest 4 = .ok (.putfield 274, 3) := by decide +kernel
theorem dX8_digest_7 : decode cX8_digest 7 = .ok (.iconst 0, 1) := by decide +kernel
theorem dX8_digest_8 : decode cX8_digest 8 = .ok (.istore_n 1, 1) := by decide +kernel
theorem dX8_digest_9 : decode cX8_digest 9 = .ok (.iload_n 1, 1) := by decide +kernel
theorem dX8_digest_10 : decode cX8_digest 10 = .ok (.bipush 8, 2) := by decide +kernel
theorem dX8_digest_12 : decode cX8_digest 12 = .ok (.if_icmp .ge 19, 3) := by decide +kernel
theorem dX8_digest_15 : decode cX8_digest 15 = .ok (.aload_n 0, 1) := by decide +kernel
theorem dX8_digest_16 : decode cX8_digest 16 = .ok (.aload_n 0, 1) := by decide +kernel
theorem dX8_digest_17 : decode cX8_digest 17 = .ok (.iload_n 1, 1) := by decide +kernel
theorem dX8_digest_18 : decode cX8_digest 18 = .ok (.invokevirtual 269, 3) := by decide +kernel
theorem dX8_digest_21 : decode cX8_digest 21 = .ok (.i2l, 1) := by decide +kernel
theorem dX8_digest_22 : decode cX8_digest 22 = .ok (.invokevirtual 279, 3) := by decide +kernel
theorem dX8_digest_25 : decode cX8_digest 25 = .ok (.iinc 1 1, 3) := by decide +kernel
theorem dX8_digest_28 : decode cX8_digest 28 = .ok (.goto (-19), 3) := by decide +kernel
theorem dX8_digest_31 : decode cX8_digest 31 = .ok (.iconst 0, 1) := by decide +kernel
theorem dX8_digest_32 : decode cX8_digest 32 = .ok (.istore_n 1, 1) := by decide +kernel
theorem dX8_digest_33 : decode cX8_digest 33 = .ok (.iload_n 1, 1) := by decide +kernel
theorem dX8_digest_34 : decode cX8_digest 34 = .ok (.iconst 5, 1) := by decide +kernel
theorem dX8_digest_35 : decode cX8_digest 35 = .ok (.if_icmp .ge 19, 3) := by decide +kernel
theorem dX8_digest_38 : decode cX8_digest 38 = .ok (.aload_n 0, 1) := by decide +kernel
theorem dX8_digest_39 : decode cX8_digest 39 = .ok (.aload_n 0, 1) := by decide +kernel
theorem dX8_digest_40 : decode cX8_digest 40 = .ok (.iload_n 1, 1) := by decide +kernel
theorem dX8_digest_41 : decode cX8_digest 41 = .ok (.invokevirtual 181, 3) := by decide +kernel

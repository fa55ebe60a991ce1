theorem dX7_takePicked_13 : decode cX7_takePicked 13 = .ok (.ireturn, 1) := by decide +kernel
theorem dX7_takePicked_14 : decode cX7_takePicked 14 = .ok (.aload_n 0, 1) := by decide +kernel
theorem dX7_takePicked_15 : decode cX7_takePicked 15 = .ok (.getfield 19, 3) := by decide +kernel
theorem dX7_takePicked_18 : decode cX7_takePicked 18 = .ok (.aload_n 0, 1) := by decide +kernel
theorem dX7_takePicked_19 : decode cX7_takePicked 19 = .ok (.getfield 10, 3) := by decide +kernel
theorem dX7_takePicked_22 : decode cX7_takePicked 22 = .ok (.invokevirtual 82, 3) := by decide +kernel
theorem dX7_takePicked_25 : decode cX7_takePicked 25 = .ok (.aload_n 0, 1) := by decide +kernel
theorem dX7_takePicked_26 : decode cX7_takePicked 26 = .ok (.getfield 26, 3) := by decide +kernel
theorem dX7_takePicked_29 : decode cX7_takePicked 29 = .ok (.aload_n 0, 1) := by decide +kernel
theorem dX7_takePicked_30 : decode cX7_takePicked 30 = .ok (.getfield 10, 3) := by decide +kernel
theorem dX7_takePicked_33 : decode cX7_takePicked 33 = .ok (.invokevirtual 160, 3) := by decide +kernel
theorem dX7_takePicked_36 : decode cX7_takePicked 36 = .ok (.aload_n 0, 1) := by decide +kernel
theorem dX7_takePicked_37 : decode cX7_takePicked 37 = .ok (.getfield 26, 3) := by decide +kernel
theorem dX7_takePicked_40 : decode cX7_takePicked 40 = .ok (.aload_n 0, 1) := by decide +kernel
theorem dX7_takePicked_41 : decode cX7_takePicked 41 = .ok (.getfield 10, 3) := by decide +kernel
theorem dX7_takePicked_44 : decode cX7_takePicked 44 = .ok (.invokevirtual 295, 3) := by decide +kernel
theorem dX7_takePicked_47 : decode cX7_takePicked 47 = .ok (.iconst 0, 1) := by decide +kernel
theorem dX7_takePicked_48 : decode cX7_takePicked 48 = .ok (.istore_n 2, 1) := by decide +kernel
theorem dX7_takePicked_49 : decode cX7_takePicked 49 = .ok (.iload_n 2, 1) := by decide +kernel
theorem dX7_takePicked_50 : decode cX7_takePicked 50 = .ok (.iload_n 1, 1) := by decide +kernel
theorem dX7_takePicked_51 : decode cX7_takePicked 51 = .ok (.if_icmp .ge 33, 3) := by decide +kernel
theorem dX7_takePicked_54 : decode cX7_takePicked 54 = .ok (.aload_n 0, 1) := by decide +kernel
theorem dX7_takePicked_55 : decode cX7_takePicked 55 = .ok (.getfield 10, 3) := by decide +kernel
theorem dX7_takePicked_58 : decode cX7_takePicked 58 = .ok (.aload_n 0, 1) := by decide +kernel
theorem dX7_takePicked_59 : decode cX7_takePicked 59 = .ok (.getfield 10, 3) := by decide +kernel
theorem dX7_takePicked_62 : decode cX7_takePicked 62 = .ok (.aload_n 0, 1) := by decide +kernel
theorem dX7_takePicked_63 : decode cX7_takePicked 63 = .ok (.getfield 26, 3) := by decide +kernel
theorem dX7_takePicked_66 : decode cX7_takePicked 66 = .ok (.getfield 164, 3) := by decide +kernel
theorem dX7_takePicked_69 : decode cX7_takePicked 69 = .ok (.iload_n 2, 1) := by decide +kernel
theorem dX7_takePicked_70 : decode cX7_takePicked 70 = .ok (.iaload, 1) := by decide +kernel
theorem dX7_takePicked_71 : decode cX7_takePicked 71 = .ok (.invokevirtual 90, 3) := by decide +kernel
theorem dX7_takePicked_74 : decode cX7_takePicked 74 = .ok (.invokevirtual 93, 3) := by decide +kernel
theorem dX7_takePicked_77 : decode cX7_takePicked 77 = .ok (.pop, 1) := by decide +kernel
theorem dX7_takePicked_78 : decode cX7_takePicked 78 = .ok (.iinc 2 1, 3) := by decide +kernel
theorem dX7_takePicked_81 : decode cX7_takePicked 81 = .ok (.goto (-32), 3) := by decide +kernel
theorem dX7_takePicked_84 : decode cX7_takePicked 84 = .ok (.iload_n 1, 1) := by decide +kernel
theorem dX7_takePicked_85 : decode cX7_takePicked 85 = .ok (.ireturn, 1) := by decide +kernel
theorem dX7_isOnAxis_0 : decode cX7_isOnAxis 0 = .ok (.iload_n 0, 1) := by decide +kernel
theorem dX7_isOnAxis_1 : decode cX7_isOnAxis 1 = .ok (.sipush (-500), 3) := by decide +kernel
theorem dX7_isOnAxis_4 : decode cX7_isOnAxis 4 = .ok (.if_icmp .lt 14, 3) := by decide +kernel
theorem dX7_isOnAxis_7 : decode cX7_isOnAxis 7 = .ok (.iload_n 0, 1) := by decide +kernel
theorem dX7_isOnAxis_8 : decode cX7_isOnAxis 8 = .ok (.sipush 500, 3) := by decide +kernel
theorem dX7_isOnAxis_11 : decode cX7_isOnAxis 11 = .ok (.if_icmp .gt 7, 3) := by decide +kernel
theorem dX7_isOnAxis_14 : decode cX7_isOnAxis 14 = .ok (.iconst 1, 1) := by decide +kernel
theorem dX7_isOnAxis_15 : decode cX7_isOnAxis 15 = .ok (.goto 4, 3) := by decide +kernel
theorem dX7_isOnAxis_18 : decode cX7_isOnAxis 18 = .ok (.iconst 0, 1) := by decide +kernel
theorem dX7_isOnAxis_19 : decode cX7_isOnAxis 19 = .ok (.ireturn, 1) := by decide +kernel
theorem dX7_isPlace_0 : decode cX7_isPlace 0 = .ok (.iload_n 0, 1) := by decide +kernel
theorem dX7_isPlace_1 : decode cX7_isPlace 1 = .ok (.invokestatic 298, 3) := by decide +kernel
theorem dX7_isPlace_4 : decode cX7_isPlace 4 = .ok (.ifCond .eq 14, 3) := by decide +kernel
theorem dX7_isPlace_7 : decode cX7_isPlace 7 = .ok (.iload_n 1, 1) := by decide +kernel
theorem dX7_isPlace_8 : decode cX7_isPlace 8 = .ok (.invokestatic 298, 3) := by decide +kernel
theorem dX7_isPlace_11 : decode cX7_isPlace 11 = .ok (.ifCond .eq 7, 3) := by decide +kernel
theorem dX7_isPlace_14 : decode cX7_isPlace 14 = .ok (.iconst 1, 1) := by decide +kernel
theorem dX7_isPlace_15 : decode cX7_isPlace 15 = .ok (.goto 4, 3) := by decide +kernel
theorem dX7_isPlace_18 : decode cX7_isPlace 18 = .ok (.iconst 0, 1) := by decide +kernel
theorem dX7_isPlace_19 : decode cX7_isPlace 19 = .ok (.ireturn, 1) := by decide +kernel
theorem dX7_isRectangle_0 : decode cX7_isRectangle 0 = .ok (.iload_n 0, 1) := by decide +kernel
theorem dX7_isRectangle_1 : decode cX7_isRectangle 1 = .ok (.iload_n 1, 1) := by decide +kernel
theorem dX7_isRectangle_2 : decode cX7_isRectangle 2 = .ok (.invokestatic 64, 3) := by decide +kernel
theorem dX7_isRectangle_5 : decode cX7_isRectangle 5 = .ok (.ifCond .eq 25, 3) := by decide +kernel
theorem dX7_isRectangle_8 : decode cX7_isRectangle 8 = .ok (.iload_n 2, 1) := by decide +kernel
theorem dX7_isRectangle_9 : decode cX7_isRectangle 9 = .ok (.iload_n 3, 1) := by decide +kernel
theorem dX7_isRectangle_10 : decode cX7_isRectangle 10 = .ok (.invokestatic 64, 3) := by decide +kernel
theorem dX7_isRectangle_13 : decode cX7_isRectangle 13 = .ok (.ifCond .eq 17, 3) := by decide +kernel
theorem dX7_isRectangle_16 : decode cX7_isRectangle 16 = .ok (.iload_n 0, 1) := by decide +kernel
theorem dX7_isRectangle_17 : decode cX7_isRectangle 17 = .ok (.iload_n 1, 1) := by decide +kernel
theorem dX7_isRectangle_18 : decode cX7_isRectangle 18 = .ok (.if_icmp .gt 12, 3) := by decide +kernel
theorem dX7_isRectangle_21 : decode cX7_isRectangle 21 = .ok (.iload_n 2, 1) := by decide +kernel
theorem dX7_isRectangle_22 : decode cX7_isRectangle 22 = .ok (.iload_n 3, 1) := by decide +kernel
theorem dX7_isRectangle_23 : decode cX7_isRectangle 23 = .ok (.if_icmp .gt 7, 3) := by decide +kernel
theorem dX7_isRectangle_26 : decode cX7_isRectangle 26 = .ok (.iconst 1, 1) := by decide +kernel
theorem dX7_isRectangle_27 : decode cX7_isRectangle 27 = .ok (.goto 4, 3) := by decide +kernel
theorem dX7_isRectangle_30 : decode cX7_isRectangle 30 = .ok (.iconst 0, 1) := by decide +kernel
theorem dX7_isRectangle_31 : decode cX7_isRectangle 31 = .ok (.ireturn, 1) := by decide +kernel
theorem dX7_draw_0 : decode cX7_draw 0 = .ok (.lload_n 0, 1) := by decide +kernel
theorem dX7_draw_1 : decode cX7_draw 1 = .ok (.ldc2_w 301, 3) := by decide +kernel
theorem dX7_draw_4 : decode cX7_draw 4 = .ok (.lmul, 1) := by decide +kernel
theorem dX7_draw_5 : decode cX7_draw 5 = .ok (.ldc2_w 303, 3) := by decide +kernel
theorem dX7_draw_8 : decode cX7_draw 8 = .ok (.ladd, 1) := by decide +kernel
theorem dX7_draw_9 : decode cX7_draw 9 = .ok (.ldc2_w 305, 3) := by decide +kernel
theorem dX7_draw_12 : decode cX7_draw 12 = .ok (.lrem, 1) := by decide +kernel
theorem dX7_draw_13 : decode cX7_draw 13 = .ok (.lreturn, 1) := by decide +kernel
theorem dX7_leftOver_0 : decode cX7_leftOver 0 = .ok (.iload_n 2, 1) := by decide +kernel
theorem dX7_leftOver_1 : decode cX7_leftOver 1 = .ok (.iconst 1, 1) := by decide +kernel
theorem dX7_leftOver_2 : decode cX7_leftOver 2 = .ok (.if_icmp .ge 7, 3) := by decide +kernel
theorem dX7_leftOver_5 : decode cX7_leftOver 5 = .ok (.iconst 0, 1) := by decide +kernel
theorem dX7_leftOver_6 : decode cX7_leftOver 6 = .ok (.goto 12, 3) := by decide +kernel
theorem dX7_leftOver_9 : decode cX7_leftOver 9 = .ok (.lload_n 0, 1) := by decide +kernel
theorem dX7_leftOver_10 : decode cX7_leftOver 10 = .ok (.ldc2_w 307, 3) := by decide +kernel
theorem dX7_leftOver_13 : decode cX7_leftOver 13 = .ok (.ldiv, 1) := by decide +kernel
theorem dX7_leftOver_14 : decode cX7_leftOver 14 = .ok (.iload_n 2, 1) := by decide +kernel
theorem dX7_leftOver_15 : decode cX7_leftOver 15 = .ok (.i2l, 1) := by decide +kernel
theorem dX7_leftOver_16 : decode cX7_leftOver 16 = .ok (.lrem, 1) := by decide +kernel
theorem dX7_leftOver_17 : decode cX7_leftOver 17 = .ok (.l2i, 1) := by decide +kernel
theorem dX7_leftOver_18 : decode cX7_leftOver 18 = .ok (.ireturn, 1) := by decide +kernel
theorem dX8_init_0 : decode cX8_init 0 = .ok (.aload_n 0, 1) := by decide +kernel
theorem dX8_init_1 : decode cX8_init 1 = .ok (.invokespecial 1, 3) := by decide +kernel
theorem dX8_init_4 : decode cX8_init 4 = .ok (.aload_n 0, 1) := by decide +kernel
theorem dX8_init_5 : decode cX8_init 5 = .ok (.sipush 7458, 3) := by decide +kernel
theorem dX8_init_8 : decode cX8_init 8 = .ok (.newarray .int, 2) := by decide +kernel
theorem dX8_init_10 : decode cX8_init 10 = .ok (.putfield 7, 3) := by decide +kernel
theorem dX8_init_13 : decode cX8_init 13 = .ok (.aload_n 0, 1) := by decide +kernel
theorem dX8_init_14 : decode cX8_init 14 = .ok (.sipush 728, 3) := by decide +kernel
theorem dX8_init_17 : decode cX8_init 17 = .ok (.newarray .int, 2) := by decide +kernel
theorem dX8_init_19 : decode cX8_init 19 = .ok (.putfield 13, 3) := by decide +kernel
theorem dX8_init_22 : decode cX8_init 22 = .ok (.aload_n 0, 1) := by decide +kernel
theorem dX8_init_23 : decode cX8_init 23 = .ok (.iconst 2, 1) := by decide +kernel
theorem dX8_init_24 : decode cX8_init 24 = .ok (.newarray .boolean, 2) := by decide +kernel
theorem dX8_init_26 : decode cX8_init 26 = .ok (.putfield 16, 3) := by decide +kernel
theorem dX8_init_29 : decode cX8_init 29 = .ok (.aload_n 0, 1) := by decide +kernel
theorem dX8_init_30 : decode cX8_init 30 = .ok (.bipush 120, 2) := by decide +kernel
theorem dX8_init_32 : decode cX8_init 32 = .ok (.newarray .int, 2) := by decide +kernel
theorem dX8_init_34 : decode cX8_init 34 = .ok (.putfield 20, 3) := by decide +kernel
theorem dX8_init_37 : decode cX8_init 37 = .ok (.aload_n 0, 1) := by decide +kernel
theorem dX8_init_38 : decode cX8_init 38 = .ok (.lconst 0, 1) := by decide +kernel
theorem dX8_init_39 : decode cX8_init 39 = .ok (.putfield 23, 3) := by decide +kernel
theorem dX8_init_42 : decode cX8_init 42 = .ok (.aload_n 0, 1) := by decide +kernel
theorem dX8_init_43 : decode cX8_init 43 = .ok (.lconst 1, 1) := by decide +kernel
theorem dX8_init_44 : decode cX8_init 44 = .ok (.putfield 27, 3) := by decide +kernel
theorem dX8_init_47 : decode cX8_init 47 = .ok (.aload_n 0, 1) := by decide +kernel
theorem dX8_init_48 : decode cX8_init 48 = .ok (.iconst 3, 1) := by decide +kernel
theorem dX8_init_49 : decode cX8_init 49 = .ok (.newarray .int, 2) := by decide +kernel
theorem dX8_init_51 : decode cX8_init 51 = .ok (.putfield 30, 3) := by decide +kernel
theorem dX8_init_54 : decode cX8_init 54 = .ok (.aload_n 0, 1) := by decide +kernel
theorem dX8_init_55 : decode cX8_init 55 = .ok (.bipush 60, 2) := by decide +kernel
theorem dX8_init_57 : decode cX8_init 57 = .ok (.newarray .int, 2) := by decide +kernel
theorem dX8_init_59 : decode cX8_init 59 = .ok (.putfield 33, 3) := by decide +kernel
theorem dX8_init_62 : decode cX8_init 62 = .ok (.aload_n 0, 1) := by decide +kernel
theorem dX8_init_63 : decode cX8_init 63 = .ok (.sipush 128, 3) := by decide +kernel
theorem dX8_init_66 : decode cX8_init 66 = .ok (.newarray .int, 2) := by decide +kernel
theorem dX8_init_68 : decode cX8_init 68 = .ok (.putfield 36, 3) := by decide +kernel
theorem dX8_init_71 : decode cX8_init 71 = .ok (.aload_n 0, 1) := by decide +kernel
theorem dX8_init_72 : decode cX8_init 72 = .ok (.bipush 64, 2) := by decide +kernel
theorem dX8_init_74 : decode cX8_init 74 = .ok (.newarray .boolean, 2) := by decide +kernel
theorem dX8_init_76 : decode cX8_init 76 = .ok (.putfield 39, 3) := by decide +kernel
theorem dX8_init_79 : decode cX8_init 79 = .ok (.aload_n 0, 1) := by decide +kernel
theorem dX8_init_80 : decode cX8_init 80 = .ok (.getfield 7, 3) := by decide +kernel
theorem dX8_init_83 : decode cX8_init 83 = .ok (.iconst 2, 1) := by decide +kernel
theorem dX8_init_84 : decode cX8_init 84 = .ok (.iconst 0, 1) := by decide +kernel
theorem dX8_init_85 : decode cX8_init 85 = .ok (.iastore, 1) := by decide +kernel
theorem dX8_init_86 : decode cX8_init 86 = .ok (.return_, 1) := by decide +kernel
theorem dX8_in_0 : decode cX8_in 0 = .ok (.lload_n 0, 1) := by decide +kernel
theorem dX8_in_1 : decode cX8_in 1 = .ok (.lload_n 2, 1) := by decide +kernel
theorem dX8_in_2 : decode cX8_in 2 = .ok (.lcmp, 1) := by decide +kernel
theorem dX8_in_3 : decode cX8_in 3 = .ok (.ifCond .lt 14, 3) := by decide +kernel
theorem dX8_in_6 : decode cX8_in 6 = .ok (.lload_n 0, 1) := by decide +kernel
theorem dX8_in_7 : decode cX8_in 7 = .ok (.lload 4, 2) := by decide +kernel
theorem dX8_in_9 : decode cX8_in 9 = .ok (.lcmp, 1) := by decide +kernel
theorem dX8_in_10 : decode cX8_in 10 = .ok (.ifCond .gt 7, 3) := by decide +kernel
theorem dX8_in_13 : decode cX8_in 13 = .ok (.iconst 1, 1) := by decide +kernel
theorem dX8_in_14 : decode cX8_in 14 = .ok (.goto 4, 3) := by decide +kernel
theorem dX8_in_17 : decode cX8_in 17 = .ok (.iconst 0, 1) := by decide +kernel
theorem dX8_in_18 : decode cX8_in 18 = .ok (.ireturn, 1) := by decide +kernel
theorem dX8_bits_0 : decode cX8_bits 0 = .ok (.iconst 0, 1) := by decide +kernel
theorem dX8_bits_1 : decode cX8_bits 1 = .ok (.istore_n 1, 1) := by decide +kernel
theorem dX8_bits_2 : decode cX8_bits 2 = .ok (.iconst 0, 1) := by decide +kernel
theorem dX8_bits_3 : decode cX8_bits 3 = .ok (.istore_n 2, 1) := by decide +kernel
theorem dX8_bits_4 : decode cX8_bits 4 = .ok (.iload_n 2, 1) := by decide +kernel
theorem dX8_bits_5 : decode cX8_bits 5 = .ok (.bipush 8, 2) := by decide +kernel
theorem dX8_bits_7 : decode cX8_bits 7 = .ok (.if_icmp .ge 17, 3) := by decide +kernel
theorem dX8_bits_10 : decode cX8_bits 10 = .ok (.iload_n 1, 1) := by decide +kernel
theorem dX8_bits_11 : decode cX8_bits 11 = .ok (.iload_n 0, 1) := by decide +kernel
theorem dX8_bits_12 : decode cX8_bits 12 = .ok (.iload_n 2, 1) := by decide +kernel
theorem dX8_bits_13 : decode cX8_bits 13 = .ok (.ishr, 1) := by decide +kernel
theorem dX8_bits_14 : decode cX8_bits 14 = .ok (.iconst 1, 1) := by decide +kernel
theorem dX8_bits_15 : decode cX8_bits 15 = .ok (.iand, 1) := by decide +kernel
theorem dX8_bits_16 : decode cX8_bits 16 = .ok (.iadd, 1) := by decide +kernel
theorem dX8_bits_17 : decode cX8_bits 17 = .ok (.istore_n 1, 1) := by decide +kernel
theorem dX8_bits_18 : decode cX8_bits 18 = .ok (.iinc 2 1, 3) := by decide +kernel
theorem dX8_bits_21 : decode cX8_bits 21 = .ok (.goto (-17), 3) := by decide +kernel
theorem dX8_bits_24 : decode cX8_bits 24 = .ok (.iload_n 1, 1) := by decide +kernel
theorem dX8_bits_25 : decode cX8_bits 25 = .ok (.ireturn, 1) := by decide +kernel
theorem dX8_bad_0 : decode cX8_bad 0 = .ok (.aload_n 0, 1) := by decide +kernel
theorem dX8_bad_1 : decode cX8_bad 1 = .ok (.getfield 30, 3) := by decide +kernel
theorem dX8_bad_4 : decode cX8_bad 4 = .ok (.iconst 0, 1) := by decide +kernel
theorem dX8_bad_5 : decode cX8_bad 5 = .ok (.dup2, 1) := by decide +kernel
theorem dX8_bad_6 : decode cX8_bad 6 = .ok (.iaload, 1) := by decide +kernel
theorem dX8_bad_7 : decode cX8_bad 7 = .ok (.iconst 1, 1) := by decide +kernel
theorem dX8_bad_8 : decode cX8_bad 8 = .ok (.iadd, 1) := by decide +kernel
theorem dX8_bad_9 : decode cX8_bad 9 = .ok (.iastore, 1) := by decide +kernel
theorem dX8_bad_10 : decode cX8_bad 10 = .ok (.ldc 42, 2) := by decide +kernel
theorem dX8_bad_12 : decode cX8_bad 12 = .ok (.ireturn, 1) := by decide +kernel
theorem dX8_no_0 : decode cX8_no 0 = .ok (.aload_n 0, 1) := by decide +kernel
theorem dX8_no_1 : decode cX8_no 1 = .ok (.getfield 30, 3) := by decide +kernel
theorem dX8_no_4 : decode cX8_no 4 = .ok (.iconst 1, 1) := by decide +kernel
theorem dX8_no_5 : decode cX8_no 5 = .ok (.dup2, 1) := by decide +kernel
theorem dX8_no_6 : decode cX8_no 6 = .ok (.iaload, 1) := by decide +kernel
theorem dX8_no_7 : decode cX8_no 7 = .ok (.iconst 1, 1) := by decide +kernel
theorem dX8_no_8 : decode cX8_no 8 = .ok (.iadd, 1) := by decide +kernel
theorem dX8_no_9 : decode cX8_no 9 = .ok (.iastore, 1) := by decide +kernel
theorem dX8_no_10 : decode cX8_no 10 = .ok (.ldc 43, 2) := by decide +kernel
theorem dX8_no_12 : decode cX8_no 12 = .ok (.ireturn, 1) := by decide +kernel
theorem dX8_full_0 : decode cX8_full 0 = .ok (.aload_n 0, 1) := by decide +kernel
theorem dX8_full_1 : decode cX8_full 1 = .ok (.getfield 30, 3) := by decide +kernel
theorem dX8_full_4 : decode cX8_full 4 = .ok (.iconst 2, 1) := by decide +kernel
theorem dX8_full_5 : decode cX8_full 5 = .ok (.dup2, 1) := by decide +kernel
theorem dX8_full_6 : decode cX8_full 6 = .ok (.iaload, 1) := by decide +kernel
theorem dX8_full_7 : decode cX8_full 7 = .ok (.iconst 1, 1) := by decide +kernel
theorem dX8_full_8 : decode cX8_full 8 = .ok (.iadd, 1) := by decide +kernel
theorem dX8_full_9 : decode cX8_full 9 = .ok (.iastore, 1) := by decide +kernel
theorem dX8_full_10 : decode cX8_full 10 = .ok (.ldc 44, 2) := by decide +kernel
theorem dX8_full_12 : decode cX8_full 12 = .ok (.ireturn, 1) := by decide +kernel
theorem dX8_copy_0 : decode cX8_copy 0 = .ok (.iconst 0, 1) := by decide +kernel
theorem dX8_copy_1 : decode cX8_copy 1 = .ok (.istore_n 3, 1) := by decide +kernel
theorem dX8_copy_2 : decode cX8_copy 2 = .ok (.iload_n 3, 1) := by decide +kernel
theorem dX8_copy_3 : decode cX8_copy 3 = .ok (.sipush 678, 3) := by decide +kernel
theorem dX8_copy_6 : decode cX8_copy 6 = .ok (.if_icmp .ge 25, 3) := by decide +kernel
theorem dX8_copy_9 : decode cX8_copy 9 = .ok (.aload_n 0, 1) := by decide +kernel
theorem dX8_copy_10 : decode cX8_copy 10 = .ok (.getfield 7, 3) := by decide +kernel
theorem dX8_copy_13 : decode cX8_copy 13 = .ok (.iload_n 2, 1) := by decide +kernel
theorem dX8_copy_14 : decode cX8_copy 14 = .ok (.iload_n 3, 1) := by decide +kernel
theorem dX8_copy_15 : decode cX8_copy 15 = .ok (.iadd, 1) := by decide +kernel
theorem dX8_copy_16 : decode cX8_copy 16 = .ok (.aload_n 0, 1) := by decide +kernel
theorem dX8_copy_17 : decode cX8_copy 17 = .ok (.getfield 7, 3) := by decide +kernel
theorem dX8_copy_20 : decode cX8_copy 20 = .ok (.iload_n 1, 1) := by decide +kernel
theorem dX8_copy_21 : decode cX8_copy 21 = .ok (.iload_n 3, 1) := by decide +kernel
theorem dX8_copy_22 : decode cX8_copy 22 = .ok (.iadd, 1) := by decide +kernel
theorem dX8_copy_23 : decode cX8_copy 23 = .ok (.iaload, 1) := by decide +kernel
theorem dX8_copy_24 : decode cX8_copy 24 = .ok (.iastore, 1) := by decide +kernel
theorem dX8_copy_25 : decode cX8_copy 25 = .ok (.iinc 3 1, 3) := by decide +kernel
theorem dX8_copy_28 : decode cX8_copy 28 = .ok (.goto (-26), 3) := by decide +kernel
theorem dX8_copy_31 : decode cX8_copy 31 = .ok (.return_, 1) := by decide +kernel
theorem dX8_copyArea_0 : decode cX8_copyArea 0 = .ok (.iconst 0, 1) := by decide +kernel
theorem dX8_copyArea_1 : decode cX8_copyArea 1 = .ok (.istore_n 3, 1) := by decide +kernel
theorem dX8_copyArea_2 : decode cX8_copyArea 2 = .ok (.iload_n 3, 1) := by decide +kernel
theorem dX8_copyArea_3 : decode cX8_copyArea 3 = .ok (.sipush 182, 3) := by decide +kernel
theorem dX8_copyArea_6 : decode cX8_copyArea 6 = .ok (.if_icmp .ge 25, 3) := by decide +kernel
theorem dX8_copyArea_9 : decode cX8_copyArea 9 = .ok (.aload_n 0, 1) := by decide +kernel
theorem dX8_copyArea_10 : decode cX8_copyArea 10 = .ok (.getfield 13, 3) := by decide +kernel
theorem dX8_copyArea_13 : decode cX8_copyArea 13 = .ok (.iload_n 2, 1) := by decide +kernel
theorem dX8_copyArea_14 : decode cX8_copyArea 14 = .ok (.iload_n 3, 1) := by decide +kernel
theorem dX8_copyArea_15 : decode cX8_copyArea 15 = .ok (.iadd, 1) := by decide +kernel
theorem dX8_copyArea_16 : decode cX8_copyArea 16 = .ok (.aload_n 0, 1) := by decide +kernel
theorem dX8_copyArea_17 : decode cX8_copyArea 17 = .ok (.getfield 13, 3) := by decide +kernel
theorem dX8_copyArea_20 : decode cX8_copyArea 20 = .ok (.iload_n 1, 1) := by decide +kernel
theorem dX8_copyArea_21 : decode cX8_copyArea 21 = .ok (.iload_n 3, 1) := by decide +kernel
theorem dX8_copyArea_22 : decode cX8_copyArea 22 = .ok (.iadd, 1) := by decide +kernel
theorem dX8_copyArea_23 : decode cX8_copyArea 23 = .ok (.iaload, 1) := by decide +kernel
theorem dX8_copyArea_24 : decode cX8_copyArea 24 = .ok (.iastore, 1) := by decide +kernel
theorem dX8_copyArea_25 : decode cX8_copyArea 25 = .ok (.iinc 3 1, 3) := by decide +kernel
theorem dX8_copyArea_28 : decode cX8_copyArea 28 = .ok (.goto (-26), 3) := by decide +kernel
theorem dX8_copyArea_31 : decode cX8_copyArea 31 = .ok (.return_, 1) := by decide +kernel
theorem dX8_isPlace_0 : decode cX8_isPlace 0 = .ok (.iload_n 0, 1) := by decide +kernel
theorem dX8_isPlace_1 : decode cX8_isPlace 1 = .ok (.i2l, 1) := by decide +kernel
theorem dX8_isPlace_2 : decode cX8_isPlace 2 = .ok (.ldc2_w 45, 3) := by decide +kernel
theorem dX8_isPlace_5 : decode cX8_isPlace 5 = .ok (.ldc2_w 47, 3) := by decide +kernel
theorem dX8_isPlace_8 : decode cX8_isPlace 8 = .ok (.invokestatic 49, 3) := by decide +kernel
theorem dX8_isPlace_11 : decode cX8_isPlace 11 = .ok (.ireturn, 1) := by decide +kernel
theorem dX8_isRect_0 : decode cX8_isRect 0 = .ok (.iload_n 0, 1) := by decide +kernel
theorem dX8_isRect_1 : decode cX8_isRect 1 = .ok (.invokestatic 53, 3) := by decide +kernel
theorem dX8_isRect_4 : decode cX8_isRect 4 = .ok (.ifCond .eq 38, 3) := by decide +kernel
theorem dX8_isRect_7 : decode cX8_isRect 7 = .ok (.iload_n 1, 1) := by decide +kernel
theorem dX8_isRect_8 : decode cX8_isRect 8 = .ok (.invokestatic 53, 3) := by decide +kernel
theorem dX8_isRect_11 : decode cX8_isRect 11 = .ok (.ifCond .eq 31, 3) := by decide +kernel
theorem dX8_isRect_14 : decode cX8_isRect 14 = .ok (.iload_n 2, 1) := by decide +kernel
theorem dX8_isRect_15 : decode cX8_isRect 15 = .ok (.invokestatic 53, 3) := by decide +kernel
theorem dX8_isRect_18 : decode cX8_isRect 18 = .ok (.ifCond .eq 24, 3) := by decide +kernel
theorem dX8_isRect_21 : decode cX8_isRect 21 = .ok (.iload_n 3, 1) := by decide +kernel
theorem dX8_isRect_22 : decode cX8_isRect 22 = .ok (.invokestatic 53, 3) := by decide +kernel
theorem dX8_isRect_25 : decode cX8_isRect 25 = .ok (.ifCond .eq 17, 3) := by decide +kernel
theorem dX8_isRect_28 : decode cX8_isRect 28 = .ok (.iload_n 0, 1) := by decide +kernel
theorem dX8_isRect_29 : decode cX8_isRect 29 = .ok (.iload_n 1, 1) := by decide +kernel
theorem dX8_isRect_30 : decode cX8_isRect 30 = .ok (.if_icmp .gt 12, 3) := by decide +kernel
theorem dX8_isRect_33 : decode cX8_isRect 33 = .ok (.iload_n 2, 1) := by decide +kernel
theorem dX8_isRect_34 : decode cX8_isRect 34 = .ok (.iload_n 3, 1) := by decide +kernel
theorem dX8_isRect_35 : decode cX8_isRect 35 = .ok (.if_icmp .gt 7, 3) := by decide +kernel
theorem dX8_isRect_38 : decode cX8_isRect 38 = .ok (.iconst 1, 1) := by decide +kernel
theorem dX8_isRect_39 : decode cX8_isRect 39 = .ok (.goto 4, 3) := by decide +kernel
theorem dX8_isRect_42 : decode cX8_isRect 42 = .ok (.iconst 0, 1) := by decide +kernel
theorem dX8_isRect_43 : decode cX8_isRect 43 = .ok (.ireturn, 1) := by decide +kernel
theorem dX8_points_0 : decode cX8_points 0 = .ok (.aload_n 0, 1) := by decide +kernel
theorem dX8_points_1 : decode cX8_points 1 = .ok (.getfield 7, 3) := by decide +kernel
theorem dX8_points_4 : decode cX8_points 4 = .ok (.iconst 0, 1) := by decide +kernel
theorem dX8_points_5 : decode cX8_points 5 = .ok (.iaload, 1) := by decide +kernel
theorem dX8_points_6 : decode cX8_points 6 = .ok (.aload_n 0, 1) := by decide +kernel
theorem dX8_points_7 : decode cX8_points 7 = .ok (.getfield 7, 3) := by decide +kernel
theorem dX8_points_10 : decode cX8_points 10 = .ok (.iconst 1, 1) := by decide +kernel
theorem dX8_points_11 : decode cX8_points 11 = .ok (.iaload, 1) := by decide +kernel
theorem dX8_points_12 : decode cX8_points 12 = .ok (.isub, 1) := by decide +kernel
theorem dX8_points_13 : decode cX8_points 13 = .ok (.ireturn, 1) := by decide +kernel
theorem dX8_isThere_0 : decode cX8_isThere 0 = .ok (.aload_n 0, 1) := by decide +kernel
theorem dX8_isThere_1 : decode cX8_isThere 1 = .ok (.getfield 7, 3) := by decide +kernel
theorem dX8_isThere_4 : decode cX8_isThere 4 = .ok (.sipush 494, 3) := by decide +kernel
theorem dX8_isThere_7 : decode cX8_isThere 7 = .ok (.iload_n 1, 1) := by decide +kernel
theorem dX8_isThere_8 : decode cX8_isThere 8 = .ok (.iadd, 1) := by decide +kernel
theorem dX8_isThere_9 : decode cX8_isThere 9 = .ok (.iaload, 1) := by decide +kernel
theorem dX8_isThere_10 : decode cX8_isThere 10 = .ok (.ifCond .ne 7, 3) := by decide +kernel
theorem dX8_isThere_13 : decode cX8_isThere 13 = .ok (.iconst 1, 1) := by decide +kernel
theorem dX8_isThere_14 : decode cX8_isThere 14 = .ok (.goto 4, 3) := by decide +kernel
theorem dX8_isThere_17 : decode cX8_isThere 17 = .ok (.iconst 0, 1) := by decide +kernel
theorem dX8_isThere_18 : decode cX8_isThere 18 = .ok (.ireturn, 1) := by decide +kernel
theorem dX8_isIn_0 : decode cX8_isIn 0 = .ok (.aload_n 0, 1) := by decide +kernel
theorem dX8_isIn_1 : decode cX8_isIn 1 = .ok (.getfield 7, 3) := by decide +kernel
theorem dX8_isIn_4 : decode cX8_isIn 4 = .ok (.sipush 128, 3) := by decide +kernel
theorem dX8_isIn_7 : decode cX8_isIn 7 = .ok (.iload_n 1, 1) := by decide +kernel
theorem dX8_isIn_8 : decode cX8_isIn 8 = .ok (.iadd, 1) := by decide +kernel
theorem dX8_isIn_9 : decode cX8_isIn 9 = .ok (.iaload, 1) := by decide +kernel
theorem dX8_isIn_10 : decode cX8_isIn 10 = .ok (.i2l, 1) := by decide +kernel
theorem dX8_isIn_11 : decode cX8_isIn 11 = .ok (.iload_n 2, 1) := by decide +kernel
theorem dX8_isIn_12 : decode cX8_isIn 12 = .ok (.i2l, 1) := by decide +kernel
theorem dX8_isIn_13 : decode cX8_isIn 13 = .ok (.iload_n 3, 1) := by decide +kernel
theorem dX8_isIn_14 : decode cX8_isIn 14 = .ok (.i2l, 1) := by decide +kernel
theorem dX8_isIn_15 : decode cX8_isIn 15 = .ok (.invokestatic 49, 3) := by decide +kernel
theorem dX8_isIn_18 : decode cX8_isIn 18 = .ok (.ifCond .eq 30, 3) := by decide +kernel
theorem dX8_isIn_21 : decode cX8_isIn 21 = .ok (.aload_n 0, 1) := by decide +kernel
theorem dX8_isIn_22 : decode cX8_isIn 22 = .ok (.getfield 7, 3) := by decide +kernel
theorem dX8_isIn_25 : decode cX8_isIn 25 = .ok (.sipush 250, 3) := by decide +kernel
theorem dX8_isIn_28 : decode cX8_isIn 28 = .ok (.iload_n 1, 1) := by decide +kernel
theorem dX8_isIn_29 : decode cX8_isIn 29 = .ok (.iadd, 1) := by decide +kernel
theorem dX8_isIn_30 : decode cX8_isIn 30 = .ok (.iaload, 1) := by decide +kernel
theorem dX8_isIn_31 : decode cX8_isIn 31 = .ok (.i2l, 1) := by decide +kernel
theorem dX8_isIn_32 : decode cX8_isIn 32 = .ok (.iload 4, 2) := by decide +kernel
theorem dX8_isIn_34 : decode cX8_isIn 34 = .ok (.i2l, 1) := by decide +kernel
theorem dX8_isIn_35 : decode cX8_isIn 35 = .ok (.iload 5, 2) := by decide +kernel
theorem dX8_isIn_37 : decode cX8_isIn 37 = .ok (.i2l, 1) := by decide +kernel
theorem dX8_isIn_38 : decode cX8_isIn 38 = .ok (.invokestatic 49, 3) := by decide +kernel
theorem dX8_isIn_41 : decode cX8_isIn 41 = .ok (.ifCond .eq 7, 3) := by decide +kernel
theorem dX8_isIn_44 : decode cX8_isIn 44 = .ok (.iconst 1, 1) := by decide +kernel
theorem dX8_isIn_45 : decode cX8_isIn 45 = .ok (.goto 4, 3) := by decide +kernel
theorem dX8_isIn_48 : decode cX8_isIn 48 = .ok (.iconst 0, 1) := by decide +kernel
theorem dX8_isIn_49 : decode cX8_isIn 49 = .ok (.ireturn, 1) := by decide +kernel
theorem dX8_find_0 : decode cX8_find 0 = .ok (.iconst 0, 1) := by decide +kernel
theorem dX8_find_1 : decode cX8_find 1 = .ok (.istore_n 2, 1) := by decide +kernel
theorem dX8_find_2 : decode cX8_find 2 = .ok (.iload_n 2, 1) := by decide +kernel
theorem dX8_find_3 : decode cX8_find 3 = .ok (.aload_n 0, 1) := by decide +kernel
theorem dX8_find_4 : decode cX8_find 4 = .ok (.getfield 7, 3) := by decide +kernel
theorem dX8_find_7 : decode cX8_find 7 = .ok (.iconst 0, 1) := by decide +kernel
theorem dX8_find_8 : decode cX8_find 8 = .ok (.iaload, 1) := by decide +kernel
theorem dX8_find_9 : decode cX8_find 9 = .ok (.if_icmp .ge 32, 3) := by decide +kernel
theorem dX8_find_12 : decode cX8_find 12 = .ok (.aload_n 0, 1) := by decide +kernel
theorem dX8_find_13 : decode cX8_find 13 = .ok (.getfield 7, 3) := by decide +kernel
theorem dX8_find_16 : decode cX8_find 16 = .ok (.bipush 6, 2) := by decide +kernel
theorem dX8_find_18 : decode cX8_find 18 = .ok (.iload_n 2, 1) := by decide +kernel
theorem dX8_find_19 : decode cX8_find 19 = .ok (.iadd, 1) := by decide +kernel
theorem dX8_find_20 : decode cX8_find 20 = .ok (.iaload, 1) := by decide +kernel
theorem dX8_find_21 : decode cX8_find 21 = .ok (.iload_n 1, 1) := by decide +kernel
theorem dX8_find_22 : decode cX8_find 22 = .ok (.if_icmp .ne 13, 3) := by decide +kernel
theorem dX8_find_25 : decode cX8_find 25 = .ok (.aload_n 0, 1) := by decide +kernel
theorem dX8_find_26 : decode cX8_find 26 = .ok (.iload_n 2, 1) := by decide +kernel
theorem dX8_find_27 : decode cX8_find 27 = .ok (.invokevirtual 57, 3) := by decide +kernel
theorem dX8_find_30 : decode cX8_find 30 = .ok (.ifCond .eq 5, 3) := by decide +kernel
theorem dX8_find_33 : decode cX8_find 33 = .ok (.iload_n 2, 1) := by decide +kernel
theorem dX8_find_34 : decode cX8_find 34 = .ok (.ireturn, 1) := by decide +kernel
theorem dX8_find_35 : decode cX8_find 35 = .ok (.iinc 2 1, 3) := by decide +kernel
theorem dX8_find_38 : decode cX8_find 38 = .ok (.goto (-36), 3) := by decide +kernel
theorem dX8_find_41 : decode cX8_find 41 = .ok (.iconst (-1), 1) := by decide +kernel
theorem dX8_find_42 : decode cX8_find 42 = .ok (.ireturn, 1) := by decide +kernel
theorem dX8_counts_0 : decode cX8_counts 0 = .ok (.aload_n 0, 1) := by decide +kernel
theorem dX8_counts_1 : decode cX8_counts 1 = .ok (.getfield 7, 3) := by decide +kernel
theorem dX8_counts_4 : decode cX8_counts 4 = .ok (.sipush 372, 3) := by decide +kernel
theorem dX8_counts_7 : decode cX8_counts 7 = .ok (.iload_n 1, 1) := by decide +kernel
theorem dX8_counts_8 : decode cX8_counts 8 = .ok (.iadd, 1) := by decide +kernel
theorem dX8_counts_9 : decode cX8_counts 9 = .ok (.iaload, 1) := by decide +kernel
theorem dX8_counts_10 : decode cX8_counts 10 = .ok (.istore_n 2, 1) := by decide +kernel
theorem dX8_counts_11 : decode cX8_counts 11 = .ok (.aload_n 0, 1) := by decide +kernel
theorem dX8_counts_12 : decode cX8_counts 12 = .ok (.getfield 7, 3) := by decide +kernel
theorem dX8_counts_15 : decode cX8_counts 15 = .ok (.sipush 250, 3) := by decide +kernel
theorem dX8_counts_18 : decode cX8_counts 18 = .ok (.iload_n 1, 1) := by decide +kernel
theorem dX8_counts_19 : decode cX8_counts 19 = .ok (.iadd, 1) := by decide +kernel
theorem dX8_counts_20 : decode cX8_counts 20 = .ok (.iaload, 1) := by decide +kernel
theorem dX8_counts_21 : decode cX8_counts 21 = .ok (.ifCond .lt 7, 3) := by decide +kernel
theorem dX8_counts_24 : decode cX8_counts 24 = .ok (.iload_n 2, 1) := by decide +kernel
theorem dX8_counts_25 : decode cX8_counts 25 = .ok (.goto 4, 3) := by decide +kernel
theorem dX8_counts_28 : decode cX8_counts 28 = .ok (.iconst 0, 1) := by decide +kernel
theorem dX8_counts_29 : decode cX8_counts 29 = .ok (.istore_n 3, 1) := by decide +kernel
theorem dX8_counts_30 : decode cX8_counts 30 = .ok (.aload_n 0, 1) := by decide +kernel
theorem dX8_counts_31 : decode cX8_counts 31 = .ok (.getfield 7, 3) := by decide +kernel
theorem dX8_counts_34 : decode cX8_counts 34 = .ok (.iconst 3, 1) := by decide +kernel
theorem dX8_counts_35 : decode cX8_counts 35 = .ok (.iaload, 1) := by decide +kernel
theorem dX8_counts_36 : decode cX8_counts 36 = .ok (.tableswitch 91 1 5 #[36, 38, 70, 74, 76], 36) := by decide +kernel
theorem dX8_counts_72 : decode cX8_counts 72 = .ok (.iload_n 2, 1) := by decide +kernel
theorem dX8_counts_73 : decode cX8_counts 73 = .ok (.ireturn, 1) := by decide +kernel
theorem dX8_counts_74 : decode cX8_counts 74 = .ok (.aload_n 0, 1) := by decide +kernel
theorem dX8_counts_75 : decode cX8_counts 75 = .ok (.getfield 7, 3) := by decide +kernel
theorem dX8_counts_78 : decode cX8_counts 78 = .ok (.sipush 128, 3) := by decide +kernel
theorem dX8_counts_81 : decode cX8_counts 81 = .ok (.iload_n 1, 1) := by decide +kernel
theorem dX8_counts_82 : decode cX8_counts 82 = .ok (.iadd, 1) := by decide +kernel
theorem dX8_counts_83 : decode cX8_counts 83 = .ok (.iaload, 1) := by decide +kernel
theorem dX8_counts_84 : decode cX8_counts 84 = .ok (.aload_n 0, 1) := by decide +kernel
theorem dX8_counts_85 : decode cX8_counts 85 = .ok (.getfield 7, 3) := by decide +kernel
theorem dX8_counts_88 : decode cX8_counts 88 = .ok (.sipush 250, 3) := by decide +kernel
theorem dX8_counts_91 : decode cX8_counts 91 = .ok (.iload_n 1, 1) := by decide +kernel
theorem dX8_counts_92 : decode cX8_counts 92 = .ok (.iadd, 1) := by decide +kernel
theorem dX8_counts_93 : decode cX8_counts 93 = .ok (.iaload, 1) := by decide +kernel
theorem dX8_counts_94 : decode cX8_counts 94 = .ok (.iadd, 1) := by decide +kernel
theorem dX8_counts_95 : decode cX8_counts 95 = .ok (.iconst 2, 1) := by decide +kernel
theorem dX8_counts_96 : decode cX8_counts 96 = .ok (.irem, 1) := by decide +kernel
theorem dX8_counts_97 : decode cX8_counts 97 = .ok (.ifCond .ne 7, 3) := by decide +kernel
theorem dX8_counts_100 : decode cX8_counts 100 = .ok (.iconst 1, 1) := by decide +kernel
theorem dX8_counts_101 : decode cX8_counts 101 = .ok (.goto 4, 3) := by decide +kernel
theorem dX8_counts_104 : decode cX8_counts 104 = .ok (.iconst 0, 1) := by decide +kernel
theorem dX8_counts_105 : decode cX8_counts 105 = .ok (.ireturn, 1) := by decide +kernel
theorem dX8_counts_106 : decode cX8_counts 106 = .ok (.iconst 2, 1) := by decide +kernel
theorem dX8_counts_107 : decode cX8_counts 107 = .ok (.iload_n 2, 1) := by decide +kernel
theorem dX8_counts_108 : decode cX8_counts 108 = .ok (.imul, 1) := by decide +kernel
theorem dX8_counts_109 : decode cX8_counts 109 = .ok (.ireturn, 1) := by decide +kernel
theorem dX8_counts_110 : decode cX8_counts 110 = .ok (.iload_n 3, 1) := by decide +kernel
theorem dX8_counts_111 : decode cX8_counts 111 = .ok (.ireturn, 1) := by decide +kernel
theorem dX8_counts_112 : decode cX8_counts 112 = .ok (.iload_n 3, 1) := by decide +kernel
theorem dX8_counts_113 : decode cX8_counts 113 = .ok (.aload_n 0, 1) := by decide +kernel
theorem dX8_counts_114 : decode cX8_counts 114 = .ok (.getfield 7, 3) := by decide +kernel
theorem dX8_counts_117 : decode cX8_counts 117 = .ok (.bipush 6, 2) := by decide +kernel
theorem dX8_counts_119 : decode cX8_counts 119 = .ok (.iload_n 1, 1) := by decide +kernel
theorem dX8_counts_120 : decode cX8_counts 120 = .ok (.iadd, 1) := by decide +kernel
theorem dX8_counts_121 : decode cX8_counts 121 = .ok (.iaload, 1) := by decide +kernel
theorem dX8_counts_122 : decode cX8_counts 122 = .ok (.bipush 10, 2) := by decide +kernel
theorem dX8_counts_124 : decode cX8_counts 124 = .ok (.irem, 1) := by decide +kernel
theorem dX8_counts_125 : decode cX8_counts 125 = .ok (.iadd, 1) := by decide +kernel
theorem dX8_counts_126 : decode cX8_counts 126 = .ok (.ireturn, 1) := by decide +kernel
theorem dX8_counts_127 : decode cX8_counts 127 = .ok (.iconst 1, 1) := by decide +kernel
theorem dX8_counts_128 : decode cX8_counts 128 = .ok (.ireturn, 1) := by decide +kernel
theorem dX8_minds_0 : decode cX8_minds 0 = .ok (.aload_n 0, 1) := by decide +kernel
theorem dX8_minds_1 : decode cX8_minds 1 = .ok (.getfield 60, 3) := by decide +kernel
theorem dX8_minds_4 : decode cX8_minds 4 = .ok (.bipush 8, 2) := by decide +kernel
theorem dX8_minds_6 : decode cX8_minds 6 = .ok (.if_icmp .ne 52, 3) := by decide +kernel
theorem dX8_minds_9 : decode cX8_minds 9 = .ok (.iconst 0, 1) := by decide +kernel
theorem dX8_minds_10 : decode cX8_minds 10 = .ok (.istore_n 1, 1) := by decide +kernel
theorem dX8_minds_11 : decode cX8_minds 11 = .ok (.iload_n 1, 1) := by decide +kernel
theorem dX8_minds_12 : decode cX8_minds 12 = .ok (.sipush 4746, 3) := by decide +kernel
theorem dX8_minds_15 : decode cX8_minds 15 = .ok (.if_icmp .ge 33, 3) := by decide +kernel
theorem dX8_minds_18 : decode cX8_minds 18 = .ok (.aload_n 0, 1) := by decide +kernel
theorem dX8_minds_19 : decode cX8_minds 19 = .ok (.getfield 7, 3) := by decide +kernel
theorem dX8_minds_22 : decode cX8_minds 22 = .ok (.sipush 2034, 3) := by decide +kernel
theorem dX8_minds_25 : decode cX8_minds 25 = .ok (.iload_n 1, 1) := by decide +kernel
theorem dX8_minds_26 : decode cX8_minds 26 = .ok (.iadd, 1) := by decide +kernel
theorem dX8_minds_27 : decode cX8_minds 27 = .ok (.aload_n 0, 1) := by decide +kernel
theorem dX8_minds_28 : decode cX8_minds 28 = .ok (.getfield 7, 3) := by decide +kernel
theorem dX8_minds_31 : decode cX8_minds 31 = .ok (.sipush 2034, 3) := by decide +kernel
theorem dX8_minds_34 : decode cX8_minds 34 = .ok (.iload_n 1, 1) := by decide +kernel
theorem dX8_minds_35 : decode cX8_minds 35 = .ok (.iadd, 1) := by decide +kernel
theorem dX8_minds_36 : decode cX8_minds 36 = .ok (.sipush 678, 3) := by decide +kernel
theorem dX8_minds_39 : decode cX8_minds 39 = .ok (.iadd, 1) := by decide +kernel
theorem dX8_minds_40 : decode cX8_minds 40 = .ok (.iaload, 1) := by decide +kernel
theorem dX8_minds_41 : decode cX8_minds 41 = .ok (.iastore, 1) := by decide +kernel
theorem dX8_minds_42 : decode cX8_minds 42 = .ok (.iinc 1 1, 3) := by decide +kernel
theorem dX8_minds_45 : decode cX8_minds 45 = .ok (.goto (-34), 3) := by decide +kernel
theorem dX8_minds_48 : decode cX8_minds 48 = .ok (.aload_n 0, 1) := by decide +kernel
theorem dX8_minds_49 : decode cX8_minds 49 = .ok (.dup, 1) := by decide +kernel
theorem dX8_minds_50 : decode cX8_minds 50 = .ok (.getfield 60, 3) := by decide +kernel
theorem dX8_minds_53 : decode cX8_minds 53 = .ok (.iconst 1, 1) := by decide +kernel
theorem dX8_minds_54 : decode cX8_minds 54 = .ok (.isub, 1) := by decide +kernel
theorem dX8_minds_55 : decode cX8_minds 55 = .ok (.putfield 60, 3) := by decide +kernel
theorem dX8_minds_58 : decode cX8_minds 58 = .ok (.aload_n 0, 1) := by decide +kernel
theorem dX8_minds_59 : decode cX8_minds 59 = .ok (.iconst 0, 1) := by decide +kernel
theorem dX8_minds_60 : decode cX8_minds 60 = .ok (.sipush 2034, 3) := by decide +kernel
theorem dX8_minds_63 : decode cX8_minds 63 = .ok (.sipush 678, 3) := by decide +kernel
theorem dX8_minds_66 : decode cX8_minds 66 = .ok (.aload_n 0, 1) := by decide +kernel
theorem dX8_minds_67 : decode cX8_minds 67 = .ok (.getfield 60, 3) := by decide +kernel
theorem dX8_minds_70 : decode cX8_minds 70 = .ok (.imul, 1) := by decide +kernel
theorem dX8_minds_71 : decode cX8_minds 71 = .ok (.iadd, 1) := by decide +kernel
theorem dX8_minds_72 : decode cX8_minds 72 = .ok (.invokevirtual 64, 3) := by decide +kernel
theorem dX8_minds_75 : decode cX8_minds 75 = .ok (.aload_n 0, 1) := by decide +kernel
theorem dX8_minds_76 : decode cX8_minds 76 = .ok (.dup, 1) := by decide +kernel
theorem dX8_minds_77 : decode cX8_minds 77 = .ok (.getfield 60, 3) := by decide +kernel
theorem dX8_minds_80 : decode cX8_minds 80 = .ok (.iconst 1, 1) := by decide +kernel
theorem dX8_minds_81 : decode cX8_minds 81 = .ok (.iadd, 1) := by decide +kernel
theorem dX8_minds_82 : decode cX8_minds 82 = .ok (.putfield 60, 3) := by decide +kernel
theorem dX8_minds_85 : decode cX8_minds 85 = .ok (.return_, 1) := by decide +kernel
theorem dX8_carriedBy_0 : decode cX8_carriedBy 0 = .ok (.iconst 1, 1) := by decide +kernel
theorem dX8_carriedBy_1 : decode cX8_carriedBy 1 = .ok (.istore_n 1, 1) := by decide +kernel
theorem dX8_carriedBy_2 : decode cX8_carriedBy 2 = .ok (.iload_n 0, 1) := by decide +kernel
theorem dX8_carriedBy_3 : decode cX8_carriedBy 3 = .ok (.istore_n 2, 1) := by decide +kernel
theorem dX8_carriedBy_4 : decode cX8_carriedBy 4 = .ok (.iload_n 2, 1) := by decide +kernel
theorem dX8_carriedBy_5 : decode cX8_carriedBy 5 = .ok (.iconst 2, 1) := by decide +kernel
theorem dX8_carriedBy_6 : decode cX8_carriedBy 6 = .ok (.irem, 1) := by decide +kernel
theorem dX8_carriedBy_7 : decode cX8_carriedBy 7 = .ok (.iconst 1, 1) := by decide +kernel
theorem dX8_carriedBy_8 : decode cX8_carriedBy 8 = .ok (.if_icmp .ne 14, 3) := by decide +kernel
theorem dX8_carriedBy_11 : decode cX8_carriedBy 11 = .ok (.iload_n 1, 1) := by decide +kernel
theorem dX8_carriedBy_12 : decode cX8_carriedBy 12 = .ok (.iconst 2, 1) := by decide +kernel
theorem dX8_carriedBy_13 : decode cX8_carriedBy 13 = .ok (.imul, 1) := by decide +kernel
theorem dX8_carriedBy_14 : decode cX8_carriedBy 14 = .ok (.istore_n 1, 1) := by decide +kernel
theorem dX8_carriedBy_15 : decode cX8_carriedBy 15 = .ok (.iload_n 2, 1) := by decide +kernel
theorem dX8_carriedBy_16 : decode cX8_carriedBy 16 = .ok (.iconst 2, 1) := by decide +kernel
theorem dX8_carriedBy_17 : decode cX8_carriedBy 17 = .ok (.idiv, 1) := by decide +kernel
theorem dX8_carriedBy_18 : decode cX8_carriedBy 18 = .ok (.istore_n 2, 1) := by decide +kernel
theorem dX8_carriedBy_19 : decode cX8_carriedBy 19 = .ok (.goto (-15), 3) := by decide +kernel
theorem dX8_carriedBy_22 : decode cX8_carriedBy 22 = .ok (.iload_n 1, 1) := by decide +kernel
theorem dX8_carriedBy_23 : decode cX8_carriedBy 23 = .ok (.ireturn, 1) := by decide +kernel
theorem dX8_comes_0 : decode cX8_comes 0 = .ok (.aload_n 0, 1) := by decide +kernel
theorem dX8_comes_1 : decode cX8_comes 1 = .ok (.getfield 7, 3) := by decide +kernel
theorem dX8_comes_4 : decode cX8_comes 4 = .ok (.iconst 0, 1) := by decide +kernel
theorem dX8_comes_5 : decode cX8_comes 5 = .ok (.iaload, 1) := by decide +kernel
theorem dX8_comes_6 : decode cX8_comes 6 = .ok (.istore 4, 2) := by decide +kernel
theorem dX8_comes_8 : decode cX8_comes 8 = .ok (.aload_n 0, 1) := by decide +kernel
theorem dX8_comes_9 : decode cX8_comes 9 = .ok (.getfield 7, 3) := by decide +kernel
theorem dX8_comes_12 : decode cX8_comes 12 = .ok (.iconst 4, 1) := by decide +kernel
theorem dX8_comes_13 : decode cX8_comes 13 = .ok (.dup2, 1) := by decide +kernel
theorem dX8_comes_14 : decode cX8_comes 14 = .ok (.iaload, 1) := by decide +kernel
theorem dX8_comes_15 : decode cX8_comes 15 = .ok (.iload 4, 2) := by decide +kernel
theorem dX8_comes_17 : decode cX8_comes 17 = .ok (.invokestatic 68, 3) := by decide +kernel
theorem dX8_comes_20 : decode cX8_comes 20 = .ok (.iadd, 1) := by decide +kernel
theorem dX8_comes_21 : decode cX8_comes 21 = .ok (.iastore, 1) := by decide +kernel
theorem dX8_comes_22 : decode cX8_comes 22 = .ok (.aload_n 0, 1) := by decide +kernel
theorem dX8_comes_23 : decode cX8_comes 23 = .ok (.getfield 7, 3) := by decide +kernel
theorem dX8_comes_26 : decode cX8_comes 26 = .ok (.bipush 6, 2) := by decide +kernel
theorem dX8_comes_28 : decode cX8_comes 28 = .ok (.iload 4, 2) := by decide +kernel
theorem dX8_comes_30 : decode cX8_comes 30 = .ok (.iadd, 1) := by decide +kernel
theorem dX8_comes_31 : decode cX8_comes 31 = .ok (.aload_n 0, 1) := by decide +kernel
theorem dX8_comes_32 : decode cX8_comes 32 = .ok (.getfield 7, 3) := by decide +kernel
theorem dX8_comes_35 : decode cX8_comes 35 = .ok (.iconst 2, 1) := by decide +kernel
theorem dX8_comes_36 : decode cX8_comes 36 = .ok (.iaload, 1) := by decide +kernel
theorem dX8_comes_37 : decode cX8_comes 37 = .ok (.iastore, 1) := by decide +kernel
theorem dX8_comes_38 : decode cX8_comes 38 = .ok (.aload_n 0, 1) := by decide +kernel
theorem dX8_comes_39 : decode cX8_comes 39 = .ok (.getfield 7, 3) := by decide +kernel
theorem dX8_comes_42 : decode cX8_comes 42 = .ok (.sipush 128, 3) := by decide +kernel
theorem dX8_comes_45 : decode cX8_comes 45 = .ok (.iload 4, 2) := by decide +kernel
theorem dX8_comes_47 : decode cX8_comes 47 = .ok (.iadd, 1) := by decide +kernel
theorem dX8_comes_48 : decode cX8_comes 48 = .ok (.iload_n 1, 1) := by decide +kernel
theorem dX8_comes_49 : decode cX8_comes 49 = .ok (.iastore, 1) := by decide +kernel
theorem dX8_comes_50 : decode cX8_comes 50 = .ok (.aload_n 0, 1) := by decide +kernel
theorem dX8_comes_51 : decode cX8_comes 51 = .ok (.getfield 7, 3) := by decide +kernel
theorem dX8_comes_54 : decode cX8_comes 54 = .ok (.sipush 250, 3) := by decide +kernel
theorem dX8_comes_57 : decode cX8_comes 57 = .ok (.iload 4, 2) := by decide +kernel
theorem dX8_comes_59 : decode cX8_comes 59 = .ok (.iadd, 1) := by decide +kernel
theorem dX8_comes_60 : decode cX8_comes 60 = .ok (.iload_n 2, 1) := by decide +kernel
theorem dX8_comes_61 : decode cX8_comes 61 = .ok (.iastore, 1) := by decide +kernel
theorem dX8_comes_62 : decode cX8_comes 62 = .ok (.aload_n 0, 1) := by decide +kernel
theorem dX8_comes_63 : decode cX8_comes 63 = .ok (.getfield 7, 3) := by decide +kernel
theorem dX8_comes_66 : decode cX8_comes 66 = .ok (.sipush 372, 3) := by decide +kernel
theorem dX8_comes_69 : decode cX8_comes 69 = .ok (.iload 4, 2) := by decide +kernel
theorem dX8_comes_71 : decode cX8_comes 71 = .ok (.iadd, 1) := by decide +kernel
theorem dX8_comes_72 : decode cX8_comes 72 = .ok (.iload_n 3, 1) := by decide +kernel
theorem dX8_comes_73 : decode cX8_comes 73 = .ok (.iastore, 1) := by decide +kernel
theorem dX8_comes_74 : decode cX8_comes 74 = .ok (.aload_n 0, 1) := by decide +kernel
theorem dX8_comes_75 : decode cX8_comes 75 = .ok (.getfield 7, 3) := by decide +kernel
theorem dX8_comes_78 : decode cX8_comes 78 = .ok (.sipush 494, 3) := by decide +kernel
theorem dX8_comes_81 : decode cX8_comes 81 = .ok (.iload 4, 2) := by decide +kernel
theorem dX8_comes_83 : decode cX8_comes 83 = .ok (.iadd, 1) := by decide +kernel
theorem dX8_comes_84 : decode cX8_comes 84 = .ok (.iconst 0, 1) := by decide +kernel
theorem dX8_comes_85 : decode cX8_comes 85 = .ok (.iastore, 1) := by decide +kernel
theorem dX8_comes_86 : decode cX8_comes 86 = .ok (.aload_n 0, 1) := by decide +kernel
theorem dX8_comes_87 : decode cX8_comes 87 = .ok (.getfield 7, 3) := by decide +kernel
theorem dX8_comes_90 : decode cX8_comes 90 = .ok (.iconst 0, 1) := by decide +kernel
theorem dX8_comes_91 : decode cX8_comes 91 = .ok (.dup2, 1) := by decide +kernel
theorem dX8_comes_92 : decode cX8_comes 92 = .ok (.iaload, 1) := by decide +kernel
theorem dX8_comes_93 : decode cX8_comes 93 = .ok (.iconst 1, 1) := by decide +kernel
theorem dX8_comes_94 : decode cX8_comes 94 = .ok (.iadd, 1) := by decide +kernel
theorem dX8_comes_95 : decode cX8_comes 95 = .ok (.iastore, 1) := by decide +kernel
theorem dX8_comes_96 : decode cX8_comes 96 = .ok (.aload_n 0, 1) := by decide +kernel
theorem dX8_comes_97 : decode cX8_comes 97 = .ok (.getfield 7, 3) := by decide +kernel
theorem dX8_comes_100 : decode cX8_comes 100 = .ok (.iconst 2, 1) := by decide +kernel
theorem dX8_comes_101 : decode cX8_comes 101 = .ok (.dup2, 1) := by decide +kernel
theorem dX8_comes_102 : decode cX8_comes 102 = .ok (.iaload, 1) := by decide +kernel
theorem dX8_comes_103 : decode cX8_comes 103 = .ok (.iconst 1, 1) := by decide +kernel
theorem dX8_comes_104 : decode cX8_comes 104 = .ok (.iadd, 1) := by decide +kernel
theorem dX8_comes_105 : decode cX8_comes 105 = .ok (.iastore, 1) := by decide +kernel
theorem dX8_comes_106 : decode cX8_comes 106 = .ok (.return_, 1) := by decide +kernel
theorem dX8_laysAnew_0 : decode cX8_laysAnew 0 = .ok (.iconst 0, 1) := by decide +kernel
theorem dX8_laysAnew_1 : decode cX8_laysAnew 1 = .ok (.istore_n 1, 1) := by decide +kernel
theorem dX8_laysAnew_2 : decode cX8_laysAnew 2 = .ok (.iconst 0, 1) := by decide +kernel
theorem dX8_laysAnew_3 : decode cX8_laysAnew 3 = .ok (.istore_n 2, 1) := by decide +kernel
theorem dX8_laysAnew_4 : decode cX8_laysAnew 4 = .ok (.iload_n 2, 1) := by decide +kernel
theorem dX8_laysAnew_5 : decode cX8_laysAnew 5 = .ok (.aload_n 0, 1) := by decide +kernel
theorem dX8_laysAnew_6 : decode cX8_laysAnew 6 = .ok (.getfield 7, 3) := by decide +kernel
theorem dX8_laysAnew_9 : decode cX8_laysAnew 9 = .ok (.iconst 0, 1) := by decide +kernel
theorem dX8_laysAnew_10 : decode cX8_laysAnew 10 = .ok (.iaload, 1) := by decide +kernel
theorem dX8_laysAnew_11 : decode cX8_laysAnew 11 = .ok (.if_icmp .ge 98, 3) := by decide +kernel
theorem dX8_laysAnew_14 : decode cX8_laysAnew 14 = .ok (.aload_n 0, 1) := by decide +kernel
theorem dX8_laysAnew_15 : decode cX8_laysAnew 15 = .ok (.iload_n 2, 1) := by decide +kernel
theorem dX8_laysAnew_16 : decode cX8_laysAnew 16 = .ok (.invokevirtual 57, 3) := by decide +kernel
theorem dX8_laysAnew_19 : decode cX8_laysAnew 19 = .ok (.ifCond .eq 84, 3) := by decide +kernel
theorem dX8_laysAnew_22 : decode cX8_laysAnew 22 = .ok (.aload_n 0, 1) := by decide +kernel
theorem dX8_laysAnew_23 : decode cX8_laysAnew 23 = .ok (.getfield 7, 3) := by decide +kernel
theorem dX8_laysAnew_26 : decode cX8_laysAnew 26 = .ok (.bipush 6, 2) := by decide +kernel
theorem dX8_laysAnew_28 : decode cX8_laysAnew 28 = .ok (.iload_n 1, 1) := by decide +kernel
theorem dX8_laysAnew_29 : decode cX8_laysAnew 29 = .ok (.iadd, 1) := by decide +kernel
theorem dX8_laysAnew_30 : decode cX8_laysAnew 30 = .ok (.aload_n 0, 1) := by decide +kernel
theorem dX8_laysAnew_31 : decode cX8_laysAnew 31 = .ok (.getfield 7, 3) := by decide +kernel
theorem dX8_laysAnew_34 : decode cX8_laysAnew 34 = .ok (.bipush 6, 2) := by decide +kernel
theorem dX8_laysAnew_36 : decode cX8_laysAnew 36 = .ok (.iload_n 2, 1) := by decide +kernel
theorem dX8_laysAnew_37 : decode cX8_laysAnew 37 = .ok (.iadd, 1) := by decide +kernel
theorem dX8_laysAnew_38 : decode cX8_laysAnew 38 = .ok (.iaload, 1) := by decide +kernel
theorem dX8_laysAnew_39 : decode cX8_laysAnew 39 = .ok (.iastore, 1) := by decide +kernel
theorem dX8_laysAnew_40 : decode cX8_laysAnew 40 = .ok (.aload_n 0, 1) := by decide +kernel
theorem dX8_laysAnew_41 : decode cX8_laysAnew 41 = .ok (.getfield 7, 3) := by decide +kernel
theorem dX8_laysAnew_44 : decode cX8_laysAnew 44 = .ok (.sipush 128, 3) := by decide +kernel
theorem dX8_laysAnew_47 : decode cX8_laysAnew 47 = .ok (.iload_n 1, 1) := by decide +kernel
theorem dX8_laysAnew_48 : decode cX8_laysAnew 48 = .ok (.iadd, 1) := by decide +kernel
theorem dX8_laysAnew_49 : decode cX8_laysAnew 49 = .ok (.aload_n 0, 1) := by decide +kernel
theorem dX8_laysAnew_50 : decode cX8_laysAnew 50 = .ok (.getfield 7, 3) := by decide +kernel
theorem dX8_laysAnew_53 : decode cX8_laysAnew 53 = .ok (.sipush 128, 3) := by decide +kernel
theorem dX8_laysAnew_56 : decode cX8_laysAnew 56 = .ok (.iload_n 2, 1) := by decide +kernel
theorem dX8_laysAnew_57 : decode cX8_laysAnew 57 = .ok (.iadd, 1) := by decide +kernel
theorem dX8_laysAnew_58 : decode cX8_laysAnew 58 = .ok (.iaload, 1) := by decide +kernel
theorem dX8_laysAnew_59 : decode cX8_laysAnew 59 = .ok (.iastore, 1) := by decide +kernel
theorem dX8_laysAnew_60 : decode cX8_laysAnew 60 = .ok (.aload_n 0, 1) := by decide +kernel
theorem dX8_laysAnew_61 : decode cX8_laysAnew 61 = .ok (.getfield 7, 3) := by decide +kernel
theorem dX8_laysAnew_64 : decode cX8_laysAnew 64 = .ok (.sipush 250, 3) := by decide +kernel
theorem dX8_laysAnew_67 : decode cX8_laysAnew 67 = .ok (.iload_n 1, 1) := by decide +kernel
theorem dX8_laysAnew_68 : decode cX8_laysAnew 68 = .ok (.iadd, 1) := by decide +kernel
theorem dX8_laysAnew_69 : decode cX8_laysAnew 69 = .ok (.aload_n 0, 1) := by decide +kernel
theorem dX8_laysAnew_70 : decode cX8_laysAnew 70 = .ok (.getfield 7, 3) := by decide +kernel
theorem dX8_laysAnew_73 : decode cX8_laysAnew 73 = .ok (.sipush 250, 3) := by decide +kernel
theorem dX8_laysAnew_76 : decode cX8_laysAnew 76 = .ok (.iload_n 2, 1) := by decide +kernel
theorem dX8_laysAnew_77 : decode cX8_laysAnew 77 = .ok (.iadd, 1) := by decide +kernel
theorem dX8_laysAnew_78 : decode cX8_laysAnew 78 = .ok (.iaload, 1) := by decide +kernel
theorem dX8_laysAnew_79 : decode cX8_laysAnew 79 = .ok (.iastore, 1) := by decide +kernel
theorem dX8_laysAnew_80 : decode cX8_laysAnew 80 = .ok (.aload_n 0, 1) := by decide +kernel
theorem dX8_laysAnew_81 : decode cX8_laysAnew 81 = .ok (.getfield 7, 3) := by decide +kernel
theorem dX8_laysAnew_84 : decode cX8_laysAnew 84 = .ok (.sipush 372, 3) := by decide +kernel
theorem dX8_laysAnew_87 : decode cX8_laysAnew 87 = .ok (.iload_n 1, 1) := by decide +kernel
theorem dX8_laysAnew_88 : decode cX8_laysAnew 88 = .ok (.iadd, 1) := by decide +kernel
theorem dX8_laysAnew_89 : decode cX8_laysAnew 89 = .ok (.aload_n 0, 1) := by decide +kernel
theorem dX8_laysAnew_90 : decode cX8_laysAnew 90 = .ok (.getfield 7, 3) := by decide +kernel
theorem dX8_laysAnew_93 : decode cX8_laysAnew 93 = .ok (.sipush 372, 3) := by decide +kernel
theorem dX8_laysAnew_96 : decode cX8_laysAnew 96 = .ok (.iload_n 2, 1) := by decide +kernel
theorem dX8_laysAnew_97 : decode cX8_laysAnew 97 = .ok (.iadd, 1) := by decide +kernel
theorem dX8_laysAnew_98 : decode cX8_laysAnew 98 = .ok (.iaload, 1) := by decide +kernel
theorem dX8_laysAnew_99 : decode cX8_laysAnew 99 = .ok (.iastore, 1) := by decide +kernel
theorem dX8_laysAnew_100 : decode cX8_laysAnew 100 = .ok (.iinc 1 1, 3) := by decide +kernel
theorem dX8_laysAnew_103 : decode cX8_laysAnew 103 = .ok (.iinc 2 1, 3) := by decide +kernel
theorem dX8_laysAnew_106 : decode cX8_laysAnew 106 = .ok (.goto (-102), 3) := by decide +kernel
theorem dX8_laysAnew_109 : decode cX8_laysAnew 109 = .ok (.iconst 0, 1) := by decide +kernel
theorem dX8_laysAnew_110 : decode cX8_laysAnew 110 = .ok (.istore_n 2, 1) := by decide +kernel
theorem dX8_laysAnew_111 : decode cX8_laysAnew 111 = .ok (.iload_n 2, 1) := by decide +kernel
theorem dX8_laysAnew_112 : decode cX8_laysAnew 112 = .ok (.aload_n 0, 1) := by decide +kernel
theorem dX8_laysAnew_113 : decode cX8_laysAnew 113 = .ok (.getfield 7, 3) := by decide +kernel
theorem dX8_laysAnew_116 : decode cX8_laysAnew 116 = .ok (.iconst 0, 1) := by decide +kernel
theorem dX8_laysAnew_117 : decode cX8_laysAnew 117 = .ok (.iaload, 1) := by decide +kernel
theorem dX8_laysAnew_118 : decode cX8_laysAnew 118 = .ok (.if_icmp .ge 20, 3) := by decide +kernel
theorem dX8_laysAnew_121 : decode cX8_laysAnew 121 = .ok (.aload_n 0, 1) := by decide +kernel
theorem dX8_laysAnew_122 : decode cX8_laysAnew 122 = .ok (.getfield 7, 3) := by decide +kernel
theorem dX8_laysAnew_125 : decode cX8_laysAnew 125 = .ok (.sipush 494, 3) := by decide +kernel
theorem dX8_laysAnew_128 : decode cX8_laysAnew 128 = .ok (.iload_n 2, 1) := by decide +kernel
theorem dX8_laysAnew_129 : decode cX8_laysAnew 129 = .ok (.iadd, 1) := by decide +kernel
theorem dX8_laysAnew_130 : decode cX8_laysAnew 130 = .ok (.iconst 0, 1) := by decide +kernel
theorem dX8_laysAnew_131 : decode cX8_laysAnew 131 = .ok (.iastore, 1) := by decide +kernel
theorem dX8_laysAnew_132 : decode cX8_laysAnew 132 = .ok (.iinc 2 1, 3) := by decide +kernel
theorem dX8_laysAnew_135 : decode cX8_laysAnew 135 = .ok (.goto (-24), 3) := by decide +kernel
theorem dX8_laysAnew_138 : decode cX8_laysAnew 138 = .ok (.aload_n 0, 1) := by decide +kernel
theorem dX8_laysAnew_139 : decode cX8_laysAnew 139 = .ok (.getfield 7, 3) := by decide +kernel
theorem dX8_laysAnew_142 : decode cX8_laysAnew 142 = .ok (.iconst 0, 1) := by decide +kernel
theorem dX8_laysAnew_143 : decode cX8_laysAnew 143 = .ok (.iload_n 1, 1) := by decide +kernel
theorem dX8_laysAnew_144 : decode cX8_laysAnew 144 = .ok (.iastore, 1) := by decide +kernel
theorem dX8_laysAnew_145 : decode cX8_laysAnew 145 = .ok (.aload_n 0, 1) := by decide +kernel
theorem dX8_laysAnew_146 : decode cX8_laysAnew 146 = .ok (.getfield 7, 3) := by decide +kernel
theorem dX8_laysAnew_149 : decode cX8_laysAnew 149 = .ok (.iconst 1, 1) := by decide +kernel
theorem dX8_laysAnew_150 : decode cX8_laysAnew 150 = .ok (.iconst 0, 1) := by decide +kernel
theorem dX8_laysAnew_151 : decode cX8_laysAnew 151 = .ok (.iastore, 1) := by decide +kernel
theorem dX8_laysAnew_152 : decode cX8_laysAnew 152 = .ok (.aload_n 0, 1) := by decide +kernel
theorem dX8_laysAnew_153 : decode cX8_laysAnew 153 = .ok (.getfield 7, 3) := by decide +kernel
theorem dX8_laysAnew_156 : decode cX8_laysAnew 156 = .ok (.iconst 5, 1) := by decide +kernel
theorem dX8_laysAnew_157 : decode cX8_laysAnew 157 = .ok (.dup2, 1) := by decide +kernel
theorem dX8_laysAnew_158 : decode cX8_laysAnew 158 = .ok (.iaload, 1) := by decide +kernel
theorem dX8_laysAnew_159 : decode cX8_laysAnew 159 = .ok (.iconst 1, 1) := by decide +kernel
theorem dX8_laysAnew_160 : decode cX8_laysAnew 160 = .ok (.iadd, 1) := by decide +kernel
theorem dX8_laysAnew_161 : decode cX8_laysAnew 161 = .ok (.iastore, 1) := by decide +kernel
theorem dX8_laysAnew_162 : decode cX8_laysAnew 162 = .ok (.return_, 1) := by decide +kernel
theorem dX8_goes_0 : decode cX8_goes 0 = .ok (.aload_n 0, 1) := by decide +kernel
theorem dX8_goes_1 : decode cX8_goes 1 = .ok (.getfield 7, 3) := by decide +kernel
theorem dX8_goes_4 : decode cX8_goes 4 = .ok (.iconst 4, 1) := by decide +kernel
theorem dX8_goes_5 : decode cX8_goes 5 = .ok (.dup2, 1) := by decide +kernel
theorem dX8_goes_6 : decode cX8_goes 6 = .ok (.iaload, 1) := by decide +kernel
theorem dX8_goes_7 : decode cX8_goes 7 = .ok (.aload_n 0, 1) := by decide +kernel
theorem dX8_goes_8 : decode cX8_goes 8 = .ok (.getfield 7, 3) := by decide +kernel
theorem dX8_goes_11 : decode cX8_goes 11 = .ok (.iconst 1, 1) := by decide +kernel
theorem dX8_goes_12 : decode cX8_goes 12 = .ok (.iaload, 1) := by decide +kernel
theorem dX8_goes_13 : decode cX8_goes 13 = .ok (.invokestatic 68, 3) := by decide +kernel
theorem dX8_goes_16 : decode cX8_goes 16 = .ok (.iadd, 1) := by decide +kernel
theorem dX8_goes_17 : decode cX8_goes 17 = .ok (.iastore, 1) := by decide +kernel
theorem dX8_goes_18 : decode cX8_goes 18 = .ok (.aload_n 0, 1) := by decide +kernel
theorem dX8_goes_19 : decode cX8_goes 19 = .ok (.getfield 7, 3) := by decide +kernel
theorem dX8_goes_22 : decode cX8_goes 22 = .ok (.sipush 494, 3) := by decide +kernel
theorem dX8_goes_25 : decode cX8_goes 25 = .ok (.iload_n 1, 1) := by decide +kernel
theorem dX8_goes_26 : decode cX8_goes 26 = .ok (.iadd, 1) := by decide +kernel
theorem dX8_goes_27 : decode cX8_goes 27 = .ok (.iconst 1, 1) := by decide +kernel
theorem dX8_goes_28 : decode cX8_goes 28 = .ok (.iastore, 1) := by decide +kernel
theorem dX8_goes_29 : decode cX8_goes 29 = .ok (.aload_n 0, 1) := by decide +kernel
theorem dX8_goes_30 : decode cX8_goes 30 = .ok (.getfield 7, 3) := by decide +kernel
theorem dX8_goes_33 : decode cX8_goes 33 = .ok (.sipush 616, 3) := by decide +kernel
theorem dX8_goes_36 : decode cX8_goes 36 = .ok (.aload_n 0, 1) := by decide +kernel
theorem dX8_goes_37 : decode cX8_goes 37 = .ok (.getfield 7, 3) := by decide +kernel
theorem dX8_goes_40 : decode cX8_goes 40 = .ok (.iconst 1, 1) := by decide +kernel
theorem dX8_goes_41 : decode cX8_goes 41 = .ok (.iaload, 1) := by decide +kernel
theorem dX8_goes_42 : decode cX8_goes 42 = .ok (.iadd, 1) := by decide +kernel
theorem dX8_goes_43 : decode cX8_goes 43 = .ok (.iload_n 1, 1) := by decide +kernel
theorem dX8_goes_44 : decode cX8_goes 44 = .ok (.iastore, 1) := by decide +kernel
theorem dX8_goes_45 : decode cX8_goes 45 = .ok (.aload_n 0, 1) := by decide +kernel
theorem dX8_goes_46 : decode cX8_goes 46 = .ok (.getfield 7, 3) := by decide +kernel
theorem dX8_goes_49 : decode cX8_goes 49 = .ok (.iconst 1, 1) := by decide +kernel
theorem dX8_goes_50 : decode cX8_goes 50 = .ok (.dup2, 1) := by decide +kernel
theorem dX8_goes_51 : decode cX8_goes 51 = .ok (.iaload, 1) := by decide +kernel
theorem dX8_goes_52 : decode cX8_goes 52 = .ok (.iconst 1, 1) := by decide +kernel
theorem dX8_goes_53 : decode cX8_goes 53 = .ok (.iadd, 1) := by decide +kernel
theorem dX8_goes_54 : decode cX8_goes 54 = .ok (.iastore, 1) := by decide +kernel
theorem dX8_goes_55 : decode cX8_goes 55 = .ok (.aload_n 0, 1) := by decide +kernel
theorem dX8_goes_56 : decode cX8_goes 56 = .ok (.getfield 7, 3) := by decide +kernel
theorem dX8_goes_59 : decode cX8_goes 59 = .ok (.iconst 1, 1) := by decide +kernel
theorem dX8_goes_60 : decode cX8_goes 60 = .ok (.iaload, 1) := by decide +kernel
theorem dX8_goes_61 : decode cX8_goes 61 = .ok (.aload_n 0, 1) := by decide +kernel
theorem dX8_goes_62 : decode cX8_goes 62 = .ok (.invokevirtual 72, 3) := by decide +kernel
theorem dX8_goes_65 : decode cX8_goes 65 = .ok (.if_icmp .le 7, 3) := by decide +kernel
theorem dX8_goes_68 : decode cX8_goes 68 = .ok (.aload_n 0, 1) := by decide +kernel
theorem dX8_goes_69 : decode cX8_goes 69 = .ok (.invokevirtual 76, 3) := by decide +kernel
theorem dX8_goes_72 : decode cX8_goes 72 = .ok (.return_, 1) := by decide +kernel
theorem dX8_put_0 : decode cX8_put 0 = .ok (.iload_n 1, 1) := by decide +kernel
theorem dX8_put_1 : decode cX8_put 1 = .ok (.invokestatic 53, 3) := by decide +kernel
theorem dX8_put_4 : decode cX8_put 4 = .ok (.ifCond .eq 22, 3) := by decide +kernel
theorem dX8_put_7 : decode cX8_put 7 = .ok (.iload_n 2, 1) := by decide +kernel
theorem dX8_put_8 : decode cX8_put 8 = .ok (.invokestatic 53, 3) := by decide +kernel
theorem dX8_put_11 : decode cX8_put 11 = .ok (.ifCond .eq 15, 3) := by decide +kernel
theorem dX8_put_14 : decode cX8_put 14 = .ok (.iload_n 3, 1) := by decide +kernel
theorem dX8_put_15 : decode cX8_put 15 = .ok (.i2l, 1) := by decide +kernel
theorem dX8_put_16 : decode cX8_put 16 = .ok (.lconst 1, 1) := by decide +kernel
theorem dX8_put_17 : decode cX8_put 17 = .ok (.ldc2_w 79, 3) := by decide +kernel
theorem dX8_put_20 : decode cX8_put 20 = .ok (.invokestatic 49, 3) := by decide +kernel
theorem dX8_put_23 : decode cX8_put 23 = .ok (.ifCond .ne 8, 3) := by decide +kernel
theorem dX8_put_26 : decode cX8_put 26 = .ok (.aload_n 0, 1) := by decide +kernel
theorem dX8_put_27 : decode cX8_put 27 = .ok (.invokevirtual 81, 3) := by decide +kernel
theorem dX8_put_30 : decode cX8_put 30 = .ok (.ireturn, 1) := by decide +kernel
theorem dX8_put_31 : decode cX8_put 31 = .ok (.aload_n 0, 1) := by decide +kernel
theorem dX8_put_32 : decode cX8_put 32 = .ok (.invokevirtual 72, 3) := by decide +kernel
theorem dX8_put_35 : decode cX8_put 35 = .ok (.bipush 60, 2) := by decide +kernel
theorem dX8_put_37 : decode cX8_put 37 = .ok (.if_icmp .eq 15, 3) := by decide +kernel
theorem dX8_put_40 : decode cX8_put 40 = .ok (.aload_n 0, 1) := by decide +kernel
theorem dX8_put_41 : decode cX8_put 41 = .ok (.getfield 7, 3) := by decide +kernel
theorem dX8_put_44 : decode cX8_put 44 = .ok (.iconst 2, 1) := by decide +kernel
theorem dX8_put_45 : decode cX8_put 45 = .ok (.iaload, 1) := by decide +kernel
theorem dX8_put_46 : decode cX8_put 46 = .ok (.sipush 10000, 3) := by decide +kernel
theorem dX8_put_49 : decode cX8_put 49 = .ok (.if_icmp .ne 8, 3) := by decide +kernel
theorem dX8_put_52 : decode cX8_put 52 = .ok (.aload_n 0, 1) := by decide +kernel
theorem dX8_put_53 : decode cX8_put 53 = .ok (.invokevirtual 84, 3) := by decide +kernel
theorem dX8_put_56 : decode cX8_put 56 = .ok (.ireturn, 1) := by decide +kernel
theorem dX8_put_57 : decode cX8_put 57 = .ok (.aload_n 0, 1) := by decide +kernel
theorem dX8_put_58 : decode cX8_put 58 = .ok (.invokevirtual 87, 3) := by decide +kernel
theorem dX8_put_61 : decode cX8_put 61 = .ok (.aload_n 0, 1) := by decide +kernel
theorem dX8_put_62 : decode cX8_put 62 = .ok (.iload_n 1, 1) := by decide +kernel
theorem dX8_put_63 : decode cX8_put 63 = .ok (.iload_n 2, 1) := by decide +kernel
theorem dX8_put_64 : decode cX8_put 64 = .ok (.iload_n 3, 1) := by decide +kernel
theorem dX8_put_65 : decode cX8_put 65 = .ok (.invokevirtual 90, 3) := by decide +kernel
theorem dX8_put_68 : decode cX8_put 68 = .ok (.aload_n 0, 1) := by decide +kernel
theorem dX8_put_69 : decode cX8_put 69 = .ok (.getfield 7, 3) := by decide +kernel
theorem dX8_put_72 : decode cX8_put 72 = .ok (.iconst 2, 1) := by decide +kernel
theorem dX8_put_73 : decode cX8_put 73 = .ok (.iaload, 1) := by decide +kernel
theorem dX8_put_74 : decode cX8_put 74 = .ok (.iconst 1, 1) := by decide +kernel
theorem dX8_put_75 : decode cX8_put 75 = .ok (.isub, 1) := by decide +kernel
theorem dX8_put_76 : decode cX8_put 76 = .ok (.ireturn, 1) := by decide +kernel
theorem dX8_take_0 : decode cX8_take 0 = .ok (.aload_n 0, 1) := by decide +kernel
theorem dX8_take_1 : decode cX8_take 1 = .ok (.iload_n 1, 1) := by decide +kernel
theorem dX8_take_2 : decode cX8_take 2 = .ok (.invokevirtual 94, 3) := by decide +kernel
theorem dX8_take_5 : decode cX8_take 5 = .ok (.istore_n 2, 1) := by decide +kernel
theorem dX8_take_6 : decode cX8_take 6 = .ok (.iload_n 2, 1) := by decide +kernel
theorem dX8_take_7 : decode cX8_take 7 = .ok (.ifCond .ge 8, 3) := by decide +kernel
theorem dX8_take_10 : decode cX8_take 10 = .ok (.aload_n 0, 1) := by decide +kernel
theorem dX8_take_11 : decode cX8_take 11 = .ok (.invokevirtual 81, 3) := by decide +kernel
theorem dX8_take_14 : decode cX8_take 14 = .ok (.ireturn, 1) := by decide +kernel
theorem dX8_take_15 : decode cX8_take 15 = .ok (.aload_n 0, 1) := by decide +kernel
theorem dX8_take_16 : decode cX8_take 16 = .ok (.invokevirtual 87, 3) := by decide +kernel
theorem dX8_take_19 : decode cX8_take 19 = .ok (.aload_n 0, 1) := by decide +kernel
theorem dX8_take_20 : decode cX8_take 20 = .ok (.getfield 7, 3) := by decide +kernel
theorem dX8_take_23 : decode cX8_take 23 = .ok (.sipush 372, 3) := by decide +kernel
theorem dX8_take_26 : decode cX8_take 26 = .ok (.iload_n 2, 1) := by decide +kernel
theorem dX8_take_27 : decode cX8_take 27 = .ok (.iadd, 1) := by decide +kernel
theorem dX8_take_28 : decode cX8_take 28 = .ok (.iaload, 1) := by decide +kernel
theorem dX8_take_29 : decode cX8_take 29 = .ok (.istore_n 3, 1) := by decide +kernel
theorem dX8_take_30 : decode cX8_take 30 = .ok (.aload_n 0, 1) := by decide +kernel
theorem dX8_take_31 : decode cX8_take 31 = .ok (.iload_n 2, 1) := by decide +kernel
theorem dX8_take_32 : decode cX8_take 32 = .ok (.invokevirtual 97, 3) := by decide +kernel
theorem dX8_take_35 : decode cX8_take 35 = .ok (.iload_n 3, 1) := by decide +kernel
theorem dX8_take_36 : decode cX8_take 36 = .ok (.ireturn, 1) := by decide +kernel
theorem dX8_move_0 : decode cX8_move 0 = .ok (.aload_n 0, 1) := by decide +kernel
theorem dX8_move_1 : decode cX8_move 1 = .ok (.iload_n 1, 1) := by decide +kernel
theorem dX8_move_2 : decode cX8_move 2 = .ok (.invokevirtual 94, 3) := by decide +kernel
theorem dX8_move_5 : decode cX8_move 5 = .ok (.istore 4, 2) := by decide +kernel
theorem dX8_move_7 : decode cX8_move 7 = .ok (.iload 4, 2) := by decide +kernel
theorem dX8_move_9 : decode cX8_move 9 = .ok (.ifCond .lt 17, 3) := by decide +kernel
theorem dX8_move_12 : decode cX8_move 12 = .ok (.iload_n 2, 1) := by decide +kernel
theorem dX8_move_13 : decode cX8_move 13 = .ok (.invokestatic 53, 3) := by decide +kernel
theorem dX8_move_16 : decode cX8_move 16 = .ok (.ifCond .eq 10, 3) := by decide +kernel
theorem dX8_move_19 : decode cX8_move 19 = .ok (.iload_n 3, 1) := by decide +kernel
theorem dX8_move_20 : decode cX8_move 20 = .ok (.invokestatic 53, 3) := by decide +kernel
theorem dX8_move_23 : decode cX8_move 23 = .ok (.ifCond .ne 8, 3) := by decide +kernel
theorem dX8_move_26 : decode cX8_move 26 = .ok (.aload_n 0, 1) := by decide +kernel
theorem dX8_move_27 : decode cX8_move 27 = .ok (.invokevirtual 81, 3) := by decide +kernel
theorem dX8_move_30 : decode cX8_move 30 = .ok (.ireturn, 1) := by decide +kernel
theorem dX8_move_31 : decode cX8_move 31 = .ok (.aload_n 0, 1) := by decide +kernel
theorem dX8_move_32 : decode cX8_move 32 = .ok (.getfield 7, 3) := by decide +kernel
theorem dX8_move_35 : decode cX8_move 35 = .ok (.iconst 2, 1) := by decide +kernel
theorem dX8_move_36 : decode cX8_move 36 = .ok (.iaload, 1) := by decide +kernel
theorem dX8_move_37 : decode cX8_move 37 = .ok (.sipush 10000, 3) := by decide +kernel
theorem dX8_move_40 : decode cX8_move 40 = .ok (.if_icmp .ne 8, 3) := by decide +kernel
theorem dX8_move_43 : decode cX8_move 43 = .ok (.aload_n 0, 1) := by decide +kernel
theorem dX8_move_44 : decode cX8_move 44 = .ok (.invokevirtual 84, 3) := by decide +kernel
theorem dX8_move_47 : decode cX8_move 47 = .ok (.ireturn, 1) := by decide +kernel
theorem dX8_move_48 : decode cX8_move 48 = .ok (.aload_n 0, 1) := by decide +kernel
theorem dX8_move_49 : decode cX8_move 49 = .ok (.invokevirtual 87, 3) := by decide +kernel
theorem dX8_move_52 : decode cX8_move 52 = .ok (.aload_n 0, 1) := by decide +kernel
theorem dX8_move_53 : decode cX8_move 53 = .ok (.getfield 7, 3) := by decide +kernel
theorem dX8_move_56 : decode cX8_move 56 = .ok (.sipush 372, 3) := by decide +kernel
theorem dX8_move_59 : decode cX8_move 59 = .ok (.iload 4, 2) := by decide +kernel
theorem dX8_move_61 : decode cX8_move 61 = .ok (.iadd, 1) := by decide +kernel
theorem dX8_move_62 : decode cX8_move 62 = .ok (.iaload, 1) := by decide +kernel
theorem dX8_move_63 : decode cX8_move 63 = .ok (.istore 5, 2) := by decide +kernel
theorem dX8_move_65 : decode cX8_move 65 = .ok (.aload_n 0, 1) := by decide +kernel
theorem dX8_move_66 : decode cX8_move 66 = .ok (.iload 4, 2) := by decide +kernel
theorem dX8_move_68 : decode cX8_move 68 = .ok (.invokevirtual 97, 3) := by decide +kernel
theorem dX8_move_71 : decode cX8_move 71 = .ok (.aload_n 0, 1) := by decide +kernel
theorem dX8_move_72 : decode cX8_move 72 = .ok (.iload_n 2, 1) := by decide +kernel
theorem dX8_move_73 : decode cX8_move 73 = .ok (.iload_n 3, 1) := by decide +kernel
theorem dX8_move_74 : decode cX8_move 74 = .ok (.iload 5, 2) := by decide +kernel
theorem dX8_move_76 : decode cX8_move 76 = .ok (.invokevirtual 90, 3) := by decide +kernel
theorem dX8_move_79 : decode cX8_move 79 = .ok (.aload_n 0, 1) := by decide +kernel
theorem dX8_move_80 : decode cX8_move 80 = .ok (.getfield 7, 3) := by decide +kernel
theorem dX8_move_83 : decode cX8_move 83 = .ok (.iconst 2, 1) := by decide +kernel
theorem dX8_move_84 : decode cX8_move 84 = .ok (.iaload, 1) := by decide +kernel
theorem dX8_move_85 : decode cX8_move 85 = .ok (.iconst 1, 1) := by decide +kernel
theorem dX8_move_86 : decode cX8_move 86 = .ok (.isub, 1) := by decide +kernel
theorem dX8_move_87 : decode cX8_move 87 = .ok (.ireturn, 1) := by decide +kernel
theorem dX8_draws_0 : decode cX8_draws 0 = .ok (.aload_n 0, 1) := by decide +kernel
theorem dX8_draws_1 : decode cX8_draws 1 = .ok (.aload_n 0, 1) := by decide +kernel
theorem dX8_draws_2 : decode cX8_draws 2 = .ok (.getfield 101, 3) := by decide +kernel
theorem dX8_draws_5 : decode cX8_draws 5 = .ok (.ldc 104, 2) := by decide +kernel
theorem dX8_draws_7 : decode cX8_draws 7 = .ok (.imul, 1) := by decide +kernel
theorem dX8_draws_8 : decode cX8_draws 8 = .ok (.sipush 12345, 3) := by decide +kernel
theorem dX8_draws_11 : decode cX8_draws 11 = .ok (.iadd, 1) := by decide +kernel
theorem dX8_draws_12 : decode cX8_draws 12 = .ok (.ldc 105, 2) := by decide +kernel
theorem dX8_draws_14 : decode cX8_draws 14 = .ok (.iand, 1) := by decide +kernel
theorem dX8_draws_15 : decode cX8_draws 15 = .ok (.putfield 101, 3) := by decide +kernel
theorem dX8_draws_18 : decode cX8_draws 18 = .ok (.aload_n 0, 1) := by decide +kernel
theorem dX8_draws_19 : decode cX8_draws 19 = .ok (.getfield 101, 3) := by decide +kernel
theorem dX8_draws_22 : decode cX8_draws 22 = .ok (.bipush 16, 2) := by decide +kernel
theorem dX8_draws_24 : decode cX8_draws 24 = .ok (.ishr, 1) := by decide +kernel
theorem dX8_draws_25 : decode cX8_draws 25 = .ok (.iload_n 1, 1) := by decide +kernel
theorem dX8_draws_26 : decode cX8_draws 26 = .ok (.irem, 1) := by decide +kernel
theorem dX8_draws_27 : decode cX8_draws 27 = .ok (.ireturn, 1) := by decide +kernel
theorem dX8_scatter_0 : decode cX8_scatter 0 = .ok (.iload_n 1, 1) := by decide +kernel
theorem dX8_scatter_1 : decode cX8_scatter 1 = .ok (.i2l, 1) := by decide +kernel
theorem dX8_scatter_2 : decode cX8_scatter 2 = .ok (.lconst 0, 1) := by decide +kernel
theorem dX8_scatter_3 : decode cX8_scatter 3 = .ok (.ldc2_w 106, 3) := by decide +kernel
theorem dX8_scatter_6 : decode cX8_scatter 6 = .ok (.invokestatic 49, 3) := by decide +kernel
theorem dX8_scatter_9 : decode cX8_scatter 9 = .ok (.ifCond .eq 15, 3) := by decide +kernel
theorem dX8_scatter_12 : decode cX8_scatter 12 = .ok (.iload_n 2, 1) := by decide +kernel
theorem dX8_scatter_13 : decode cX8_scatter 13 = .ok (.i2l, 1) := by decide +kernel
theorem dX8_scatter_14 : decode cX8_scatter 14 = .ok (.lconst 1, 1) := by decide +kernel
theorem dX8_scatter_15 : decode cX8_scatter 15 = .ok (.ldc2_w 108, 3) := by decide +kernel
theorem dX8_scatter_18 : decode cX8_scatter 18 = .ok (.invokestatic 49, 3) := by decide +kernel
theorem dX8_scatter_21 : decode cX8_scatter 21 = .ok (.ifCond .ne 8, 3) := by decide +kernel
theorem dX8_scatter_24 : decode cX8_scatter 24 = .ok (.aload_n 0, 1) := by decide +kernel
theorem dX8_scatter_25 : decode cX8_scatter 25 = .ok (.invokevirtual 81, 3) := by decide +kernel
theorem dX8_scatter_28 : decode cX8_scatter 28 = .ok (.ireturn, 1) := by decide +kernel
theorem dX8_scatter_29 : decode cX8_scatter 29 = .ok (.aload_n 0, 1) := by decide +kernel
theorem dX8_scatter_30 : decode cX8_scatter 30 = .ok (.invokevirtual 72, 3) := by decide +kernel
theorem dX8_scatter_33 : decode cX8_scatter 33 = .ok (.iload_n 2, 1) := by decide +kernel
theorem dX8_scatter_34 : decode cX8_scatter 34 = .ok (.iadd, 1) := by decide +kernel
theorem dX8_scatter_35 : decode cX8_scatter 35 = .ok (.bipush 60, 2) := by decide +kernel
theorem dX8_scatter_37 : decode cX8_scatter 37 = .ok (.if_icmp .gt 17, 3) := by decide +kernel
theorem dX8_scatter_40 : decode cX8_scatter 40 = .ok (.aload_n 0, 1) := by decide +kernel
theorem dX8_scatter_41 : decode cX8_scatter 41 = .ok (.getfield 7, 3) := by decide +kernel
theorem dX8_scatter_44 : decode cX8_scatter 44 = .ok (.iconst 2, 1) := by decide +kernel
theorem dX8_scatter_45 : decode cX8_scatter 45 = .ok (.iaload, 1) := by decide +kernel
theorem dX8_scatter_46 : decode cX8_scatter 46 = .ok (.iload_n 2, 1) := by decide +kernel
theorem dX8_scatter_47 : decode cX8_scatter 47 = .ok (.iadd, 1) := by decide +kernel
theorem dX8_scatter_48 : decode cX8_scatter 48 = .ok (.sipush 10000, 3) := by decide +kernel
theorem dX8_scatter_51 : decode cX8_scatter 51 = .ok (.if_icmp .le 8, 3) := by decide +kernel
theorem dX8_scatter_54 : decode cX8_scatter 54 = .ok (.aload_n 0, 1) := by decide +kernel
theorem dX8_scatter_55 : decode cX8_scatter 55 = .ok (.invokevirtual 84, 3) := by decide +kernel
theorem dX8_scatter_58 : decode cX8_scatter 58 = .ok (.ireturn, 1) := by decide +kernel
theorem dX8_scatter_59 : decode cX8_scatter 59 = .ok (.aload_n 0, 1) := by decide +kernel
theorem dX8_scatter_60 : decode cX8_scatter 60 = .ok (.invokevirtual 87, 3) := by decide +kernel
theorem dX8_scatter_63 : decode cX8_scatter 63 = .ok (.aload_n 0, 1) := by decide +kernel
theorem dX8_scatter_64 : decode cX8_scatter 64 = .ok (.iload_n 1, 1) := by decide +kernel
theorem dX8_scatter_65 : decode cX8_scatter 65 = .ok (.putfield 101, 3) := by decide +kernel
theorem dX8_scatter_68 : decode cX8_scatter 68 = .ok (.iconst 0, 1) := by decide +kernel
theorem dX8_scatter_69 : decode cX8_scatter 69 = .ok (.istore_n 3, 1) := by decide +kernel
theorem dX8_scatter_70 : decode cX8_scatter 70 = .ok (.iload_n 3, 1) := by decide +kernel
theorem dX8_scatter_71 : decode cX8_scatter 71 = .ok (.iload_n 2, 1) := by decide +kernel
theorem dX8_scatter_72 : decode cX8_scatter 72 = .ok (.if_icmp .ge 51, 3) := by decide +kernel
theorem dX8_scatter_75 : decode cX8_scatter 75 = .ok (.aload_n 0, 1) := by decide +kernel
theorem dX8_scatter_76 : decode cX8_scatter 76 = .ok (.sipush 1001, 3) := by decide +kernel
theorem dX8_scatter_79 : decode cX8_scatter 79 = .ok (.invokevirtual 110, 3) := by decide +kernel
theorem dX8_scatter_82 : decode cX8_scatter 82 = .ok (.sipush 500, 3) := by decide +kernel
theorem dX8_scatter_85 : decode cX8_scatter 85 = .ok (.isub, 1) := by decide +kernel
theorem dX8_scatter_86 : decode cX8_scatter 86 = .ok (.istore 4, 2) := by decide +kernel
theorem dX8_scatter_88 : decode cX8_scatter 88 = .ok (.aload_n 0, 1) := by decide +kernel
theorem dX8_scatter_89 : decode cX8_scatter 89 = .ok (.sipush 1001, 3) := by decide +kernel
theorem dX8_scatter_92 : decode cX8_scatter 92 = .ok (.invokevirtual 110, 3) := by decide +kernel
theorem dX8_scatter_95 : decode cX8_scatter 95 = .ok (.sipush 500, 3) := by decide +kernel
theorem dX8_scatter_98 : decode cX8_scatter 98 = .ok (.isub, 1) := by decide +kernel
theorem dX8_scatter_99 : decode cX8_scatter 99 = .ok (.istore 5, 2) := by decide +kernel
theorem dX8_scatter_101 : decode cX8_scatter 101 = .ok (.aload_n 0, 1) := by decide +kernel
theorem dX8_scatter_102 : decode cX8_scatter 102 = .ok (.iload 4, 2) := by decide +kernel
theorem dX8_scatter_104 : decode cX8_scatter 104 = .ok (.iload 5, 2) := by decide +kernel
theorem dX8_scatter_106 : decode cX8_scatter 106 = .ok (.iconst 1, 1) := by decide +kernel
theorem dX8_scatter_107 : decode cX8_scatter 107 = .ok (.aload_n 0, 1) := by decide +kernel
theorem dX8_scatter_108 : decode cX8_scatter 108 = .ok (.bipush 100, 2) := by decide +kernel
theorem dX8_scatter_110 : decode cX8_scatter 110 = .ok (.invokevirtual 110, 3) := by decide +kernel
theorem dX8_scatter_113 : decode cX8_scatter 113 = .ok (.iadd, 1) := by decide +kernel
theorem dX8_scatter_114 : decode cX8_scatter 114 = .ok (.invokevirtual 90, 3) := by decide +kernel
theorem dX8_scatter_117 : decode cX8_scatter 117 = .ok (.iinc 3 1, 3) := by decide +kernel
theorem dX8_scatter_120 : decode cX8_scatter 120 = .ok (.goto (-50), 3) := by decide +kernel
theorem dX8_scatter_123 : decode cX8_scatter 123 = .ok (.aload_n 0, 1) := by decide +kernel
theorem dX8_scatter_124 : decode cX8_scatter 124 = .ok (.invokevirtual 72, 3) := by decide +kernel
theorem dX8_scatter_127 : decode cX8_scatter 127 = .ok (.ireturn, 1) := by decide +kernel
theorem dX8_isAhead_0 : decode cX8_isAhead 0 = .ok (.aload_n 0, 1) := by decide +kernel
theorem dX8_isAhead_1 : decode cX8_isAhead 1 = .ok (.getfield 7, 3) := by decide +kernel
theorem dX8_isAhead_4 : decode cX8_isAhead 4 = .ok (.sipush 128, 3) := by decide +kernel
theorem dX8_isAhead_7 : decode cX8_isAhead 7 = .ok (.iload_n 1, 1) := by decide +kernel
theorem dX8_isAhead_8 : decode cX8_isAhead 8 = .ok (.iadd, 1) := by decide +kernel
theorem dX8_isAhead_9 : decode cX8_isAhead 9 = .ok (.iaload, 1) := by decide +kernel
theorem dX8_isAhead_10 : decode cX8_isAhead 10 = .ok (.aload_n 0, 1) := by decide +kernel
theorem dX8_isAhead_11 : decode cX8_isAhead 11 = .ok (.getfield 7, 3) := by decide +kernel
theorem dX8_isAhead_14 : decode cX8_isAhead 14 = .ok (.sipush 128, 3) := by decide +kernel
theorem dX8_isAhead_17 : decode cX8_isAhead 17 = .ok (.iload_n 2, 1) := by decide +kernel
theorem dX8_isAhead_18 : decode cX8_isAhead 18 = .ok (.iadd, 1) := by decide +kernel
theorem dX8_isAhead_19 : decode cX8_isAhead 19 = .ok (.iaload, 1) := by decide +kernel
theorem dX8_isAhead_20 : decode cX8_isAhead 20 = .ok (.if_icmp .eq 27, 3) := by decide +kernel
theorem dX8_isAhead_23 : decode cX8_isAhead 23 = .ok (.aload_n 0, 1) := by decide +kernel
theorem dX8_isAhead_24 : decode cX8_isAhead 24 = .ok (.getfield 7, 3) := by decide +kernel
theorem dX8_isAhead_27 : decode cX8_isAhead 27 = .ok (.sipush 128, 3) := by decide +kernel
theorem dX8_isAhead_30 : decode cX8_isAhead 30 = .ok (.iload_n 1, 1) := by decide +kernel
theorem dX8_isAhead_31 : decode cX8_isAhead 31 = .ok (.iadd, 1) := by decide +kernel
theorem dX8_isAhead_32 : decode cX8_isAhead 32 = .ok (.iaload, 1) := by decide +kernel
theorem dX8_isAhead_33 : decode cX8_isAhead 33 = .ok (.aload_n 0, 1) := by decide +kernel
theorem dX8_isAhead_34 : decode cX8_isAhead 34 = .ok (.getfield 7, 3) := by decide +kernel
theorem dX8_isAhead_37 : decode cX8_isAhead 37 = .ok (.sipush 128, 3) := by decide +kernel
theorem dX8_isAhead_40 : decode cX8_isAhead 40 = .ok (.iload_n 2, 1) := by decide +kernel
theorem dX8_isAhead_41 : decode cX8_isAhead 41 = .ok (.iadd, 1) := by decide +kernel
theorem dX8_isAhead_42 : decode cX8_isAhead 42 = .ok (.iaload, 1) := by decide +kernel
theorem dX8_isAhead_43 : decode cX8_isAhead 43 = .ok (.isub, 1) := by decide +kernel
theorem dX8_isAhead_44 : decode cX8_isAhead 44 = .ok (.goto 69, 3) := by decide +kernel
theorem dX8_isAhead_47 : decode cX8_isAhead 47 = .ok (.aload_n 0, 1) := by decide +kernel
theorem dX8_isAhead_48 : decode cX8_isAhead 48 = .ok (.getfield 7, 3) := by decide +kernel
theorem dX8_isAhead_51 : decode cX8_isAhead 51 = .ok (.sipush 250, 3) := by decide +kernel
theorem dX8_isAhead_54 : decode cX8_isAhead 54 = .ok (.iload_n 1, 1) := by decide +kernel
theorem dX8_isAhead_55 : decode cX8_isAhead 55 = .ok (.iadd, 1) := by decide +kernel
theorem dX8_isAhead_56 : decode cX8_isAhead 56 = .ok (.iaload, 1) := by decide +kernel
theorem dX8_isAhead_57 : decode cX8_isAhead 57 = .ok (.aload_n 0, 1) := by decide +kernel
theorem dX8_isAhead_58 : decode cX8_isAhead 58 = .ok (.getfield 7, 3) := by decide +kernel
theorem dX8_isAhead_61 : decode cX8_isAhead 61 = .ok (.sipush 250, 3) := by decide +kernel
theorem dX8_isAhead_64 : decode cX8_isAhead 64 = .ok (.iload_n 2, 1) := by decide +kernel
theorem dX8_isAhead_65 : decode cX8_isAhead 65 = .ok (.iadd, 1) := by decide +kernel
theorem dX8_isAhead_66 : decode cX8_isAhead 66 = .ok (.iaload, 1) := by decide +kernel
theorem dX8_isAhead_67 : decode cX8_isAhead 67 = .ok (.if_icmp .eq 27, 3) := by decide +kernel
theorem dX8_isAhead_70 : decode cX8_isAhead 70 = .ok (.aload_n 0, 1) := by decide +kernel
theorem dX8_isAhead_71 : decode cX8_isAhead 71 = .ok (.getfield 7, 3) := by decide +kernel
theorem dX8_isAhead_74 : decode cX8_isAhead 74 = .ok (.sipush 250, 3) := by decide +kernel
theorem dX8_isAhead_77 : decode cX8_isAhead 77 = .ok (.iload_n 1, 1) := by decide +kernel
theorem dX8_isAhead_78 : decode cX8_isAhead 78 = .ok (.iadd, 1) := by decide +kernel
theorem dX8_isAhead_79 : decode cX8_isAhead 79 = .ok (.iaload, 1) := by decide +kernel
theorem dX8_isAhead_80 : decode cX8_isAhead 80 = .ok (.aload_n 0, 1) := by decide +kernel
theorem dX8_isAhead_81 : decode cX8_isAhead 81 = .ok (.getfield 7, 3) := by decide +kernel
theorem dX8_isAhead_84 : decode cX8_isAhead 84 = .ok (.sipush 250, 3) := by decide +kernel
theorem dX8_isAhead_87 : decode cX8_isAhead 87 = .ok (.iload_n 2, 1) := by decide +kernel
theorem dX8_isAhead_88 : decode cX8_isAhead 88 = .ok (.iadd, 1) := by decide +kernel
theorem dX8_isAhead_89 : decode cX8_isAhead 89 = .ok (.iaload, 1) := by decide +kernel
theorem dX8_isAhead_90 : decode cX8_isAhead 90 = .ok (.isub, 1) := by decide +kernel
theorem dX8_isAhead_91 : decode cX8_isAhead 91 = .ok (.goto 22, 3) := by decide +kernel
theorem dX8_isAhead_94 : decode cX8_isAhead 94 = .ok (.aload_n 0, 1) := by decide +kernel
theorem dX8_isAhead_95 : decode cX8_isAhead 95 = .ok (.getfield 7, 3) := by decide +kernel
theorem dX8_isAhead_98 : decode cX8_isAhead 98 = .ok (.bipush 6, 2) := by decide +kernel
theorem dX8_isAhead_100 : decode cX8_isAhead 100 = .ok (.iload_n 1, 1) := by decide +kernel
theorem dX8_isAhead_101 : decode cX8_isAhead 101 = .ok (.iadd, 1) := by decide +kernel
theorem dX8_isAhead_102 : decode cX8_isAhead 102 = .ok (.iaload, 1) := by decide +kernel
theorem dX8_isAhead_103 : decode cX8_isAhead 103 = .ok (.aload_n 0, 1) := by decide +kernel
theorem dX8_isAhead_104 : decode cX8_isAhead 104 = .ok (.getfield 7, 3) := by decide +kernel
theorem dX8_isAhead_107 : decode cX8_isAhead 107 = .ok (.bipush 6, 2) := by decide +kernel
theorem dX8_isAhead_109 : decode cX8_isAhead 109 = .ok (.iload_n 2, 1) := by decide +kernel
theorem dX8_isAhead_110 : decode cX8_isAhead 110 = .ok (.iadd, 1) := by decide +kernel
theorem dX8_isAhead_111 : decode cX8_isAhead 111 = .ok (.iaload, 1) := by decide +kernel
theorem dX8_isAhead_112 : decode cX8_isAhead 112 = .ok (.isub, 1) := by decide +kernel
theorem dX8_isAhead_113 : decode cX8_isAhead 113 = .ok (.istore_n 3, 1) := by decide +kernel
theorem dX8_isAhead_114 : decode cX8_isAhead 114 = .ok (.iload_n 3, 1) := by decide +kernel
theorem dX8_isAhead_115 : decode cX8_isAhead 115 = .ok (.ifCond .ge 7, 3) := by decide +kernel
theorem dX8_isAhead_118 : decode cX8_isAhead 118 = .ok (.iconst 1, 1) := by decide +kernel
theorem dX8_isAhead_119 : decode cX8_isAhead 119 = .ok (.goto 4, 3) := by decide +kernel
theorem dX8_isAhead_122 : decode cX8_isAhead 122 = .ok (.iconst 0, 1) := by decide +kernel
theorem dX8_isAhead_123 : decode cX8_isAhead 123 = .ok (.ireturn, 1) := by decide +kernel
theorem dX8_insert_0 : decode cX8_insert 0 = .ok (.aload_n 0, 1) := by decide +kernel
theorem dX8_insert_1 : decode cX8_insert 1 = .ok (.getfield 113, 3) := by decide +kernel
theorem dX8_insert_4 : decode cX8_insert 4 = .ok (.istore_n 2, 1) := by decide +kernel
theorem dX8_insert_5 : decode cX8_insert 5 = .ok (.iload_n 2, 1) := by decide +kernel
theorem dX8_insert_6 : decode cX8_insert 6 = .ok (.ifCond .le 39, 3) := by decide +kernel
theorem dX8_insert_9 : decode cX8_insert 9 = .ok (.aload_n 0, 1) := by decide +kernel
theorem dX8_insert_10 : decode cX8_insert 10 = .ok (.iload_n 1, 1) := by decide +kernel
theorem dX8_insert_11 : decode cX8_insert 11 = .ok (.aload_n 0, 1) := by decide +kernel
theorem dX8_insert_12 : decode cX8_insert 12 = .ok (.getfield 33, 3) := by decide +kernel
theorem dX8_insert_15 : decode cX8_insert 15 = .ok (.iload_n 2, 1) := by decide +kernel
theorem dX8_insert_16 : decode cX8_insert 16 = .ok (.iconst 1, 1) := by decide +kernel
theorem dX8_insert_17 : decode cX8_insert 17 = .ok (.isub, 1) := by decide +kernel
theorem dX8_insert_18 : decode cX8_insert 18 = .ok (.iaload, 1) := by decide +kernel
theorem dX8_insert_19 : decode cX8_insert 19 = .ok (.invokevirtual 116, 3) := by decide +kernel
theorem dX8_insert_22 : decode cX8_insert 22 = .ok (.ifCond .eq 23, 3) := by decide +kernel
theorem dX8_insert_25 : decode cX8_insert 25 = .ok (.aload_n 0, 1) := by decide +kernel
theorem dX8_insert_26 : decode cX8_insert 26 = .ok (.getfield 33, 3) := by decide +kernel
theorem dX8_insert_29 : decode cX8_insert 29 = .ok (.iload_n 2, 1) := by decide +kernel
theorem dX8_insert_30 : decode cX8_insert 30 = .ok (.aload_n 0, 1) := by decide +kernel
theorem dX8_insert_31 : decode cX8_insert 31 = .ok (.getfield 33, 3) := by decide +kernel
theorem dX8_insert_34 : decode cX8_insert 34 = .ok (.iload_n 2, 1) := by decide +kernel
theorem dX8_insert_35 : decode cX8_insert 35 = .ok (.iconst 1, 1) := by decide +kernel
theorem dX8_insert_36 : decode cX8_insert 36 = .ok (.isub, 1) := by decide +kernel
theorem dX8_insert_37 : decode cX8_insert 37 = .ok (.iaload, 1) := by decide +kernel
theorem dX8_insert_38 : decode cX8_insert 38 = .ok (.iastore, 1) := by decide +kernel
theorem dX8_insert_39 : decode cX8_insert 39 = .ok (.iinc 2 (-1), 3) := by decide +kernel
theorem dX8_insert_42 : decode cX8_insert 42 = .ok (.goto (-37), 3) := by decide +kernel
theorem dX8_insert_45 : decode cX8_insert 45 = .ok (.aload_n 0, 1) := by decide +kernel
theorem dX8_insert_46 : decode cX8_insert 46 = .ok (.getfield 33, 3) := by decide +kernel
theorem dX8_insert_49 : decode cX8_insert 49 = .ok (.iload_n 2, 1) := by decide +kernel
theorem dX8_insert_50 : decode cX8_insert 50 = .ok (.iload_n 1, 1) := by decide +kernel
theorem dX8_insert_51 : decode cX8_insert 51 = .ok (.iastore, 1) := by decide +kernel
theorem dX8_insert_52 : decode cX8_insert 52 = .ok (.aload_n 0, 1) := by decide +kernel
theorem dX8_insert_53 : decode cX8_insert 53 = .ok (.dup, 1) := by decide +kernel
theorem dX8_insert_54 : decode cX8_insert 54 = .ok (.getfield 113, 3) := by decide +kernel
theorem dX8_insert_57 : decode cX8_insert 57 = .ok (.iconst 1, 1) := by decide +kernel
theorem dX8_insert_58 : decode cX8_insert 58 = .ok (.iadd, 1) := by decide +kernel
theorem dX8_insert_59 : decode cX8_insert 59 = .ok (.putfield 113, 3) := by decide +kernel
theorem dX8_insert_62 : decode cX8_insert 62 = .ok (.return_, 1) := by decide +kernel
theorem dX8_lines_0 : decode cX8_lines 0 = .ok (.aload_n 0, 1) := by decide +kernel
theorem dX8_lines_1 : decode cX8_lines 1 = .ok (.iconst 0, 1) := by decide +kernel
theorem dX8_lines_2 : decode cX8_lines 2 = .ok (.putfield 113, 3) := by decide +kernel
theorem dX8_lines_5 : decode cX8_lines 5 = .ok (.iconst 0, 1) := by decide +kernel
theorem dX8_lines_6 : decode cX8_lines 6 = .ok (.istore 5, 2) := by decide +kernel
theorem dX8_lines_8 : decode cX8_lines 8 = .ok (.iload 5, 2) := by decide +kernel
theorem dX8_lines_10 : decode cX8_lines 10 = .ok (.aload_n 0, 1) := by decide +kernel
theorem dX8_lines_11 : decode cX8_lines 11 = .ok (.getfield 7, 3) := by decide +kernel
theorem dX8_lines_14 : decode cX8_lines 14 = .ok (.iconst 0, 1) := by decide +kernel
theorem dX8_lines_15 : decode cX8_lines 15 = .ok (.iaload, 1) := by decide +kernel
theorem dX8_lines_16 : decode cX8_lines 16 = .ok (.if_icmp .ge 38, 3) := by decide +kernel
theorem dX8_lines_19 : decode cX8_lines 19 = .ok (.aload_n 0, 1) := by decide +kernel
theorem dX8_lines_20 : decode cX8_lines 20 = .ok (.iload 5, 2) := by decide +kernel
theorem dX8_lines_22 : decode cX8_lines 22 = .ok (.invokevirtual 57, 3) := by decide +kernel
theorem dX8_lines_25 : decode cX8_lines 25 = .ok (.ifCond .eq 23, 3) := by decide +kernel
theorem dX8_lines_28 : decode cX8_lines 28 = .ok (.aload_n 0, 1) := by decide +kernel
theorem dX8_lines_29 : decode cX8_lines 29 = .ok (.iload 5, 2) := by decide +kernel
theorem dX8_lines_31 : decode cX8_lines 31 = .ok (.iload_n 1, 1) := by decide +kernel
theorem dX8_lines_32 : decode cX8_lines 32 = .ok (.iload_n 2, 1) := by decide +kernel
theorem dX8_lines_33 : decode cX8_lines 33 = .ok (.iload_n 3, 1) := by decide +kernel
theorem dX8_lines_34 : decode cX8_lines 34 = .ok (.iload 4, 2) := by decide +kernel
theorem dX8_lines_36 : decode cX8_lines 36 = .ok (.invokevirtual 120, 3) := by decide +kernel
theorem dX8_lines_39 : decode cX8_lines 39 = .ok (.ifCond .eq 9, 3) := by decide +kernel
theorem dX8_lines_42 : decode cX8_lines 42 = .ok (.aload_n 0, 1) := by decide +kernel
theorem dX8_lines_43 : decode cX8_lines 43 = .ok (.iload 5, 2) := by decide +kernel
theorem dX8_lines_45 : decode cX8_lines 45 = .ok (.invokevirtual 124, 3) := by decide +kernel
theorem dX8_lines_48 : decode cX8_lines 48 = .ok (.iinc 5 1, 3) := by decide +kernel
theorem dX8_lines_51 : decode cX8_lines 51 = .ok (.goto (-43), 3) := by decide +kernel
theorem dX8_lines_54 : decode cX8_lines 54 = .ok (.return_, 1) := by decide +kernel
theorem dX8_takesLine_0 : decode cX8_takesLine 0 = .ok (.aload_n 0, 1) := by decide +kernel
theorem dX8_takesLine_1 : decode cX8_takesLine 1 = .ok (.getfield 113, 3) := by decide +kernel
theorem dX8_takesLine_4 : decode cX8_takesLine 4 = .ok (.ifCond .ne 5, 3) := by decide +kernel
theorem dX8_takesLine_7 : decode cX8_takesLine 7 = .ok (.iconst 0, 1) := by decide +kernel
theorem dX8_takesLine_8 : decode cX8_takesLine 8 = .ok (.ireturn, 1) := by decide +kernel
theorem dX8_takesLine_9 : decode cX8_takesLine 9 = .ok (.aload_n 0, 1) := by decide +kernel
theorem dX8_takesLine_10 : decode cX8_takesLine 10 = .ok (.invokevirtual 87, 3) := by decide +kernel
theorem dX8_takesLine_13 : decode cX8_takesLine 13 = .ok (.aload_n 0, 1) := by decide +kernel
theorem dX8_takesLine_14 : decode cX8_takesLine 14 = .ok (.getfield 113, 3) := by decide +kernel
theorem dX8_takesLine_17 : decode cX8_takesLine 17 = .ok (.istore_n 1, 1) := by decide +kernel
theorem dX8_takesLine_18 : decode cX8_takesLine 18 = .ok (.iconst 0, 1) := by decide +kernel
theorem dX8_takesLine_19 : decode cX8_takesLine 19 = .ok (.istore_n 2, 1) := by decide +kernel
theorem dX8_takesLine_20 : decode cX8_takesLine 20 = .ok (.iload_n 2, 1) := by decide +kernel
theorem dX8_takesLine_21 : decode cX8_takesLine 21 = .ok (.iload_n 1, 1) := by decide +kernel
theorem dX8_takesLine_22 : decode cX8_takesLine 22 = .ok (.if_icmp .ge 29, 3) := by decide +kernel
theorem dX8_takesLine_25 : decode cX8_takesLine 25 = .ok (.aload_n 0, 1) := by decide +kernel
theorem dX8_takesLine_26 : decode cX8_takesLine 26 = .ok (.getfield 33, 3) := by decide +kernel
theorem dX8_takesLine_29 : decode cX8_takesLine 29 = .ok (.iload_n 2, 1) := by decide +kernel
theorem dX8_takesLine_30 : decode cX8_takesLine 30 = .ok (.aload_n 0, 1) := by decide +kernel
theorem dX8_takesLine_31 : decode cX8_takesLine 31 = .ok (.getfield 7, 3) := by decide +kernel
theorem dX8_takesLine_34 : decode cX8_takesLine 34 = .ok (.bipush 6, 2) := by decide +kernel
theorem dX8_takesLine_36 : decode cX8_takesLine 36 = .ok (.aload_n 0, 1) := by decide +kernel
theorem dX8_takesLine_37 : decode cX8_takesLine 37 = .ok (.getfield 33, 3) := by decide +kernel
theorem dX8_takesLine_40 : decode cX8_takesLine 40 = .ok (.iload_n 2, 1) := by decide +kernel
theorem dX8_takesLine_41 : decode cX8_takesLine 41 = .ok (.iaload, 1) := by decide +kernel
theorem dX8_takesLine_42 : decode cX8_takesLine 42 = .ok (.iadd, 1) := by decide +kernel
theorem dX8_takesLine_43 : decode cX8_takesLine 43 = .ok (.iaload, 1) := by decide +kernel
theorem dX8_takesLine_44 : decode cX8_takesLine 44 = .ok (.iastore, 1) := by decide +kernel
theorem dX8_takesLine_45 : decode cX8_takesLine 45 = .ok (.iinc 2 1, 3) := by decide +kernel
theorem dX8_takesLine_48 : decode cX8_takesLine 48 = .ok (.goto (-28), 3) := by decide +kernel
theorem dX8_takesLine_51 : decode cX8_takesLine 51 = .ok (.iconst 0, 1) := by decide +kernel
theorem dX8_takesLine_52 : decode cX8_takesLine 52 = .ok (.istore_n 2, 1) := by decide +kernel
theorem dX8_takesLine_53 : decode cX8_takesLine 53 = .ok (.iload_n 2, 1) := by decide +kernel
theorem dX8_takesLine_54 : decode cX8_takesLine 54 = .ok (.iload_n 1, 1) := by decide +kernel
theorem dX8_takesLine_55 : decode cX8_takesLine 55 = .ok (.if_icmp .ge 23, 3) := by decide +kernel
theorem dX8_takesLine_58 : decode cX8_takesLine 58 = .ok (.aload_n 0, 1) := by decide +kernel
theorem dX8_takesLine_59 : decode cX8_takesLine 59 = .ok (.aload_n 0, 1) := by decide +kernel
theorem dX8_takesLine_60 : decode cX8_takesLine 60 = .ok (.aload_n 0, 1) := by decide +kernel
theorem dX8_takesLine_61 : decode cX8_takesLine 61 = .ok (.getfield 33, 3) := by decide +kernel
theorem dX8_takesLine_64 : decode cX8_takesLine 64 = .ok (.iload_n 2, 1) := by decide +kernel
theorem dX8_takesLine_65 : decode cX8_takesLine 65 = .ok (.iaload, 1) := by decide +kernel
theorem dX8_takesLine_66 : decode cX8_takesLine 66 = .ok (.invokevirtual 94, 3) := by decide +kernel
theorem dX8_takesLine_69 : decode cX8_takesLine 69 = .ok (.invokevirtual 97, 3) := by decide +kernel
theorem dX8_takesLine_72 : decode cX8_takesLine 72 = .ok (.iinc 2 1, 3) := by decide +kernel
theorem dX8_takesLine_75 : decode cX8_takesLine 75 = .ok (.goto (-22), 3) := by decide +kernel
theorem dX8_takesLine_78 : decode cX8_takesLine 78 = .ok (.iload_n 1, 1) := by decide +kernel
theorem dX8_takesLine_79 : decode cX8_takesLine 79 = .ok (.ireturn, 1) := by decide +kernel
theorem dX8_sweep_0 : decode cX8_sweep 0 = .ok (.iload_n 1, 1) := by decide +kernel
theorem dX8_sweep_1 : decode cX8_sweep 1 = .ok (.iload_n 2, 1) := by decide +kernel
theorem dX8_sweep_2 : decode cX8_sweep 2 = .ok (.iload_n 3, 1) := by decide +kernel
theorem dX8_sweep_3 : decode cX8_sweep 3 = .ok (.iload 4, 2) := by decide +kernel
theorem dX8_sweep_5 : decode cX8_sweep 5 = .ok (.invokestatic 127, 3) := by decide +kernel
theorem dX8_sweep_8 : decode cX8_sweep 8 = .ok (.ifCond .ne 8, 3) := by decide +kernel
theorem dX8_sweep_11 : decode cX8_sweep 11 = .ok (.aload_n 0, 1) := by decide +kernel
theorem dX8_sweep_12 : decode cX8_sweep 12 = .ok (.invokevirtual 81, 3) := by decide +kernel
theorem dX8_sweep_15 : decode cX8_sweep 15 = .ok (.ireturn, 1) := by decide +kernel
theorem dX8_sweep_16 : decode cX8_sweep 16 = .ok (.aload_n 0, 1) := by decide +kernel
theorem dX8_sweep_17 : decode cX8_sweep 17 = .ok (.iload_n 1, 1) := by decide +kernel
theorem dX8_sweep_18 : decode cX8_sweep 18 = .ok (.iload_n 2, 1) := by decide +kernel
theorem dX8_sweep_19 : decode cX8_sweep 19 = .ok (.iload_n 3, 1) := by decide +kernel
theorem dX8_sweep_20 : decode cX8_sweep 20 = .ok (.iload 4, 2) := by decide +kernel
theorem dX8_sweep_22 : decode cX8_sweep 22 = .ok (.invokevirtual 131, 3) := by decide +kernel
theorem dX8_sweep_25 : decode cX8_sweep 25 = .ok (.aload_n 0, 1) := by decide +kernel
theorem dX8_sweep_26 : decode cX8_sweep 26 = .ok (.invokevirtual 135, 3) := by decide +kernel

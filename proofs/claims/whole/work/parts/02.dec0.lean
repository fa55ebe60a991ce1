theorem dX0_init_0 : decode cX0_init 0 = .ok (.aload_n 0, 1) := by decide +kernel
theorem dX0_init_1 : decode cX0_init 1 = .ok (.invokespecial 3, 3) := by decide +kernel
theorem dX0_init_4 : decode cX0_init 4 = .ok (.aload_n 0, 1) := by decide +kernel
theorem dX0_init_5 : decode cX0_init 5 = .ok (.bipush 121, 2) := by decide +kernel
theorem dX0_init_7 : decode cX0_init 7 = .ok (.newarray .int, 2) := by decide +kernel
theorem dX0_init_9 : decode cX0_init 9 = .ok (.putfield 11, 3) := by decide +kernel
theorem dX0_init_12 : decode cX0_init 12 = .ok (.aload_n 0, 1) := by decide +kernel
theorem dX0_init_13 : decode cX0_init 13 = .ok (.bipush 121, 2) := by decide +kernel
theorem dX0_init_15 : decode cX0_init 15 = .ok (.newarray .int, 2) := by decide +kernel
theorem dX0_init_17 : decode cX0_init 17 = .ok (.putfield 15, 3) := by decide +kernel
theorem dX0_init_20 : decode cX0_init 20 = .ok (.aload_n 0, 1) := by decide +kernel
theorem dX0_init_21 : decode cX0_init 21 = .ok (.bipush 121, 2) := by decide +kernel
theorem dX0_init_23 : decode cX0_init 23 = .ok (.newarray .int, 2) := by decide +kernel
theorem dX0_init_25 : decode cX0_init 25 = .ok (.putfield 18, 3) := by decide +kernel
theorem dX0_init_28 : decode cX0_init 28 = .ok (.aload_n 0, 1) := by decide +kernel
theorem dX0_init_29 : decode cX0_init 29 = .ok (.bipush 121, 2) := by decide +kernel
theorem dX0_init_31 : decode cX0_init 31 = .ok (.newarray .int, 2) := by decide +kernel
theorem dX0_init_33 : decode cX0_init 33 = .ok (.putfield 21, 3) := by decide +kernel
theorem dX0_init_36 : decode cX0_init 36 = .ok (.aload_n 0, 1) := by decide +kernel
theorem dX0_init_37 : decode cX0_init 37 = .ok (.bipush 121, 2) := by decide +kernel
theorem dX0_init_39 : decode cX0_init 39 = .ok (.newarray .int, 2) := by decide +kernel
theorem dX0_init_41 : decode cX0_init 41 = .ok (.putfield 24, 3) := by decide +kernel
theorem dX0_init_44 : decode cX0_init 44 = .ok (.return_, 1) := by decide +kernel
theorem dX0_there_0 : decode cX0_there 0 = .ok (.aload_n 0, 1) := by decide +kernel
theorem dX0_there_1 : decode cX0_there 1 = .ok (.getfield 27, 3) := by decide +kernel
theorem dX0_there_4 : decode cX0_there 4 = .ok (.aload_n 0, 1) := by decide +kernel
theorem dX0_there_5 : decode cX0_there 5 = .ok (.getfield 31, 3) := by decide +kernel
theorem dX0_there_8 : decode cX0_there 8 = .ok (.isub, 1) := by decide +kernel
theorem dX0_there_9 : decode cX0_there 9 = .ok (.ireturn, 1) := by decide +kernel
theorem dX0_hasNumbers_0 : decode cX0_hasNumbers 0 = .ok (.aload_n 0, 1) := by decide +kernel
theorem dX0_hasNumbers_1 : decode cX0_hasNumbers 1 = .ok (.getfield 34, 3) := by decide +kernel
theorem dX0_hasNumbers_4 : decode cX0_hasNumbers 4 = .ok (.iload_n 1, 1) := by decide +kernel
theorem dX0_hasNumbers_5 : decode cX0_hasNumbers 5 = .ok (.iadd, 1) := by decide +kernel
theorem dX0_hasNumbers_6 : decode cX0_hasNumbers 6 = .ok (.iconst 1, 1) := by decide +kernel
theorem dX0_hasNumbers_7 : decode cX0_hasNumbers 7 = .ok (.isub, 1) := by decide +kernel
theorem dX0_hasNumbers_8 : decode cX0_hasNumbers 8 = .ok (.sipush 9999, 3) := by decide +kernel
theorem dX0_hasNumbers_11 : decode cX0_hasNumbers 11 = .ok (.if_icmp .gt 7, 3) := by decide +kernel
theorem dX0_hasNumbers_14 : decode cX0_hasNumbers 14 = .ok (.iconst 1, 1) := by decide +kernel
theorem dX0_hasNumbers_15 : decode cX0_hasNumbers 15 = .ok (.goto 4, 3) := by decide +kernel
theorem dX0_hasNumbers_18 : decode cX0_hasNumbers 18 = .ok (.iconst 0, 1) := by decide +kernel
theorem dX0_hasNumbers_19 : decode cX0_hasNumbers 19 = .ok (.ireturn, 1) := by decide +kernel
theorem dX0_isThere_0 : decode cX0_isThere 0 = .ok (.aload_n 0, 1) := by decide +kernel
theorem dX0_isThere_1 : decode cX0_isThere 1 = .ok (.getfield 24, 3) := by decide +kernel
theorem dX0_isThere_4 : decode cX0_isThere 4 = .ok (.iload_n 1, 1) := by decide +kernel
theorem dX0_isThere_5 : decode cX0_isThere 5 = .ok (.iaload, 1) := by decide +kernel
theorem dX0_isThere_6 : decode cX0_isThere 6 = .ok (.ifCond .ne 7, 3) := by decide +kernel
theorem dX0_isThere_9 : decode cX0_isThere 9 = .ok (.iconst 1, 1) := by decide +kernel
theorem dX0_isThere_10 : decode cX0_isThere 10 = .ok (.goto 4, 3) := by decide +kernel
theorem dX0_isThere_13 : decode cX0_isThere 13 = .ok (.iconst 0, 1) := by decide +kernel
theorem dX0_isThere_14 : decode cX0_isThere 14 = .ok (.ireturn, 1) := by decide +kernel
theorem dX0_layersThere_0 : decode cX0_layersThere 0 = .ok (.aload_n 0, 1) := by decide +kernel
theorem dX0_layersThere_1 : decode cX0_layersThere 1 = .ok (.getfield 27, 3) := by decide +kernel
theorem dX0_layersThere_4 : decode cX0_layersThere 4 = .ok (.invokestatic 37, 3) := by decide +kernel
theorem dX0_layersThere_7 : decode cX0_layersThere 7 = .ok (.aload_n 0, 1) := by decide +kernel
theorem dX0_layersThere_8 : decode cX0_layersThere 8 = .ok (.getfield 31, 3) := by decide +kernel
theorem dX0_layersThere_11 : decode cX0_layersThere 11 = .ok (.invokestatic 37, 3) := by decide +kernel
theorem dX0_layersThere_14 : decode cX0_layersThere 14 = .ok (.iadd, 1) := by decide +kernel
theorem dX0_layersThere_15 : decode cX0_layersThere 15 = .ok (.ireturn, 1) := by decide +kernel
theorem dX0_find_0 : decode cX0_find 0 = .ok (.iconst 0, 1) := by decide +kernel
theorem dX0_find_1 : decode cX0_find 1 = .ok (.istore_n 2, 1) := by decide +kernel
theorem dX0_find_2 : decode cX0_find 2 = .ok (.iload_n 2, 1) := by decide +kernel
theorem dX0_find_3 : decode cX0_find 3 = .ok (.aload_n 0, 1) := by decide +kernel
theorem dX0_find_4 : decode cX0_find 4 = .ok (.getfield 27, 3) := by decide +kernel
theorem dX0_find_7 : decode cX0_find 7 = .ok (.if_icmp .ge 29, 3) := by decide +kernel
theorem dX0_find_10 : decode cX0_find 10 = .ok (.aload_n 0, 1) := by decide +kernel
theorem dX0_find_11 : decode cX0_find 11 = .ok (.getfield 11, 3) := by decide +kernel
theorem dX0_find_14 : decode cX0_find 14 = .ok (.iload_n 2, 1) := by decide +kernel
theorem dX0_find_15 : decode cX0_find 15 = .ok (.iaload, 1) := by decide +kernel
theorem dX0_find_16 : decode cX0_find 16 = .ok (.iload_n 1, 1) := by decide +kernel
theorem dX0_find_17 : decode cX0_find 17 = .ok (.if_icmp .ne 13, 3) := by decide +kernel
theorem dX0_find_20 : decode cX0_find 20 = .ok (.aload_n 0, 1) := by decide +kernel
theorem dX0_find_21 : decode cX0_find 21 = .ok (.iload_n 2, 1) := by decide +kernel
theorem dX0_find_22 : decode cX0_find 22 = .ok (.invokevirtual 43, 3) := by decide +kernel
theorem dX0_find_25 : decode cX0_find 25 = .ok (.ifCond .eq 5, 3) := by decide +kernel
theorem dX0_find_28 : decode cX0_find 28 = .ok (.iload_n 2, 1) := by decide +kernel
theorem dX0_find_29 : decode cX0_find 29 = .ok (.ireturn, 1) := by decide +kernel
theorem dX0_find_30 : decode cX0_find 30 = .ok (.iinc 2 1, 3) := by decide +kernel
theorem dX0_find_33 : decode cX0_find 33 = .ok (.goto (-31), 3) := by decide +kernel
theorem dX0_find_36 : decode cX0_find 36 = .ok (.iconst (-1), 1) := by decide +kernel
theorem dX0_find_37 : decode cX0_find 37 = .ok (.ireturn, 1) := by decide +kernel
theorem dX0_come_0 : decode cX0_come 0 = .ok (.aload_n 0, 1) := by decide +kernel
theorem dX0_come_1 : decode cX0_come 1 = .ok (.getfield 27, 3) := by decide +kernel
theorem dX0_come_4 : decode cX0_come 4 = .ok (.bipush 121, 2) := by decide +kernel
theorem dX0_come_6 : decode cX0_come 6 = .ok (.if_icmp .lt 6, 3) := by decide +kernel
theorem dX0_come_9 : decode cX0_come 9 = .ok (.ldc 47, 2) := by decide +kernel
theorem dX0_come_11 : decode cX0_come 11 = .ok (.ireturn, 1) := by decide +kernel
theorem dX0_come_12 : decode cX0_come 12 = .ok (.aload_n 0, 1) := by decide +kernel
theorem dX0_come_13 : decode cX0_come 13 = .ok (.getfield 11, 3) := by decide +kernel
theorem dX0_come_16 : decode cX0_come 16 = .ok (.aload_n 0, 1) := by decide +kernel
theorem dX0_come_17 : decode cX0_come 17 = .ok (.getfield 27, 3) := by decide +kernel
theorem dX0_come_20 : decode cX0_come 20 = .ok (.aload_n 0, 1) := by decide +kernel
theorem dX0_come_21 : decode cX0_come 21 = .ok (.getfield 34, 3) := by decide +kernel
theorem dX0_come_24 : decode cX0_come 24 = .ok (.iastore, 1) := by decide +kernel
theorem dX0_come_25 : decode cX0_come 25 = .ok (.aload_n 0, 1) := by decide +kernel
theorem dX0_come_26 : decode cX0_come 26 = .ok (.getfield 15, 3) := by decide +kernel
theorem dX0_come_29 : decode cX0_come 29 = .ok (.aload_n 0, 1) := by decide +kernel
theorem dX0_come_30 : decode cX0_come 30 = .ok (.getfield 27, 3) := by decide +kernel
theorem dX0_come_33 : decode cX0_come 33 = .ok (.iload_n 1, 1) := by decide +kernel
theorem dX0_come_34 : decode cX0_come 34 = .ok (.iastore, 1) := by decide +kernel
theorem dX0_come_35 : decode cX0_come 35 = .ok (.aload_n 0, 1) := by decide +kernel
theorem dX0_come_36 : decode cX0_come 36 = .ok (.getfield 18, 3) := by decide +kernel
theorem dX0_come_39 : decode cX0_come 39 = .ok (.aload_n 0, 1) := by decide +kernel
theorem dX0_come_40 : decode cX0_come 40 = .ok (.getfield 27, 3) := by decide +kernel
theorem dX0_come_43 : decode cX0_come 43 = .ok (.iload_n 2, 1) := by decide +kernel
theorem dX0_come_44 : decode cX0_come 44 = .ok (.iastore, 1) := by decide +kernel
theorem dX0_come_45 : decode cX0_come 45 = .ok (.aload_n 0, 1) := by decide +kernel
theorem dX0_come_46 : decode cX0_come 46 = .ok (.getfield 21, 3) := by decide +kernel
theorem dX0_come_49 : decode cX0_come 49 = .ok (.aload_n 0, 1) := by decide +kernel
theorem dX0_come_50 : decode cX0_come 50 = .ok (.getfield 27, 3) := by decide +kernel
theorem dX0_come_53 : decode cX0_come 53 = .ok (.iload_n 3, 1) := by decide +kernel
theorem dX0_come_54 : decode cX0_come 54 = .ok (.iastore, 1) := by decide +kernel
theorem dX0_come_55 : decode cX0_come 55 = .ok (.aload_n 0, 1) := by decide +kernel
theorem dX0_come_56 : decode cX0_come 56 = .ok (.getfield 24, 3) := by decide +kernel
theorem dX0_come_59 : decode cX0_come 59 = .ok (.aload_n 0, 1) := by decide +kernel
theorem dX0_come_60 : decode cX0_come 60 = .ok (.getfield 27, 3) := by decide +kernel
theorem dX0_come_63 : decode cX0_come 63 = .ok (.iconst 0, 1) := by decide +kernel
theorem dX0_come_64 : decode cX0_come 64 = .ok (.iastore, 1) := by decide +kernel
theorem dX0_come_65 : decode cX0_come 65 = .ok (.aload_n 0, 1) := by decide +kernel
theorem dX0_come_66 : decode cX0_come 66 = .ok (.dup, 1) := by decide +kernel
theorem dX0_come_67 : decode cX0_come 67 = .ok (.getfield 27, 3) := by decide +kernel
theorem dX0_come_70 : decode cX0_come 70 = .ok (.iconst 1, 1) := by decide +kernel
theorem dX0_come_71 : decode cX0_come 71 = .ok (.iadd, 1) := by decide +kernel
theorem dX0_come_72 : decode cX0_come 72 = .ok (.putfield 27, 3) := by decide +kernel
theorem dX0_come_75 : decode cX0_come 75 = .ok (.aload_n 0, 1) := by decide +kernel
theorem dX0_come_76 : decode cX0_come 76 = .ok (.dup, 1) := by decide +kernel
theorem dX0_come_77 : decode cX0_come 77 = .ok (.getfield 48, 3) := by decide +kernel
theorem dX0_come_80 : decode cX0_come 80 = .ok (.aload_n 0, 1) := by decide +kernel
theorem dX0_come_81 : decode cX0_come 81 = .ok (.getfield 27, 3) := by decide +kernel
theorem dX0_come_84 : decode cX0_come 84 = .ok (.invokestatic 51, 3) := by decide +kernel
theorem dX0_come_87 : decode cX0_come 87 = .ok (.iadd, 1) := by decide +kernel
theorem dX0_come_88 : decode cX0_come 88 = .ok (.putfield 48, 3) := by decide +kernel
theorem dX0_come_91 : decode cX0_come 91 = .ok (.aload_n 0, 1) := by decide +kernel
theorem dX0_come_92 : decode cX0_come 92 = .ok (.dup, 1) := by decide +kernel
theorem dX0_come_93 : decode cX0_come 93 = .ok (.getfield 34, 3) := by decide +kernel
theorem dX0_come_96 : decode cX0_come 96 = .ok (.iconst 1, 1) := by decide +kernel
theorem dX0_come_97 : decode cX0_come 97 = .ok (.iadd, 1) := by decide +kernel
theorem dX0_come_98 : decode cX0_come 98 = .ok (.putfield 34, 3) := by decide +kernel
theorem dX0_come_101 : decode cX0_come 101 = .ok (.aload_n 0, 1) := by decide +kernel
theorem dX0_come_102 : decode cX0_come 102 = .ok (.getfield 34, 3) := by decide +kernel
theorem dX0_come_105 : decode cX0_come 105 = .ok (.iconst 1, 1) := by decide +kernel
theorem dX0_come_106 : decode cX0_come 106 = .ok (.isub, 1) := by decide +kernel
theorem dX0_come_107 : decode cX0_come 107 = .ok (.ireturn, 1) := by decide +kernel
theorem dX0_goAway_0 : decode cX0_goAway 0 = .ok (.iload_n 1, 1) := by decide +kernel
theorem dX0_goAway_1 : decode cX0_goAway 1 = .ok (.ifCond .lt 11, 3) := by decide +kernel
theorem dX0_goAway_4 : decode cX0_goAway 4 = .ok (.iload_n 1, 1) := by decide +kernel
theorem dX0_goAway_5 : decode cX0_goAway 5 = .ok (.aload_n 0, 1) := by decide +kernel
theorem dX0_goAway_6 : decode cX0_goAway 6 = .ok (.getfield 27, 3) := by decide +kernel
theorem dX0_goAway_9 : decode cX0_goAway 9 = .ok (.if_icmp .lt 6, 3) := by decide +kernel
theorem dX0_goAway_12 : decode cX0_goAway 12 = .ok (.ldc 54, 2) := by decide +kernel
theorem dX0_goAway_14 : decode cX0_goAway 14 = .ok (.ireturn, 1) := by decide +kernel
theorem dX0_goAway_15 : decode cX0_goAway 15 = .ok (.aload_n 0, 1) := by decide +kernel
theorem dX0_goAway_16 : decode cX0_goAway 16 = .ok (.getfield 21, 3) := by decide +kernel
theorem dX0_goAway_19 : decode cX0_goAway 19 = .ok (.iload_n 1, 1) := by decide +kernel
theorem dX0_goAway_20 : decode cX0_goAway 20 = .ok (.iaload, 1) := by decide +kernel
theorem dX0_goAway_21 : decode cX0_goAway 21 = .ok (.istore_n 2, 1) := by decide +kernel
theorem dX0_goAway_22 : decode cX0_goAway 22 = .ok (.aload_n 0, 1) := by decide +kernel
theorem dX0_goAway_23 : decode cX0_goAway 23 = .ok (.dup, 1) := by decide +kernel
theorem dX0_goAway_24 : decode cX0_goAway 24 = .ok (.getfield 31, 3) := by decide +kernel
theorem dX0_goAway_27 : decode cX0_goAway 27 = .ok (.iconst 1, 1) := by decide +kernel
theorem dX0_goAway_28 : decode cX0_goAway 28 = .ok (.iadd, 1) := by decide +kernel
theorem dX0_goAway_29 : decode cX0_goAway 29 = .ok (.putfield 31, 3) := by decide +kernel
theorem dX0_goAway_32 : decode cX0_goAway 32 = .ok (.aload_n 0, 1) := by decide +kernel
theorem dX0_goAway_33 : decode cX0_goAway 33 = .ok (.getfield 24, 3) := by decide +kernel
theorem dX0_goAway_36 : decode cX0_goAway 36 = .ok (.iload_n 1, 1) := by decide +kernel
theorem dX0_goAway_37 : decode cX0_goAway 37 = .ok (.aload_n 0, 1) := by decide +kernel
theorem dX0_goAway_38 : decode cX0_goAway 38 = .ok (.getfield 31, 3) := by decide +kernel
theorem dX0_goAway_41 : decode cX0_goAway 41 = .ok (.iastore, 1) := by decide +kernel
theorem dX0_goAway_42 : decode cX0_goAway 42 = .ok (.aload_n 0, 1) := by decide +kernel
theorem dX0_goAway_43 : decode cX0_goAway 43 = .ok (.dup, 1) := by decide +kernel
theorem dX0_goAway_44 : decode cX0_goAway 44 = .ok (.getfield 48, 3) := by decide +kernel
theorem dX0_goAway_47 : decode cX0_goAway 47 = .ok (.aload_n 0, 1) := by decide +kernel
theorem dX0_goAway_48 : decode cX0_goAway 48 = .ok (.getfield 31, 3) := by decide +kernel
theorem dX0_goAway_51 : decode cX0_goAway 51 = .ok (.invokestatic 51, 3) := by decide +kernel
theorem dX0_goAway_54 : decode cX0_goAway 54 = .ok (.iadd, 1) := by decide +kernel
theorem dX0_goAway_55 : decode cX0_goAway 55 = .ok (.putfield 48, 3) := by decide +kernel
theorem dX0_goAway_58 : decode cX0_goAway 58 = .ok (.aload_n 0, 1) := by decide +kernel
theorem dX0_goAway_59 : decode cX0_goAway 59 = .ok (.getfield 31, 3) := by decide +kernel
theorem dX0_goAway_62 : decode cX0_goAway 62 = .ok (.aload_n 0, 1) := by decide +kernel
theorem dX0_goAway_63 : decode cX0_goAway 63 = .ok (.invokevirtual 55, 3) := by decide +kernel
theorem dX0_goAway_66 : decode cX0_goAway 66 = .ok (.if_icmp .le 7, 3) := by decide +kernel
theorem dX0_goAway_69 : decode cX0_goAway 69 = .ok (.aload_n 0, 1) := by decide +kernel
theorem dX0_goAway_70 : decode cX0_goAway 70 = .ok (.invokevirtual 59, 3) := by decide +kernel
theorem dX0_goAway_73 : decode cX0_goAway 73 = .ok (.iload_n 2, 1) := by decide +kernel
theorem dX0_goAway_74 : decode cX0_goAway 74 = .ok (.ireturn, 1) := by decide +kernel
theorem dX0_layAnew_0 : decode cX0_layAnew 0 = .ok (.iconst 0, 1) := by decide +kernel
theorem dX0_layAnew_1 : decode cX0_layAnew 1 = .ok (.istore_n 1, 1) := by decide +kernel
theorem dX0_layAnew_2 : decode cX0_layAnew 2 = .ok (.iconst 0, 1) := by decide +kernel
theorem dX0_layAnew_3 : decode cX0_layAnew 3 = .ok (.istore_n 2, 1) := by decide +kernel
theorem dX0_layAnew_4 : decode cX0_layAnew 4 = .ok (.iload_n 2, 1) := by decide +kernel
theorem dX0_layAnew_5 : decode cX0_layAnew 5 = .ok (.aload_n 0, 1) := by decide +kernel
theorem dX0_layAnew_6 : decode cX0_layAnew 6 = .ok (.getfield 27, 3) := by decide +kernel
theorem dX0_layAnew_9 : decode cX0_layAnew 9 = .ok (.if_icmp .ge 75, 3) := by decide +kernel
theorem dX0_layAnew_12 : decode cX0_layAnew 12 = .ok (.aload_n 0, 1) := by decide +kernel
theorem dX0_layAnew_13 : decode cX0_layAnew 13 = .ok (.iload_n 2, 1) := by decide +kernel
theorem dX0_layAnew_14 : decode cX0_layAnew 14 = .ok (.invokevirtual 43, 3) := by decide +kernel
theorem dX0_layAnew_17 : decode cX0_layAnew 17 = .ok (.ifCond .eq 61, 3) := by decide +kernel
theorem dX0_layAnew_20 : decode cX0_layAnew 20 = .ok (.aload_n 0, 1) := by decide +kernel
theorem dX0_layAnew_21 : decode cX0_layAnew 21 = .ok (.getfield 11, 3) := by decide +kernel
theorem dX0_layAnew_24 : decode cX0_layAnew 24 = .ok (.iload_n 1, 1) := by decide +kernel
theorem dX0_layAnew_25 : decode cX0_layAnew 25 = .ok (.aload_n 0, 1) := by decide +kernel
theorem dX0_layAnew_26 : decode cX0_layAnew 26 = .ok (.getfield 11, 3) := by decide +kernel
theorem dX0_layAnew_29 : decode cX0_layAnew 29 = .ok (.iload_n 2, 1) := by decide +kernel
theorem dX0_layAnew_30 : decode cX0_layAnew 30 = .ok (.iaload, 1) := by decide +kernel
theorem dX0_layAnew_31 : decode cX0_layAnew 31 = .ok (.iastore, 1) := by decide +kernel
theorem dX0_layAnew_32 : decode cX0_layAnew 32 = .ok (.aload_n 0, 1) := by decide +kernel
theorem dX0_layAnew_33 : decode cX0_layAnew 33 = .ok (.getfield 15, 3) := by decide +kernel
theorem dX0_layAnew_36 : decode cX0_layAnew 36 = .ok (.iload_n 1, 1) := by decide +kernel
theorem dX0_layAnew_37 : decode cX0_layAnew 37 = .ok (.aload_n 0, 1) := by decide +kernel
theorem dX0_layAnew_38 : decode cX0_layAnew 38 = .ok (.getfield 15, 3) := by decide +kernel
theorem dX0_layAnew_41 : decode cX0_layAnew 41 = .ok (.iload_n 2, 1) := by decide +kernel
theorem dX0_layAnew_42 : decode cX0_layAnew 42 = .ok (.iaload, 1) := by decide +kernel
theorem dX0_layAnew_43 : decode cX0_layAnew 43 = .ok (.iastore, 1) := by decide +kernel
theorem dX0_layAnew_44 : decode cX0_layAnew 44 = .ok (.aload_n 0, 1) := by decide +kernel
theorem dX0_layAnew_45 : decode cX0_layAnew 45 = .ok (.getfield 18, 3) := by decide +kernel
theorem dX0_layAnew_48 : decode cX0_layAnew 48 = .ok (.iload_n 1, 1) := by decide +kernel
theorem dX0_layAnew_49 : decode cX0_layAnew 49 = .ok (.aload_n 0, 1) := by decide +kernel
theorem dX0_layAnew_50 : decode cX0_layAnew 50 = .ok (.getfield 18, 3) := by decide +kernel
theorem dX0_layAnew_53 : decode cX0_layAnew 53 = .ok (.iload_n 2, 1) := by decide +kernel
theorem dX0_layAnew_54 : decode cX0_layAnew 54 = .ok (.iaload, 1) := by decide +kernel
theorem dX0_layAnew_55 : decode cX0_layAnew 55 = .ok (.iastore, 1) := by decide +kernel
theorem dX0_layAnew_56 : decode cX0_layAnew 56 = .ok (.aload_n 0, 1) := by decide +kernel
theorem dX0_layAnew_57 : decode cX0_layAnew 57 = .ok (.getfield 21, 3) := by decide +kernel
theorem dX0_layAnew_60 : decode cX0_layAnew 60 = .ok (.iload_n 1, 1) := by decide +kernel
theorem dX0_layAnew_61 : decode cX0_layAnew 61 = .ok (.aload_n 0, 1) := by decide +kernel
theorem dX0_layAnew_62 : decode cX0_layAnew 62 = .ok (.getfield 21, 3) := by decide +kernel
theorem dX0_layAnew_65 : decode cX0_layAnew 65 = .ok (.iload_n 2, 1) := by decide +kernel
theorem dX0_layAnew_66 : decode cX0_layAnew 66 = .ok (.iaload, 1) := by decide +kernel
theorem dX0_layAnew_67 : decode cX0_layAnew 67 = .ok (.iastore, 1) := by decide +kernel
theorem dX0_layAnew_68 : decode cX0_layAnew 68 = .ok (.aload_n 0, 1) := by decide +kernel
theorem dX0_layAnew_69 : decode cX0_layAnew 69 = .ok (.getfield 24, 3) := by decide +kernel
theorem dX0_layAnew_72 : decode cX0_layAnew 72 = .ok (.iload_n 1, 1) := by decide +kernel
theorem dX0_layAnew_73 : decode cX0_layAnew 73 = .ok (.iconst 0, 1) := by decide +kernel
theorem dX0_layAnew_74 : decode cX0_layAnew 74 = .ok (.iastore, 1) := by decide +kernel
theorem dX0_layAnew_75 : decode cX0_layAnew 75 = .ok (.iinc 1 1, 3) := by decide +kernel
theorem dX0_layAnew_78 : decode cX0_layAnew 78 = .ok (.iinc 2 1, 3) := by decide +kernel
theorem dX0_layAnew_81 : decode cX0_layAnew 81 = .ok (.goto (-77), 3) := by decide +kernel
theorem dX0_layAnew_84 : decode cX0_layAnew 84 = .ok (.aload_n 0, 1) := by decide +kernel
theorem dX0_layAnew_85 : decode cX0_layAnew 85 = .ok (.iload_n 1, 1) := by decide +kernel
theorem dX0_layAnew_86 : decode cX0_layAnew 86 = .ok (.putfield 27, 3) := by decide +kernel
theorem dX0_layAnew_89 : decode cX0_layAnew 89 = .ok (.aload_n 0, 1) := by decide +kernel
theorem dX0_layAnew_90 : decode cX0_layAnew 90 = .ok (.iconst 0, 1) := by decide +kernel
theorem dX0_layAnew_91 : decode cX0_layAnew 91 = .ok (.putfield 31, 3) := by decide +kernel
theorem dX0_layAnew_94 : decode cX0_layAnew 94 = .ok (.aload_n 0, 1) := by decide +kernel
theorem dX0_layAnew_95 : decode cX0_layAnew 95 = .ok (.dup, 1) := by decide +kernel
theorem dX0_layAnew_96 : decode cX0_layAnew 96 = .ok (.getfield 62, 3) := by decide +kernel
theorem dX0_layAnew_99 : decode cX0_layAnew 99 = .ok (.iconst 1, 1) := by decide +kernel
theorem dX0_layAnew_100 : decode cX0_layAnew 100 = .ok (.iadd, 1) := by decide +kernel
theorem dX0_layAnew_101 : decode cX0_layAnew 101 = .ok (.putfield 62, 3) := by decide +kernel
theorem dX0_layAnew_104 : decode cX0_layAnew 104 = .ok (.return_, 1) := by decide +kernel
theorem dX0_worth_0 : decode cX0_worth 0 = .ok (.aload_n 0, 1) := by decide +kernel
theorem dX0_worth_1 : decode cX0_worth 1 = .ok (.getfield 65, 3) := by decide +kernel
theorem dX0_worth_4 : decode cX0_worth 4 = .ok (.tableswitch 98 1 5 #[36, 43, 67, 76, 82], 36) := by decide +kernel
theorem dX0_worth_40 : decode cX0_worth 40 = .ok (.aload_n 0, 1) := by decide +kernel
theorem dX0_worth_41 : decode cX0_worth 41 = .ok (.getfield 21, 3) := by decide +kernel
theorem dX0_worth_44 : decode cX0_worth 44 = .ok (.iload_n 1, 1) := by decide +kernel
theorem dX0_worth_45 : decode cX0_worth 45 = .ok (.iaload, 1) := by decide +kernel
theorem dX0_worth_46 : decode cX0_worth 46 = .ok (.ireturn, 1) := by decide +kernel
theorem dX0_worth_47 : decode cX0_worth 47 = .ok (.aload_n 0, 1) := by decide +kernel
theorem dX0_worth_48 : decode cX0_worth 48 = .ok (.getfield 15, 3) := by decide +kernel
theorem dX0_worth_51 : decode cX0_worth 51 = .ok (.iload_n 1, 1) := by decide +kernel
theorem dX0_worth_52 : decode cX0_worth 52 = .ok (.iaload, 1) := by decide +kernel
theorem dX0_worth_53 : decode cX0_worth 53 = .ok (.aload_n 0, 1) := by decide +kernel
theorem dX0_worth_54 : decode cX0_worth 54 = .ok (.getfield 18, 3) := by decide +kernel
theorem dX0_worth_57 : decode cX0_worth 57 = .ok (.iload_n 1, 1) := by decide +kernel
theorem dX0_worth_58 : decode cX0_worth 58 = .ok (.iaload, 1) := by decide +kernel
theorem dX0_worth_59 : decode cX0_worth 59 = .ok (.iadd, 1) := by decide +kernel
theorem dX0_worth_60 : decode cX0_worth 60 = .ok (.iconst 2, 1) := by decide +kernel
theorem dX0_worth_61 : decode cX0_worth 61 = .ok (.irem, 1) := by decide +kernel
theorem dX0_worth_62 : decode cX0_worth 62 = .ok (.ifCond .ne 7, 3) := by decide +kernel
theorem dX0_worth_65 : decode cX0_worth 65 = .ok (.iconst 1, 1) := by decide +kernel
theorem dX0_worth_66 : decode cX0_worth 66 = .ok (.goto 4, 3) := by decide +kernel
theorem dX0_worth_69 : decode cX0_worth 69 = .ok (.iconst 0, 1) := by decide +kernel
theorem dX0_worth_70 : decode cX0_worth 70 = .ok (.ireturn, 1) := by decide +kernel
theorem dX0_worth_71 : decode cX0_worth 71 = .ok (.iconst 2, 1) := by decide +kernel
theorem dX0_worth_72 : decode cX0_worth 72 = .ok (.aload_n 0, 1) := by decide +kernel
theorem dX0_worth_73 : decode cX0_worth 73 = .ok (.getfield 21, 3) := by decide +kernel
theorem dX0_worth_76 : decode cX0_worth 76 = .ok (.iload_n 1, 1) := by decide +kernel
theorem dX0_worth_77 : decode cX0_worth 77 = .ok (.iaload, 1) := by decide +kernel
theorem dX0_worth_78 : decode cX0_worth 78 = .ok (.imul, 1) := by decide +kernel
theorem dX0_worth_79 : decode cX0_worth 79 = .ok (.ireturn, 1) := by decide +kernel
theorem dX0_worth_80 : decode cX0_worth 80 = .ok (.aload_n 0, 1) := by decide +kernel
theorem dX0_worth_81 : decode cX0_worth 81 = .ok (.iload_n 1, 1) := by decide +kernel
theorem dX0_worth_82 : decode cX0_worth 82 = .ok (.invokevirtual 68, 3) := by decide +kernel
theorem dX0_worth_85 : decode cX0_worth 85 = .ok (.ireturn, 1) := by decide +kernel
theorem dX0_worth_86 : decode cX0_worth 86 = .ok (.aload_n 0, 1) := by decide +kernel
theorem dX0_worth_87 : decode cX0_worth 87 = .ok (.iload_n 1, 1) := by decide +kernel
theorem dX0_worth_88 : decode cX0_worth 88 = .ok (.invokevirtual 68, 3) := by decide +kernel
theorem dX0_worth_91 : decode cX0_worth 91 = .ok (.aload_n 0, 1) := by decide +kernel
theorem dX0_worth_92 : decode cX0_worth 92 = .ok (.getfield 11, 3) := by decide +kernel
theorem dX0_worth_95 : decode cX0_worth 95 = .ok (.iload_n 1, 1) := by decide +kernel
theorem dX0_worth_96 : decode cX0_worth 96 = .ok (.iaload, 1) := by decide +kernel
theorem dX0_worth_97 : decode cX0_worth 97 = .ok (.bipush 10, 2) := by decide +kernel
theorem dX0_worth_99 : decode cX0_worth 99 = .ok (.irem, 1) := by decide +kernel
theorem dX0_worth_100 : decode cX0_worth 100 = .ok (.iadd, 1) := by decide +kernel
theorem dX0_worth_101 : decode cX0_worth 101 = .ok (.ireturn, 1) := by decide +kernel
theorem dX0_worth_102 : decode cX0_worth 102 = .ok (.iconst 1, 1) := by decide +kernel
theorem dX0_worth_103 : decode cX0_worth 103 = .ok (.ireturn, 1) := by decide +kernel
theorem dX0_north_0 : decode cX0_north 0 = .ok (.aload_n 0, 1) := by decide +kernel
theorem dX0_north_1 : decode cX0_north 1 = .ok (.getfield 18, 3) := by decide +kernel
theorem dX0_north_4 : decode cX0_north 4 = .ok (.iload_n 1, 1) := by decide +kernel
theorem dX0_north_5 : decode cX0_north 5 = .ok (.iaload, 1) := by decide +kernel
theorem dX0_north_6 : decode cX0_north 6 = .ok (.ifCond .lt 12, 3) := by decide +kernel
theorem dX0_north_9 : decode cX0_north 9 = .ok (.aload_n 0, 1) := by decide +kernel
theorem dX0_north_10 : decode cX0_north 10 = .ok (.getfield 21, 3) := by decide +kernel
theorem dX0_north_13 : decode cX0_north 13 = .ok (.iload_n 1, 1) := by decide +kernel
theorem dX0_north_14 : decode cX0_north 14 = .ok (.iaload, 1) := by decide +kernel
theorem dX0_north_15 : decode cX0_north 15 = .ok (.goto 4, 3) := by decide +kernel
theorem dX0_north_18 : decode cX0_north 18 = .ok (.iconst 0, 1) := by decide +kernel
theorem dX0_north_19 : decode cX0_north 19 = .ok (.ireturn, 1) := by decide +kernel
theorem dX0_weightOfAll_0 : decode cX0_weightOfAll 0 = .ok (.iconst 0, 1) := by decide +kernel
theorem dX0_weightOfAll_1 : decode cX0_weightOfAll 1 = .ok (.istore_n 1, 1) := by decide +kernel
theorem dX0_weightOfAll_2 : decode cX0_weightOfAll 2 = .ok (.iconst 0, 1) := by decide +kernel
theorem dX0_weightOfAll_3 : decode cX0_weightOfAll 3 = .ok (.istore_n 2, 1) := by decide +kernel
theorem dX0_weightOfAll_4 : decode cX0_weightOfAll 4 = .ok (.iload_n 2, 1) := by decide +kernel
theorem dX0_weightOfAll_5 : decode cX0_weightOfAll 5 = .ok (.aload_n 0, 1) := by decide +kernel
theorem dX0_weightOfAll_6 : decode cX0_weightOfAll 6 = .ok (.getfield 27, 3) := by decide +kernel
theorem dX0_weightOfAll_9 : decode cX0_weightOfAll 9 = .ok (.if_icmp .ge 26, 3) := by decide +kernel
theorem dX0_weightOfAll_12 : decode cX0_weightOfAll 12 = .ok (.aload_n 0, 1) := by decide +kernel
theorem dX0_weightOfAll_13 : decode cX0_weightOfAll 13 = .ok (.iload_n 2, 1) := by decide +kernel
theorem dX0_weightOfAll_14 : decode cX0_weightOfAll 14 = .ok (.invokevirtual 43, 3) := by decide +kernel
theorem dX0_weightOfAll_17 : decode cX0_weightOfAll 17 = .ok (.ifCond .eq 12, 3) := by decide +kernel
theorem dX0_weightOfAll_20 : decode cX0_weightOfAll 20 = .ok (.iload_n 1, 1) := by decide +kernel
theorem dX0_weightOfAll_21 : decode cX0_weightOfAll 21 = .ok (.aload_n 0, 1) := by decide +kernel
theorem dX0_weightOfAll_22 : decode cX0_weightOfAll 22 = .ok (.getfield 21, 3) := by decide +kernel
theorem dX0_weightOfAll_25 : decode cX0_weightOfAll 25 = .ok (.iload_n 2, 1) := by decide +kernel
theorem dX0_weightOfAll_26 : decode cX0_weightOfAll 26 = .ok (.iaload, 1) := by decide +kernel
theorem dX0_weightOfAll_27 : decode cX0_weightOfAll 27 = .ok (.iadd, 1) := by decide +kernel
theorem dX0_weightOfAll_28 : decode cX0_weightOfAll 28 = .ok (.istore_n 1, 1) := by decide +kernel
theorem dX0_weightOfAll_29 : decode cX0_weightOfAll 29 = .ok (.iinc 2 1, 3) := by decide +kernel
theorem dX0_weightOfAll_32 : decode cX0_weightOfAll 32 = .ok (.goto (-28), 3) := by decide +kernel
theorem dX0_weightOfAll_35 : decode cX0_weightOfAll 35 = .ok (.iload_n 1, 1) := by decide +kernel
theorem dX0_weightOfAll_36 : decode cX0_weightOfAll 36 = .ok (.ireturn, 1) := by decide +kernel
theorem dX0_distance_0 : decode cX0_distance 0 = .ok (.aload_n 0, 1) := by decide +kernel
theorem dX0_distance_1 : decode cX0_distance 1 = .ok (.getfield 15, 3) := by decide +kernel
theorem dX0_distance_4 : decode cX0_distance 4 = .ok (.iload_n 1, 1) := by decide +kernel
theorem dX0_distance_5 : decode cX0_distance 5 = .ok (.iaload, 1) := by decide +kernel
theorem dX0_distance_6 : decode cX0_distance 6 = .ok (.iload_n 2, 1) := by decide +kernel
theorem dX0_distance_7 : decode cX0_distance 7 = .ok (.isub, 1) := by decide +kernel
theorem dX0_distance_8 : decode cX0_distance 8 = .ok (.invokestatic 71, 3) := by decide +kernel
theorem dX0_distance_11 : decode cX0_distance 11 = .ok (.aload_n 0, 1) := by decide +kernel
theorem dX0_distance_12 : decode cX0_distance 12 = .ok (.getfield 18, 3) := by decide +kernel
theorem dX0_distance_15 : decode cX0_distance 15 = .ok (.iload_n 1, 1) := by decide +kernel
theorem dX0_distance_16 : decode cX0_distance 16 = .ok (.iaload, 1) := by decide +kernel
theorem dX0_distance_17 : decode cX0_distance 17 = .ok (.iload_n 3, 1) := by decide +kernel
theorem dX0_distance_18 : decode cX0_distance 18 = .ok (.isub, 1) := by decide +kernel
theorem dX0_distance_19 : decode cX0_distance 19 = .ok (.invokestatic 71, 3) := by decide +kernel
theorem dX0_distance_22 : decode cX0_distance 22 = .ok (.invokestatic 76, 3) := by decide +kernel
theorem dX0_distance_25 : decode cX0_distance 25 = .ok (.ireturn, 1) := by decide +kernel
theorem dX0_isLess_0 : decode cX0_isLess 0 = .ok (.aload_n 0, 1) := by decide +kernel
theorem dX0_isLess_1 : decode cX0_isLess 1 = .ok (.getfield 15, 3) := by decide +kernel
theorem dX0_isLess_4 : decode cX0_isLess 4 = .ok (.iload_n 1, 1) := by decide +kernel
theorem dX0_isLess_5 : decode cX0_isLess 5 = .ok (.iaload, 1) := by decide +kernel
theorem dX0_isLess_6 : decode cX0_isLess 6 = .ok (.aload_n 0, 1) := by decide +kernel
theorem dX0_isLess_7 : decode cX0_isLess 7 = .ok (.getfield 15, 3) := by decide +kernel
theorem dX0_isLess_10 : decode cX0_isLess 10 = .ok (.iload_n 2, 1) := by decide +kernel
theorem dX0_isLess_11 : decode cX0_isLess 11 = .ok (.iaload, 1) := by decide +kernel
theorem dX0_isLess_12 : decode cX0_isLess 12 = .ok (.if_icmp .ge 22, 3) := by decide +kernel
theorem dX0_isLess_15 : decode cX0_isLess 15 = .ok (.aload_n 0, 1) := by decide +kernel
theorem dX0_isLess_16 : decode cX0_isLess 16 = .ok (.getfield 18, 3) := by decide +kernel
theorem dX0_isLess_19 : decode cX0_isLess 19 = .ok (.iload_n 1, 1) := by decide +kernel
theorem dX0_isLess_20 : decode cX0_isLess 20 = .ok (.iaload, 1) := by decide +kernel
theorem dX0_isLess_21 : decode cX0_isLess 21 = .ok (.aload_n 0, 1) := by decide +kernel
theorem dX0_isLess_22 : decode cX0_isLess 22 = .ok (.getfield 18, 3) := by decide +kernel
theorem dX0_isLess_25 : decode cX0_isLess 25 = .ok (.iload_n 2, 1) := by decide +kernel
theorem dX0_isLess_26 : decode cX0_isLess 26 = .ok (.iaload, 1) := by decide +kernel
theorem dX0_isLess_27 : decode cX0_isLess 27 = .ok (.if_icmp .ge 7, 3) := by decide +kernel
theorem dX0_isLess_30 : decode cX0_isLess 30 = .ok (.iconst 1, 1) := by decide +kernel
theorem dX0_isLess_31 : decode cX0_isLess 31 = .ok (.goto 4, 3) := by decide +kernel
theorem dX0_isLess_34 : decode cX0_isLess 34 = .ok (.iconst 0, 1) := by decide +kernel
theorem dX0_isLess_35 : decode cX0_isLess 35 = .ok (.ireturn, 1) := by decide +kernel
theorem dX0_isTopped_0 : decode cX0_isTopped 0 = .ok (.aload_n 0, 1) := by decide +kernel
theorem dX0_isTopped_1 : decode cX0_isTopped 1 = .ok (.getfield 15, 3) := by decide +kernel
theorem dX0_isTopped_4 : decode cX0_isTopped 4 = .ok (.iload_n 2, 1) := by decide +kernel
theorem dX0_isTopped_5 : decode cX0_isTopped 5 = .ok (.iaload, 1) := by decide +kernel
theorem dX0_isTopped_6 : decode cX0_isTopped 6 = .ok (.aload_n 0, 1) := by decide +kernel
theorem dX0_isTopped_7 : decode cX0_isTopped 7 = .ok (.getfield 15, 3) := by decide +kernel
theorem dX0_isTopped_10 : decode cX0_isTopped 10 = .ok (.iload_n 1, 1) := by decide +kernel
theorem dX0_isTopped_11 : decode cX0_isTopped 11 = .ok (.iaload, 1) := by decide +kernel
theorem dX0_isTopped_12 : decode cX0_isTopped 12 = .ok (.if_icmp .lt 52, 3) := by decide +kernel
theorem dX0_isTopped_15 : decode cX0_isTopped 15 = .ok (.aload_n 0, 1) := by decide +kernel
theorem dX0_isTopped_16 : decode cX0_isTopped 16 = .ok (.getfield 18, 3) := by decide +kernel
theorem dX0_isTopped_19 : decode cX0_isTopped 19 = .ok (.iload_n 2, 1) := by decide +kernel
theorem dX0_isTopped_20 : decode cX0_isTopped 20 = .ok (.iaload, 1) := by decide +kernel
theorem dX0_isTopped_21 : decode cX0_isTopped 21 = .ok (.aload_n 0, 1) := by decide +kernel
theorem dX0_isTopped_22 : decode cX0_isTopped 22 = .ok (.getfield 18, 3) := by decide +kernel
theorem dX0_isTopped_25 : decode cX0_isTopped 25 = .ok (.iload_n 1, 1) := by decide +kernel
theorem dX0_isTopped_26 : decode cX0_isTopped 26 = .ok (.iaload, 1) := by decide +kernel
theorem dX0_isTopped_27 : decode cX0_isTopped 27 = .ok (.if_icmp .lt 37, 3) := by decide +kernel
theorem dX0_isTopped_30 : decode cX0_isTopped 30 = .ok (.aload_n 0, 1) := by decide +kernel
theorem dX0_isTopped_31 : decode cX0_isTopped 31 = .ok (.getfield 15, 3) := by decide +kernel
theorem dX0_isTopped_34 : decode cX0_isTopped 34 = .ok (.iload_n 2, 1) := by decide +kernel
theorem dX0_isTopped_35 : decode cX0_isTopped 35 = .ok (.iaload, 1) := by decide +kernel
theorem dX0_isTopped_36 : decode cX0_isTopped 36 = .ok (.aload_n 0, 1) := by decide +kernel
theorem dX0_isTopped_37 : decode cX0_isTopped 37 = .ok (.getfield 15, 3) := by decide +kernel
theorem dX0_isTopped_40 : decode cX0_isTopped 40 = .ok (.iload_n 1, 1) := by decide +kernel
theorem dX0_isTopped_41 : decode cX0_isTopped 41 = .ok (.iaload, 1) := by decide +kernel
theorem dX0_isTopped_42 : decode cX0_isTopped 42 = .ok (.if_icmp .ne 18, 3) := by decide +kernel
theorem dX0_isTopped_45 : decode cX0_isTopped 45 = .ok (.aload_n 0, 1) := by decide +kernel
theorem dX0_isTopped_46 : decode cX0_isTopped 46 = .ok (.getfield 18, 3) := by decide +kernel
theorem dX0_isTopped_49 : decode cX0_isTopped 49 = .ok (.iload_n 2, 1) := by decide +kernel
theorem dX0_isTopped_50 : decode cX0_isTopped 50 = .ok (.iaload, 1) := by decide +kernel
theorem dX0_isTopped_51 : decode cX0_isTopped 51 = .ok (.aload_n 0, 1) := by decide +kernel
theorem dX0_isTopped_52 : decode cX0_isTopped 52 = .ok (.getfield 18, 3) := by decide +kernel
theorem dX0_isTopped_55 : decode cX0_isTopped 55 = .ok (.iload_n 1, 1) := by decide +kernel
theorem dX0_isTopped_56 : decode cX0_isTopped 56 = .ok (.iaload, 1) := by decide +kernel
theorem dX0_isTopped_57 : decode cX0_isTopped 57 = .ok (.if_icmp .eq 7, 3) := by decide +kernel
theorem dX0_isTopped_60 : decode cX0_isTopped 60 = .ok (.iconst 1, 1) := by decide +kernel
theorem dX0_isTopped_61 : decode cX0_isTopped 61 = .ok (.goto 4, 3) := by decide +kernel
theorem dX0_isTopped_64 : decode cX0_isTopped 64 = .ok (.iconst 0, 1) := by decide +kernel
theorem dX0_isTopped_65 : decode cX0_isTopped 65 = .ok (.ireturn, 1) := by decide +kernel
theorem dX0_isBeforeByPlace_0 : decode cX0_isBeforeByPlace 0 = .ok (.aload_n 0, 1) := by decide +kernel
theorem dX0_isBeforeByPlace_1 : decode cX0_isBeforeByPlace 1 = .ok (.getfield 15, 3) := by decide +kernel
theorem dX0_isBeforeByPlace_4 : decode cX0_isBeforeByPlace 4 = .ok (.iload_n 1, 1) := by decide +kernel
theorem dX0_isBeforeByPlace_5 : decode cX0_isBeforeByPlace 5 = .ok (.iaload, 1) := by decide +kernel
theorem dX0_isBeforeByPlace_6 : decode cX0_isBeforeByPlace 6 = .ok (.aload_n 0, 1) := by decide +kernel
theorem dX0_isBeforeByPlace_7 : decode cX0_isBeforeByPlace 7 = .ok (.getfield 15, 3) := by decide +kernel
theorem dX0_isBeforeByPlace_10 : decode cX0_isBeforeByPlace 10 = .ok (.iload_n 2, 1) := by decide +kernel
theorem dX0_isBeforeByPlace_11 : decode cX0_isBeforeByPlace 11 = .ok (.iaload, 1) := by decide +kernel
theorem dX0_isBeforeByPlace_12 : decode cX0_isBeforeByPlace 12 = .ok (.if_icmp .eq 24, 3) := by decide +kernel
theorem dX0_isBeforeByPlace_15 : decode cX0_isBeforeByPlace 15 = .ok (.aload_n 0, 1) := by decide +kernel
theorem dX0_isBeforeByPlace_16 : decode cX0_isBeforeByPlace 16 = .ok (.getfield 15, 3) := by decide +kernel
theorem dX0_isBeforeByPlace_19 : decode cX0_isBeforeByPlace 19 = .ok (.iload_n 1, 1) := by decide +kernel
theorem dX0_isBeforeByPlace_20 : decode cX0_isBeforeByPlace 20 = .ok (.iaload, 1) := by decide +kernel
theorem dX0_isBeforeByPlace_21 : decode cX0_isBeforeByPlace 21 = .ok (.aload_n 0, 1) := by decide +kernel
theorem dX0_isBeforeByPlace_22 : decode cX0_isBeforeByPlace 22 = .ok (.getfield 15, 3) := by decide +kernel
theorem dX0_isBeforeByPlace_25 : decode cX0_isBeforeByPlace 25 = .ok (.iload_n 2, 1) := by decide +kernel
theorem dX0_isBeforeByPlace_26 : decode cX0_isBeforeByPlace 26 = .ok (.iaload, 1) := by decide +kernel
theorem dX0_isBeforeByPlace_27 : decode cX0_isBeforeByPlace 27 = .ok (.if_icmp .ge 7, 3) := by decide +kernel
theorem dX0_isBeforeByPlace_30 : decode cX0_isBeforeByPlace 30 = .ok (.iconst 1, 1) := by decide +kernel
theorem dX0_isBeforeByPlace_31 : decode cX0_isBeforeByPlace 31 = .ok (.goto 4, 3) := by decide +kernel
theorem dX0_isBeforeByPlace_34 : decode cX0_isBeforeByPlace 34 = .ok (.iconst 0, 1) := by decide +kernel
theorem dX0_isBeforeByPlace_35 : decode cX0_isBeforeByPlace 35 = .ok (.ireturn, 1) := by decide +kernel
theorem dX0_isBeforeByPlace_36 : decode cX0_isBeforeByPlace 36 = .ok (.aload_n 0, 1) := by decide +kernel
theorem dX0_isBeforeByPlace_37 : decode cX0_isBeforeByPlace 37 = .ok (.getfield 18, 3) := by decide +kernel
theorem dX0_isBeforeByPlace_40 : decode cX0_isBeforeByPlace 40 = .ok (.iload_n 1, 1) := by decide +kernel
theorem dX0_isBeforeByPlace_41 : decode cX0_isBeforeByPlace 41 = .ok (.iaload, 1) := by decide +kernel
theorem dX0_isBeforeByPlace_42 : decode cX0_isBeforeByPlace 42 = .ok (.aload_n 0, 1) := by decide +kernel
theorem dX0_isBeforeByPlace_43 : decode cX0_isBeforeByPlace 43 = .ok (.getfield 18, 3) := by decide +kernel
theorem dX0_isBeforeByPlace_46 : decode cX0_isBeforeByPlace 46 = .ok (.iload_n 2, 1) := by decide +kernel
theorem dX0_isBeforeByPlace_47 : decode cX0_isBeforeByPlace 47 = .ok (.iaload, 1) := by decide +kernel
theorem dX0_isBeforeByPlace_48 : decode cX0_isBeforeByPlace 48 = .ok (.if_icmp .eq 24, 3) := by decide +kernel
theorem dX0_isBeforeByPlace_51 : decode cX0_isBeforeByPlace 51 = .ok (.aload_n 0, 1) := by decide +kernel
theorem dX0_isBeforeByPlace_52 : decode cX0_isBeforeByPlace 52 = .ok (.getfield 18, 3) := by decide +kernel
theorem dX0_isBeforeByPlace_55 : decode cX0_isBeforeByPlace 55 = .ok (.iload_n 1, 1) := by decide +kernel
theorem dX0_isBeforeByPlace_56 : decode cX0_isBeforeByPlace 56 = .ok (.iaload, 1) := by decide +kernel
theorem dX0_isBeforeByPlace_57 : decode cX0_isBeforeByPlace 57 = .ok (.aload_n 0, 1) := by decide +kernel
theorem dX0_isBeforeByPlace_58 : decode cX0_isBeforeByPlace 58 = .ok (.getfield 18, 3) := by decide +kernel
theorem dX0_isBeforeByPlace_61 : decode cX0_isBeforeByPlace 61 = .ok (.iload_n 2, 1) := by decide +kernel
theorem dX0_isBeforeByPlace_62 : decode cX0_isBeforeByPlace 62 = .ok (.iaload, 1) := by decide +kernel
theorem dX0_isBeforeByPlace_63 : decode cX0_isBeforeByPlace 63 = .ok (.if_icmp .ge 7, 3) := by decide +kernel
theorem dX0_isBeforeByPlace_66 : decode cX0_isBeforeByPlace 66 = .ok (.iconst 1, 1) := by decide +kernel
theorem dX0_isBeforeByPlace_67 : decode cX0_isBeforeByPlace 67 = .ok (.goto 4, 3) := by decide +kernel
theorem dX0_isBeforeByPlace_70 : decode cX0_isBeforeByPlace 70 = .ok (.iconst 0, 1) := by decide +kernel
theorem dX0_isBeforeByPlace_71 : decode cX0_isBeforeByPlace 71 = .ok (.ireturn, 1) := by decide +kernel
theorem dX0_isBeforeByPlace_72 : decode cX0_isBeforeByPlace 72 = .ok (.aload_n 0, 1) := by decide +kernel
theorem dX0_isBeforeByPlace_73 : decode cX0_isBeforeByPlace 73 = .ok (.getfield 11, 3) := by decide +kernel
theorem dX0_isBeforeByPlace_76 : decode cX0_isBeforeByPlace 76 = .ok (.iload_n 1, 1) := by decide +kernel
theorem dX0_isBeforeByPlace_77 : decode cX0_isBeforeByPlace 77 = .ok (.iaload, 1) := by decide +kernel
theorem dX0_isBeforeByPlace_78 : decode cX0_isBeforeByPlace 78 = .ok (.aload_n 0, 1) := by decide +kernel
theorem dX0_isBeforeByPlace_79 : decode cX0_isBeforeByPlace 79 = .ok (.getfield 11, 3) := by decide +kernel
theorem dX0_isBeforeByPlace_82 : decode cX0_isBeforeByPlace 82 = .ok (.iload_n 2, 1) := by decide +kernel
theorem dX0_isBeforeByPlace_83 : decode cX0_isBeforeByPlace 83 = .ok (.iaload, 1) := by decide +kernel
theorem dX0_isBeforeByPlace_84 : decode cX0_isBeforeByPlace 84 = .ok (.if_icmp .ge 7, 3) := by decide +kernel
theorem dX0_isBeforeByPlace_87 : decode cX0_isBeforeByPlace 87 = .ok (.iconst 1, 1) := by decide +kernel
theorem dX0_isBeforeByPlace_88 : decode cX0_isBeforeByPlace 88 = .ok (.goto 4, 3) := by decide +kernel
theorem dX0_isBeforeByPlace_91 : decode cX0_isBeforeByPlace 91 = .ok (.iconst 0, 1) := by decide +kernel
theorem dX0_isBeforeByPlace_92 : decode cX0_isBeforeByPlace 92 = .ok (.ireturn, 1) := by decide +kernel
theorem dX0_hasInLayer_0 : decode cX0_hasInLayer 0 = .ok (.iload_n 2, 1) := by decide +kernel
theorem dX0_hasInLayer_1 : decode cX0_hasInLayer 1 = .ok (.ifCond .eq 10, 3) := by decide +kernel
theorem dX0_hasInLayer_4 : decode cX0_hasInLayer 4 = .ok (.aload_n 0, 1) := by decide +kernel
theorem dX0_hasInLayer_5 : decode cX0_hasInLayer 5 = .ok (.getfield 31, 3) := by decide +kernel
theorem dX0_hasInLayer_8 : decode cX0_hasInLayer 8 = .ok (.goto 7, 3) := by decide +kernel
theorem dX0_hasInLayer_11 : decode cX0_hasInLayer 11 = .ok (.aload_n 0, 1) := by decide +kernel
theorem dX0_hasInLayer_12 : decode cX0_hasInLayer 12 = .ok (.getfield 27, 3) := by decide +kernel
theorem dX0_hasInLayer_15 : decode cX0_hasInLayer 15 = .ok (.istore 4, 2) := by decide +kernel
theorem dX0_hasInLayer_17 : decode cX0_hasInLayer 17 = .ok (.iload 4, 2) := by decide +kernel
theorem dX0_hasInLayer_19 : decode cX0_hasInLayer 19 = .ok (.iload_n 1, 1) := by decide +kernel
theorem dX0_hasInLayer_20 : decode cX0_hasInLayer 20 = .ok (.iand, 1) := by decide +kernel
theorem dX0_hasInLayer_21 : decode cX0_hasInLayer 21 = .ok (.ifCond .ne 6, 3) := by decide +kernel
theorem dX0_hasInLayer_24 : decode cX0_hasInLayer 24 = .ok (.ldc 80, 2) := by decide +kernel
theorem dX0_hasInLayer_26 : decode cX0_hasInLayer 26 = .ok (.ireturn, 1) := by decide +kernel
theorem dX0_hasInLayer_27 : decode cX0_hasInLayer 27 = .ok (.iload 4, 2) := by decide +kernel
theorem dX0_hasInLayer_29 : decode cX0_hasInLayer 29 = .ok (.iload_n 1, 1) := by decide +kernel
theorem dX0_hasInLayer_30 : decode cX0_hasInLayer 30 = .ok (.invokestatic 81, 3) := by decide +kernel
theorem dX0_hasInLayer_33 : decode cX0_hasInLayer 33 = .ok (.istore 5, 2) := by decide +kernel
theorem dX0_hasInLayer_35 : decode cX0_hasInLayer 35 = .ok (.iconst 0, 1) := by decide +kernel
theorem dX0_hasInLayer_36 : decode cX0_hasInLayer 36 = .ok (.istore 6, 2) := by decide +kernel
theorem dX0_hasInLayer_38 : decode cX0_hasInLayer 38 = .ok (.iconst 0, 1) := by decide +kernel
theorem dX0_hasInLayer_39 : decode cX0_hasInLayer 39 = .ok (.istore 7, 2) := by decide +kernel
theorem dX0_hasInLayer_41 : decode cX0_hasInLayer 41 = .ok (.iload 7, 2) := by decide +kernel
theorem dX0_hasInLayer_43 : decode cX0_hasInLayer 43 = .ok (.aload_n 0, 1) := by decide +kernel
theorem dX0_hasInLayer_44 : decode cX0_hasInLayer 44 = .ok (.getfield 27, 3) := by decide +kernel
theorem dX0_hasInLayer_47 : decode cX0_hasInLayer 47 = .ok (.if_icmp .ge 69, 3) := by decide +kernel
theorem dX0_hasInLayer_50 : decode cX0_hasInLayer 50 = .ok (.iload_n 2, 1) := by decide +kernel
theorem dX0_hasInLayer_51 : decode cX0_hasInLayer 51 = .ok (.ifCond .eq 15, 3) := by decide +kernel
theorem dX0_hasInLayer_54 : decode cX0_hasInLayer 54 = .ok (.aload_n 0, 1) := by decide +kernel
theorem dX0_hasInLayer_55 : decode cX0_hasInLayer 55 = .ok (.getfield 24, 3) := by decide +kernel
theorem dX0_hasInLayer_58 : decode cX0_hasInLayer 58 = .ok (.iload 7, 2) := by decide +kernel
theorem dX0_hasInLayer_60 : decode cX0_hasInLayer 60 = .ok (.iaload, 1) := by decide +kernel
theorem dX0_hasInLayer_61 : decode cX0_hasInLayer 61 = .ok (.iconst 1, 1) := by decide +kernel
theorem dX0_hasInLayer_62 : decode cX0_hasInLayer 62 = .ok (.isub, 1) := by decide +kernel
theorem dX0_hasInLayer_63 : decode cX0_hasInLayer 63 = .ok (.goto 5, 3) := by decide +kernel
theorem dX0_hasInLayer_66 : decode cX0_hasInLayer 66 = .ok (.iload 7, 2) := by decide +kernel
theorem dX0_hasInLayer_68 : decode cX0_hasInLayer 68 = .ok (.istore 8, 2) := by decide +kernel
theorem dX0_hasInLayer_70 : decode cX0_hasInLayer 70 = .ok (.iload 8, 2) := by decide +kernel
theorem dX0_hasInLayer_72 : decode cX0_hasInLayer 72 = .ok (.iload 5, 2) := by decide +kernel
theorem dX0_hasInLayer_74 : decode cX0_hasInLayer 74 = .ok (.if_icmp .lt 36, 3) := by decide +kernel
theorem dX0_hasInLayer_77 : decode cX0_hasInLayer 77 = .ok (.iload 8, 2) := by decide +kernel
theorem dX0_hasInLayer_79 : decode cX0_hasInLayer 79 = .ok (.iload 5, 2) := by decide +kernel
theorem dX0_hasInLayer_81 : decode cX0_hasInLayer 81 = .ok (.iload_n 1, 1) := by decide +kernel
theorem dX0_hasInLayer_82 : decode cX0_hasInLayer 82 = .ok (.iadd, 1) := by decide +kernel
theorem dX0_hasInLayer_83 : decode cX0_hasInLayer 83 = .ok (.if_icmp .ge 27, 3) := by decide +kernel
theorem dX0_hasInLayer_86 : decode cX0_hasInLayer 86 = .ok (.aload_n 3, 1) := by decide +kernel
theorem dX0_hasInLayer_87 : decode cX0_hasInLayer 87 = .ok (.aload_n 0, 1) := by decide +kernel
theorem dX0_hasInLayer_88 : decode cX0_hasInLayer 88 = .ok (.getfield 15, 3) := by decide +kernel
theorem dX0_hasInLayer_91 : decode cX0_hasInLayer 91 = .ok (.iload 7, 2) := by decide +kernel
theorem dX0_hasInLayer_93 : decode cX0_hasInLayer 93 = .ok (.iaload, 1) := by decide +kernel
theorem dX0_hasInLayer_94 : decode cX0_hasInLayer 94 = .ok (.aload_n 0, 1) := by decide +kernel
theorem dX0_hasInLayer_95 : decode cX0_hasInLayer 95 = .ok (.getfield 18, 3) := by decide +kernel
theorem dX0_hasInLayer_98 : decode cX0_hasInLayer 98 = .ok (.iload 7, 2) := by decide +kernel
theorem dX0_hasInLayer_100 : decode cX0_hasInLayer 100 = .ok (.iaload, 1) := by decide +kernel
theorem dX0_hasInLayer_101 : decode cX0_hasInLayer 101 = .ok (.invokevirtual 84, 3) := by decide +kernel
theorem dX0_hasInLayer_104 : decode cX0_hasInLayer 104 = .ok (.ifCond .eq 6, 3) := by decide +kernel
theorem dX0_hasInLayer_107 : decode cX0_hasInLayer 107 = .ok (.iinc 6 1, 3) := by decide +kernel
theorem dX0_hasInLayer_110 : decode cX0_hasInLayer 110 = .ok (.iinc 7 1, 3) := by decide +kernel
theorem dX0_hasInLayer_113 : decode cX0_hasInLayer 113 = .ok (.goto (-72), 3) := by decide +kernel
theorem dX0_hasInLayer_116 : decode cX0_hasInLayer 116 = .ok (.iload 6, 2) := by decide +kernel
theorem dX0_hasInLayer_118 : decode cX0_hasInLayer 118 = .ok (.ireturn, 1) := by decide +kernel
theorem dX0_newestLayer_0 : decode cX0_newestLayer 0 = .ok (.iload_n 0, 1) := by decide +kernel
theorem dX0_newestLayer_1 : decode cX0_newestLayer 1 = .ok (.iload_n 0, 1) := by decide +kernel
theorem dX0_newestLayer_2 : decode cX0_newestLayer 2 = .ok (.ineg, 1) := by decide +kernel
theorem dX0_newestLayer_3 : decode cX0_newestLayer 3 = .ok (.iand, 1) := by decide +kernel
theorem dX0_newestLayer_4 : decode cX0_newestLayer 4 = .ok (.ireturn, 1) := by decide +kernel
theorem dX0_layerStart_0 : decode cX0_layerStart 0 = .ok (.iload_n 0, 1) := by decide +kernel
theorem dX0_layerStart_1 : decode cX0_layerStart 1 = .ok (.iconst 2, 1) := by decide +kernel
theorem dX0_layerStart_2 : decode cX0_layerStart 2 = .ok (.iload_n 1, 1) := by decide +kernel
theorem dX0_layerStart_3 : decode cX0_layerStart 3 = .ok (.imul, 1) := by decide +kernel
theorem dX0_layerStart_4 : decode cX0_layerStart 4 = .ok (.ineg, 1) := by decide +kernel
theorem dX0_layerStart_5 : decode cX0_layerStart 5 = .ok (.iand, 1) := by decide +kernel
theorem dX0_layerStart_6 : decode cX0_layerStart 6 = .ok (.ireturn, 1) := by decide +kernel
theorem dX0_copyFrom_0 : decode cX0_copyFrom 0 = .ok (.aload_n 1, 1) := by decide +kernel
theorem dX0_copyFrom_1 : decode cX0_copyFrom 1 = .ok (.getfield 27, 3) := by decide +kernel
theorem dX0_copyFrom_4 : decode cX0_copyFrom 4 = .ok (.istore_n 2, 1) := by decide +kernel
theorem dX0_copyFrom_5 : decode cX0_copyFrom 5 = .ok (.aload_n 1, 1) := by decide +kernel
theorem dX0_copyFrom_6 : decode cX0_copyFrom 6 = .ok (.getfield 11, 3) := by decide +kernel
theorem dX0_copyFrom_9 : decode cX0_copyFrom 9 = .ok (.iconst 0, 1) := by decide +kernel
theorem dX0_copyFrom_10 : decode cX0_copyFrom 10 = .ok (.aload_n 0, 1) := by decide +kernel
theorem dX0_copyFrom_11 : decode cX0_copyFrom 11 = .ok (.getfield 11, 3) := by decide +kernel
theorem dX0_copyFrom_14 : decode cX0_copyFrom 14 = .ok (.iconst 0, 1) := by decide +kernel
theorem dX0_copyFrom_15 : decode cX0_copyFrom 15 = .ok (.iload_n 2, 1) := by decide +kernel
theorem dX0_copyFrom_16 : decode cX0_copyFrom 16 = .ok (.invokestatic 90, 3) := by decide +kernel
theorem dX0_copyFrom_19 : decode cX0_copyFrom 19 = .ok (.aload_n 1, 1) := by decide +kernel
theorem dX0_copyFrom_20 : decode cX0_copyFrom 20 = .ok (.getfield 15, 3) := by decide +kernel
theorem dX0_copyFrom_23 : decode cX0_copyFrom 23 = .ok (.iconst 0, 1) := by decide +kernel
theorem dX0_copyFrom_24 : decode cX0_copyFrom 24 = .ok (.aload_n 0, 1) := by decide +kernel
theorem dX0_copyFrom_25 : decode cX0_copyFrom 25 = .ok (.getfield 15, 3) := by decide +kernel
theorem dX0_copyFrom_28 : decode cX0_copyFrom 28 = .ok (.iconst 0, 1) := by decide +kernel
theorem dX0_copyFrom_29 : decode cX0_copyFrom 29 = .ok (.iload_n 2, 1) := by decide +kernel
theorem dX0_copyFrom_30 : decode cX0_copyFrom 30 = .ok (.invokestatic 90, 3) := by decide +kernel
theorem dX0_copyFrom_33 : decode cX0_copyFrom 33 = .ok (.aload_n 1, 1) := by decide +kernel
theorem dX0_copyFrom_34 : decode cX0_copyFrom 34 = .ok (.getfield 18, 3) := by decide +kernel
theorem dX0_copyFrom_37 : decode cX0_copyFrom 37 = .ok (.iconst 0, 1) := by decide +kernel
theorem dX0_copyFrom_38 : decode cX0_copyFrom 38 = .ok (.aload_n 0, 1) := by decide +kernel
theorem dX0_copyFrom_39 : decode cX0_copyFrom 39 = .ok (.getfield 18, 3) := by decide +kernel
theorem dX0_copyFrom_42 : decode cX0_copyFrom 42 = .ok (.iconst 0, 1) := by decide +kernel
theorem dX0_copyFrom_43 : decode cX0_copyFrom 43 = .ok (.iload_n 2, 1) := by decide +kernel
theorem dX0_copyFrom_44 : decode cX0_copyFrom 44 = .ok (.invokestatic 90, 3) := by decide +kernel
theorem dX0_copyFrom_47 : decode cX0_copyFrom 47 = .ok (.aload_n 1, 1) := by decide +kernel
theorem dX0_copyFrom_48 : decode cX0_copyFrom 48 = .ok (.getfield 21, 3) := by decide +kernel
theorem dX0_copyFrom_51 : decode cX0_copyFrom 51 = .ok (.iconst 0, 1) := by decide +kernel
theorem dX0_copyFrom_52 : decode cX0_copyFrom 52 = .ok (.aload_n 0, 1) := by decide +kernel
theorem dX0_copyFrom_53 : decode cX0_copyFrom 53 = .ok (.getfield 21, 3) := by decide +kernel
theorem dX0_copyFrom_56 : decode cX0_copyFrom 56 = .ok (.iconst 0, 1) := by decide +kernel
theorem dX0_copyFrom_57 : decode cX0_copyFrom 57 = .ok (.iload_n 2, 1) := by decide +kernel
theorem dX0_copyFrom_58 : decode cX0_copyFrom 58 = .ok (.invokestatic 90, 3) := by decide +kernel
theorem dX0_copyFrom_61 : decode cX0_copyFrom 61 = .ok (.aload_n 1, 1) := by decide +kernel
theorem dX0_copyFrom_62 : decode cX0_copyFrom 62 = .ok (.getfield 24, 3) := by decide +kernel
theorem dX0_copyFrom_65 : decode cX0_copyFrom 65 = .ok (.iconst 0, 1) := by decide +kernel
theorem dX0_copyFrom_66 : decode cX0_copyFrom 66 = .ok (.aload_n 0, 1) := by decide +kernel
theorem dX0_copyFrom_67 : decode cX0_copyFrom 67 = .ok (.getfield 24, 3) := by decide +kernel
theorem dX0_copyFrom_70 : decode cX0_copyFrom 70 = .ok (.iconst 0, 1) := by decide +kernel
theorem dX0_copyFrom_71 : decode cX0_copyFrom 71 = .ok (.iload_n 2, 1) := by decide +kernel
theorem dX0_copyFrom_72 : decode cX0_copyFrom 72 = .ok (.invokestatic 90, 3) := by decide +kernel
theorem dX0_copyFrom_75 : decode cX0_copyFrom 75 = .ok (.aload_n 0, 1) := by decide +kernel
theorem dX0_copyFrom_76 : decode cX0_copyFrom 76 = .ok (.iload_n 2, 1) := by decide +kernel
theorem dX0_copyFrom_77 : decode cX0_copyFrom 77 = .ok (.putfield 27, 3) := by decide +kernel
theorem dX0_copyFrom_80 : decode cX0_copyFrom 80 = .ok (.aload_n 0, 1) := by decide +kernel
theorem dX0_copyFrom_81 : decode cX0_copyFrom 81 = .ok (.aload_n 1, 1) := by decide +kernel
theorem dX0_copyFrom_82 : decode cX0_copyFrom 82 = .ok (.getfield 31, 3) := by decide +kernel
theorem dX0_copyFrom_85 : decode cX0_copyFrom 85 = .ok (.putfield 31, 3) := by decide +kernel
theorem dX0_copyFrom_88 : decode cX0_copyFrom 88 = .ok (.aload_n 0, 1) := by decide +kernel
theorem dX0_copyFrom_89 : decode cX0_copyFrom 89 = .ok (.aload_n 1, 1) := by decide +kernel
theorem dX0_copyFrom_90 : decode cX0_copyFrom 90 = .ok (.getfield 48, 3) := by decide +kernel
theorem dX0_copyFrom_93 : decode cX0_copyFrom 93 = .ok (.putfield 48, 3) := by decide +kernel
theorem dX0_copyFrom_96 : decode cX0_copyFrom 96 = .ok (.aload_n 0, 1) := by decide +kernel
theorem dX0_copyFrom_97 : decode cX0_copyFrom 97 = .ok (.aload_n 1, 1) := by decide +kernel
theorem dX0_copyFrom_98 : decode cX0_copyFrom 98 = .ok (.getfield 62, 3) := by decide +kernel
theorem dX0_copyFrom_101 : decode cX0_copyFrom 101 = .ok (.putfield 62, 3) := by decide +kernel
theorem dX0_copyFrom_104 : decode cX0_copyFrom 104 = .ok (.aload_n 0, 1) := by decide +kernel
theorem dX0_copyFrom_105 : decode cX0_copyFrom 105 = .ok (.aload_n 1, 1) := by decide +kernel
theorem dX0_copyFrom_106 : decode cX0_copyFrom 106 = .ok (.getfield 65, 3) := by decide +kernel
theorem dX0_copyFrom_109 : decode cX0_copyFrom 109 = .ok (.putfield 65, 3) := by decide +kernel
theorem dX0_copyFrom_112 : decode cX0_copyFrom 112 = .ok (.aload_n 0, 1) := by decide +kernel
theorem dX0_copyFrom_113 : decode cX0_copyFrom 113 = .ok (.aload_n 1, 1) := by decide +kernel
theorem dX0_copyFrom_114 : decode cX0_copyFrom 114 = .ok (.getfield 34, 3) := by decide +kernel
theorem dX0_copyFrom_117 : decode cX0_copyFrom 117 = .ok (.putfield 34, 3) := by decide +kernel
theorem dX0_copyFrom_120 : decode cX0_copyFrom 120 = .ok (.return_, 1) := by decide +kernel
theorem dX1_init_0 : decode cX1_init 0 = .ok (.aload_n 0, 1) := by decide +kernel
theorem dX1_init_1 : decode cX1_init 1 = .ok (.invokespecial 3, 3) := by decide +kernel
theorem dX1_init_4 : decode cX1_init 4 = .ok (.aload_n 0, 1) := by decide +kernel
theorem dX1_init_5 : decode cX1_init 5 = .ok (.lconst 0, 1) := by decide +kernel
theorem dX1_init_6 : decode cX1_init 6 = .ok (.putfield 9, 3) := by decide +kernel
theorem dX1_init_9 : decode cX1_init 9 = .ok (.aload_n 0, 1) := by decide +kernel
theorem dX1_init_10 : decode cX1_init 10 = .ok (.lconst 1, 1) := by decide +kernel
theorem dX1_init_11 : decode cX1_init 11 = .ok (.putfield 15, 3) := by decide +kernel
theorem dX1_init_14 : decode cX1_init 14 = .ok (.return_, 1) := by decide +kernel
theorem dX1_becomeOdds_0 : decode cX1_becomeOdds 0 = .ok (.lconst 1, 1) := by decide +kernel
theorem dX1_becomeOdds_1 : decode cX1_becomeOdds 1 = .ok (.lstore 4, 2) := by decide +kernel
theorem dX1_becomeOdds_3 : decode cX1_becomeOdds 3 = .ok (.lconst 0, 1) := by decide +kernel
theorem dX1_becomeOdds_4 : decode cX1_becomeOdds 4 = .ok (.lstore 6, 2) := by decide +kernel
theorem dX1_becomeOdds_6 : decode cX1_becomeOdds 6 = .ok (.iconst 0, 1) := by decide +kernel
theorem dX1_becomeOdds_7 : decode cX1_becomeOdds 7 = .ok (.istore 8, 2) := by decide +kernel
theorem dX1_becomeOdds_9 : decode cX1_becomeOdds 9 = .ok (.iload 8, 2) := by decide +kernel
theorem dX1_becomeOdds_11 : decode cX1_becomeOdds 11 = .ok (.iload_n 1, 1) := by decide +kernel
theorem dX1_becomeOdds_12 : decode cX1_becomeOdds 12 = .ok (.if_icmp .gt 59, 3) := by decide +kernel
theorem dX1_becomeOdds_15 : decode cX1_becomeOdds 15 = .ok (.iload 8, 2) := by decide +kernel
theorem dX1_becomeOdds_17 : decode cX1_becomeOdds 17 = .ok (.iload_n 2, 1) := by decide +kernel
theorem dX1_becomeOdds_18 : decode cX1_becomeOdds 18 = .ok (.if_icmp .lt 31, 3) := by decide +kernel
theorem dX1_becomeOdds_21 : decode cX1_becomeOdds 21 = .ok (.lload 6, 2) := by decide +kernel
theorem dX1_becomeOdds_23 : decode cX1_becomeOdds 23 = .ok (.lload 4, 2) := by decide +kernel
theorem dX1_becomeOdds_25 : decode cX1_becomeOdds 25 = .ok (.iload_n 3, 1) := by decide +kernel
theorem dX1_becomeOdds_26 : decode cX1_becomeOdds 26 = .ok (.i2l, 1) := by decide +kernel
theorem dX1_becomeOdds_27 : decode cX1_becomeOdds 27 = .ok (.iload 8, 2) := by decide +kernel
theorem dX1_becomeOdds_29 : decode cX1_becomeOdds 29 = .ok (.invokestatic 18, 3) := by decide +kernel
theorem dX1_becomeOdds_32 : decode cX1_becomeOdds 32 = .ok (.lmul, 1) := by decide +kernel
theorem dX1_becomeOdds_33 : decode cX1_becomeOdds 33 = .ok (.bipush 10, 2) := by decide +kernel
theorem dX1_becomeOdds_35 : decode cX1_becomeOdds 35 = .ok (.iload_n 3, 1) := by decide +kernel
theorem dX1_becomeOdds_36 : decode cX1_becomeOdds 36 = .ok (.isub, 1) := by decide +kernel
theorem dX1_becomeOdds_37 : decode cX1_becomeOdds 37 = .ok (.i2l, 1) := by decide +kernel
theorem dX1_becomeOdds_38 : decode cX1_becomeOdds 38 = .ok (.iload_n 1, 1) := by decide +kernel
theorem dX1_becomeOdds_39 : decode cX1_becomeOdds 39 = .ok (.iload 8, 2) := by decide +kernel
theorem dX1_becomeOdds_41 : decode cX1_becomeOdds 41 = .ok (.isub, 1) := by decide +kernel
theorem dX1_becomeOdds_42 : decode cX1_becomeOdds 42 = .ok (.invokestatic 18, 3) := by decide +kernel
theorem dX1_becomeOdds_45 : decode cX1_becomeOdds 45 = .ok (.lmul, 1) := by decide +kernel
theorem dX1_becomeOdds_46 : decode cX1_becomeOdds 46 = .ok (.ladd, 1) := by decide +kernel
theorem dX1_becomeOdds_47 : decode cX1_becomeOdds 47 = .ok (.lstore 6, 2) := by decide +kernel
theorem dX1_becomeOdds_49 : decode cX1_becomeOdds 49 = .ok (.lload 4, 2) := by decide +kernel
theorem dX1_becomeOdds_51 : decode cX1_becomeOdds 51 = .ok (.iload_n 1, 1) := by decide +kernel
theorem dX1_becomeOdds_52 : decode cX1_becomeOdds 52 = .ok (.iload 8, 2) := by decide +kernel
theorem dX1_becomeOdds_54 : decode cX1_becomeOdds 54 = .ok (.isub, 1) := by decide +kernel
theorem dX1_becomeOdds_55 : decode cX1_becomeOdds 55 = .ok (.i2l, 1) := by decide +kernel
theorem dX1_becomeOdds_56 : decode cX1_becomeOdds 56 = .ok (.lmul, 1) := by decide +kernel
theorem dX1_becomeOdds_57 : decode cX1_becomeOdds 57 = .ok (.iload 8, 2) := by decide +kernel
theorem dX1_becomeOdds_59 : decode cX1_becomeOdds 59 = .ok (.iconst 1, 1) := by decide +kernel
theorem dX1_becomeOdds_60 : decode cX1_becomeOdds 60 = .ok (.iadd, 1) := by decide +kernel
theorem dX1_becomeOdds_61 : decode cX1_becomeOdds 61 = .ok (.i2l, 1) := by decide +kernel
theorem dX1_becomeOdds_62 : decode cX1_becomeOdds 62 = .ok (.ldiv, 1) := by decide +kernel
theorem dX1_becomeOdds_63 : decode cX1_becomeOdds 63 = .ok (.lstore 4, 2) := by decide +kernel
theorem dX1_becomeOdds_65 : decode cX1_becomeOdds 65 = .ok (.iinc 8 1, 3) := by decide +kernel
theorem dX1_becomeOdds_68 : decode cX1_becomeOdds 68 = .ok (.goto (-59), 3) := by decide +kernel
theorem dX1_becomeOdds_71 : decode cX1_becomeOdds 71 = .ok (.ldc2_w 22, 3) := by decide +kernel
theorem dX1_becomeOdds_74 : decode cX1_becomeOdds 74 = .ok (.iload_n 1, 1) := by decide +kernel
theorem dX1_becomeOdds_75 : decode cX1_becomeOdds 75 = .ok (.invokestatic 18, 3) := by decide +kernel
theorem dX1_becomeOdds_78 : decode cX1_becomeOdds 78 = .ok (.lstore 8, 2) := by decide +kernel
theorem dX1_becomeOdds_80 : decode cX1_becomeOdds 80 = .ok (.lload 6, 2) := by decide +kernel
theorem dX1_becomeOdds_82 : decode cX1_becomeOdds 82 = .ok (.lload 8, 2) := by decide +kernel
theorem dX1_becomeOdds_84 : decode cX1_becomeOdds 84 = .ok (.invokestatic 24, 3) := by decide +kernel
theorem dX1_becomeOdds_87 : decode cX1_becomeOdds 87 = .ok (.lstore 10, 2) := by decide +kernel
theorem dX1_becomeOdds_89 : decode cX1_becomeOdds 89 = .ok (.lload 10, 2) := by decide +kernel
theorem dX1_becomeOdds_91 : decode cX1_becomeOdds 91 = .ok (.lconst 0, 1) := by decide +kernel
theorem dX1_becomeOdds_92 : decode cX1_becomeOdds 92 = .ok (.lcmp, 1) := by decide +kernel
theorem dX1_becomeOdds_93 : decode cX1_becomeOdds 93 = .ok (.ifCond .le 21, 3) := by decide +kernel
theorem dX1_becomeOdds_96 : decode cX1_becomeOdds 96 = .ok (.aload_n 0, 1) := by decide +kernel
theorem dX1_becomeOdds_97 : decode cX1_becomeOdds 97 = .ok (.lload 6, 2) := by decide +kernel
theorem dX1_becomeOdds_99 : decode cX1_becomeOdds 99 = .ok (.lload 10, 2) := by decide +kernel
theorem dX1_becomeOdds_101 : decode cX1_becomeOdds 101 = .ok (.ldiv, 1) := by decide +kernel
theorem dX1_becomeOdds_102 : decode cX1_becomeOdds 102 = .ok (.putfield 9, 3) := by decide +kernel
theorem dX1_becomeOdds_105 : decode cX1_becomeOdds 105 = .ok (.aload_n 0, 1) := by decide +kernel
theorem dX1_becomeOdds_106 : decode cX1_becomeOdds 106 = .ok (.lload 8, 2) := by decide +kernel
theorem dX1_becomeOdds_108 : decode cX1_becomeOdds 108 = .ok (.lload 10, 2) := by decide +kernel
theorem dX1_becomeOdds_110 : decode cX1_becomeOdds 110 = .ok (.ldiv, 1) := by decide +kernel
theorem dX1_becomeOdds_111 : decode cX1_becomeOdds 111 = .ok (.putfield 15, 3) := by decide +kernel
theorem dX1_becomeOdds_114 : decode cX1_becomeOdds 114 = .ok (.return_, 1) := by decide +kernel
theorem dX1_power_0 : decode cX1_power 0 = .ok (.lconst 1, 1) := by decide +kernel
theorem dX1_power_1 : decode cX1_power 1 = .ok (.lstore_n 3, 1) := by decide +kernel
theorem dX1_power_2 : decode cX1_power 2 = .ok (.iconst 0, 1) := by decide +kernel
theorem dX1_power_3 : decode cX1_power 3 = .ok (.istore 5, 2) := by decide +kernel
theorem dX1_power_5 : decode cX1_power 5 = .ok (.iload 5, 2) := by decide +kernel
theorem dX1_power_7 : decode cX1_power 7 = .ok (.iload_n 2, 1) := by decide +kernel
theorem dX1_power_8 : decode cX1_power 8 = .ok (.if_icmp .ge 13, 3) := by decide +kernel
theorem dX1_power_11 : decode cX1_power 11 = .ok (.lload_n 3, 1) := by decide +kernel
theorem dX1_power_12 : decode cX1_power 12 = .ok (.lload_n 0, 1) := by decide +kernel
theorem dX1_power_13 : decode cX1_power 13 = .ok (.lmul, 1) := by decide +kernel
theorem dX1_power_14 : decode cX1_power 14 = .ok (.lstore_n 3, 1) := by decide +kernel
theorem dX1_power_15 : decode cX1_power 15 = .ok (.iinc 5 1, 3) := by decide +kernel
theorem dX1_power_18 : decode cX1_power 18 = .ok (.goto (-13), 3) := by decide +kernel
theorem dX1_power_21 : decode cX1_power 21 = .ok (.lload_n 3, 1) := by decide +kernel
theorem dX1_power_22 : decode cX1_power 22 = .ok (.lreturn, 1) := by decide +kernel
theorem dX1_divisorOf_0 : decode cX1_divisorOf 0 = .ok (.lload_n 0, 1) := by decide +kernel
theorem dX1_divisorOf_1 : decode cX1_divisorOf 1 = .ok (.lstore 4, 2) := by decide +kernel
theorem dX1_divisorOf_3 : decode cX1_divisorOf 3 = .ok (.lload_n 2, 1) := by decide +kernel
theorem dX1_divisorOf_4 : decode cX1_divisorOf 4 = .ok (.lstore 6, 2) := by decide +kernel
theorem dX1_divisorOf_6 : decode cX1_divisorOf 6 = .ok (.iconst 0, 1) := by decide +kernel
theorem dX1_divisorOf_7 : decode cX1_divisorOf 7 = .ok (.istore 8, 2) := by decide +kernel
theorem dX1_divisorOf_9 : decode cX1_divisorOf 9 = .ok (.iload 8, 2) := by decide +kernel
theorem dX1_divisorOf_11 : decode cX1_divisorOf 11 = .ok (.sipush 200, 3) := by decide +kernel
theorem dX1_divisorOf_14 : decode cX1_divisorOf 14 = .ok (.if_icmp .ge 31, 3) := by decide +kernel
theorem dX1_divisorOf_17 : decode cX1_divisorOf 17 = .ok (.lload 6, 2) := by decide +kernel
theorem dX1_divisorOf_19 : decode cX1_divisorOf 19 = .ok (.lconst 0, 1) := by decide +kernel
theorem dX1_divisorOf_20 : decode cX1_divisorOf 20 = .ok (.lcmp, 1) := by decide +kernel
theorem dX1_divisorOf_21 : decode cX1_divisorOf 21 = .ok (.ifCond .eq 24, 3) := by decide +kernel
theorem dX1_divisorOf_24 : decode cX1_divisorOf 24 = .ok (.lload 4, 2) := by decide +kernel
theorem dX1_divisorOf_26 : decode cX1_divisorOf 26 = .ok (.lload 6, 2) := by decide +kernel
theorem dX1_divisorOf_28 : decode cX1_divisorOf 28 = .ok (.lrem, 1) := by decide +kernel
theorem dX1_divisorOf_29 : decode cX1_divisorOf 29 = .ok (.lstore 9, 2) := by decide +kernel
theorem dX1_divisorOf_31 : decode cX1_divisorOf 31 = .ok (.lload 6, 2) := by decide +kernel
theorem dX1_divisorOf_33 : decode cX1_divisorOf 33 = .ok (.lstore 4, 2) := by decide +kernel
theorem dX1_divisorOf_35 : decode cX1_divisorOf 35 = .ok (.lload 9, 2) := by decide +kernel
theorem dX1_divisorOf_37 : decode cX1_divisorOf 37 = .ok (.lstore 6, 2) := by decide +kernel
theorem dX1_divisorOf_39 : decode cX1_divisorOf 39 = .ok (.iinc 8 1, 3) := by decide +kernel
theorem dX1_divisorOf_42 : decode cX1_divisorOf 42 = .ok (.goto (-33), 3) := by decide +kernel
theorem dX1_divisorOf_45 : decode cX1_divisorOf 45 = .ok (.lload 4, 2) := by decide +kernel
theorem dX1_divisorOf_47 : decode cX1_divisorOf 47 = .ok (.lreturn, 1) := by decide +kernel
theorem dX2_init_0 : decode cX2_init 0 = .ok (.aload_n 0, 1) := by decide +kernel
theorem dX2_init_1 : decode cX2_init 1 = .ok (.invokespecial 3, 3) := by decide +kernel
theorem dX2_init_4 : decode cX2_init 4 = .ok (.aload_n 0, 1) := by decide +kernel
theorem dX2_init_5 : decode cX2_init 5 = .ok (.bipush 8, 2) := by decide +kernel
theorem dX2_init_7 : decode cX2_init 7 = .ok (.anewarray 9, 3) := by decide +kernel
theorem dX2_init_10 : decode cX2_init 10 = .ok (.putfield 11, 3) := by decide +kernel
theorem dX2_init_13 : decode cX2_init 13 = .ok (.iconst 0, 1) := by decide +kernel
theorem dX2_init_14 : decode cX2_init 14 = .ok (.istore_n 1, 1) := by decide +kernel
theorem dX2_init_15 : decode cX2_init 15 = .ok (.iload_n 1, 1) := by decide +kernel
theorem dX2_init_16 : decode cX2_init 16 = .ok (.bipush 8, 2) := by decide +kernel
theorem dX2_init_18 : decode cX2_init 18 = .ok (.if_icmp .ge 22, 3) := by decide +kernel
theorem dX2_init_21 : decode cX2_init 21 = .ok (.aload_n 0, 1) := by decide +kernel
theorem dX2_init_22 : decode cX2_init 22 = .ok (.getfield 11, 3) := by decide +kernel
theorem dX2_init_25 : decode cX2_init 25 = .ok (.iload_n 1, 1) := by decide +kernel
theorem dX2_init_26 : decode cX2_init 26 = .ok (.new 9, 3) := by decide +kernel
theorem dX2_init_29 : decode cX2_init 29 = .ok (.dup, 1) := by decide +kernel
theorem dX2_init_30 : decode cX2_init 30 = .ok (.invokespecial 17, 3) := by decide +kernel
theorem dX2_init_33 : decode cX2_init 33 = .ok (.aastore, 1) := by decide +kernel
theorem dX2_init_34 : decode cX2_init 34 = .ok (.iinc 1 1, 3) := by decide +kernel
theorem dX2_init_37 : decode cX2_init 37 = .ok (.goto (-22), 3) := by decide +kernel
theorem dX2_init_40 : decode cX2_init 40 = .ok (.return_, 1) := by decide +kernel
theorem dX2_keep_0 : decode cX2_keep 0 = .ok (.aload_n 0, 1) := by decide +kernel
theorem dX2_keep_1 : decode cX2_keep 1 = .ok (.getfield 11, 3) := by decide +kernel
theorem dX2_keep_4 : decode cX2_keep 4 = .ok (.aload_n 0, 1) := by decide +kernel
theorem dX2_keep_5 : decode cX2_keep 5 = .ok (.getfield 18, 3) := by decide +kernel
theorem dX2_keep_8 : decode cX2_keep 8 = .ok (.aload_n 0, 1) := by decide +kernel
theorem dX2_keep_9 : decode cX2_keep 9 = .ok (.getfield 22, 3) := by decide +kernel
theorem dX2_keep_12 : decode cX2_keep 12 = .ok (.iadd, 1) := by decide +kernel
theorem dX2_keep_13 : decode cX2_keep 13 = .ok (.bipush 8, 2) := by decide +kernel
theorem dX2_keep_15 : decode cX2_keep 15 = .ok (.irem, 1) := by decide +kernel
theorem dX2_keep_16 : decode cX2_keep 16 = .ok (.aaload, 1) := by decide +kernel
theorem dX2_keep_17 : decode cX2_keep 17 = .ok (.aload_n 1, 1) := by decide +kernel
theorem dX2_keep_18 : decode cX2_keep 18 = .ok (.invokevirtual 25, 3) := by decide +kernel
theorem dX2_keep_21 : decode cX2_keep 21 = .ok (.aload_n 0, 1) := by decide +kernel
theorem dX2_keep_22 : decode cX2_keep 22 = .ok (.getfield 22, 3) := by decide +kernel
theorem dX2_keep_25 : decode cX2_keep 25 = .ok (.bipush 8, 2) := by decide +kernel
theorem dX2_keep_27 : decode cX2_keep 27 = .ok (.if_icmp .ge 16, 3) := by decide +kernel
theorem dX2_keep_30 : decode cX2_keep 30 = .ok (.aload_n 0, 1) := by decide +kernel
theorem dX2_keep_31 : decode cX2_keep 31 = .ok (.dup, 1) := by decide +kernel
theorem dX2_keep_32 : decode cX2_keep 32 = .ok (.getfield 22, 3) := by decide +kernel
theorem dX2_keep_35 : decode cX2_keep 35 = .ok (.iconst 1, 1) := by decide +kernel
theorem dX2_keep_36 : decode cX2_keep 36 = .ok (.iadd, 1) := by decide +kernel
theorem dX2_keep_37 : decode cX2_keep 37 = .ok (.putfield 22, 3) := by decide +kernel
theorem dX2_keep_40 : decode cX2_keep 40 = .ok (.goto 16, 3) := by decide +kernel
theorem dX2_keep_43 : decode cX2_keep 43 = .ok (.aload_n 0, 1) := by decide +kernel
theorem dX2_keep_44 : decode cX2_keep 44 = .ok (.aload_n 0, 1) := by decide +kernel
theorem dX2_keep_45 : decode cX2_keep 45 = .ok (.getfield 18, 3) := by decide +kernel
theorem dX2_keep_48 : decode cX2_keep 48 = .ok (.iconst 1, 1) := by decide +kernel
theorem dX2_keep_49 : decode cX2_keep 49 = .ok (.iadd, 1) := by decide +kernel
theorem dX2_keep_50 : decode cX2_keep 50 = .ok (.bipush 8, 2) := by decide +kernel
theorem dX2_keep_52 : decode cX2_keep 52 = .ok (.irem, 1) := by decide +kernel
theorem dX2_keep_53 : decode cX2_keep 53 = .ok (.putfield 18, 3) := by decide +kernel
theorem dX2_keep_56 : decode cX2_keep 56 = .ok (.return_, 1) := by decide +kernel
theorem dX2_bringBack_0 : decode cX2_bringBack 0 = .ok (.aload_n 0, 1) := by decide +kernel
theorem dX2_bringBack_1 : decode cX2_bringBack 1 = .ok (.getfield 22, 3) := by decide +kernel
theorem dX2_bringBack_4 : decode cX2_bringBack 4 = .ok (.ifCond .le 34, 3) := by decide +kernel
theorem dX2_bringBack_7 : decode cX2_bringBack 7 = .ok (.aload_n 0, 1) := by decide +kernel
theorem dX2_bringBack_8 : decode cX2_bringBack 8 = .ok (.dup, 1) := by decide +kernel
theorem dX2_bringBack_9 : decode cX2_bringBack 9 = .ok (.getfield 22, 3) := by decide +kernel
theorem dX2_bringBack_12 : decode cX2_bringBack 12 = .ok (.iconst 1, 1) := by decide +kernel
theorem dX2_bringBack_13 : decode cX2_bringBack 13 = .ok (.isub, 1) := by decide +kernel
theorem dX2_bringBack_14 : decode cX2_bringBack 14 = .ok (.putfield 22, 3) := by decide +kernel
theorem dX2_bringBack_17 : decode cX2_bringBack 17 = .ok (.aload_n 1, 1) := by decide +kernel
theorem dX2_bringBack_18 : decode cX2_bringBack 18 = .ok (.aload_n 0, 1) := by decide +kernel
theorem dX2_bringBack_19 : decode cX2_bringBack 19 = .ok (.getfield 11, 3) := by decide +kernel
theorem dX2_bringBack_22 : decode cX2_bringBack 22 = .ok (.aload_n 0, 1) := by decide +kernel
theorem dX2_bringBack_23 : decode cX2_bringBack 23 = .ok (.getfield 18, 3) := by decide +kernel
theorem dX2_bringBack_26 : decode cX2_bringBack 26 = .ok (.aload_n 0, 1) := by decide +kernel
theorem dX2_bringBack_27 : decode cX2_bringBack 27 = .ok (.getfield 22, 3) := by decide +kernel
theorem dX2_bringBack_30 : decode cX2_bringBack 30 = .ok (.iadd, 1) := by decide +kernel
theorem dX2_bringBack_31 : decode cX2_bringBack 31 = .ok (.bipush 8, 2) := by decide +kernel
theorem dX2_bringBack_33 : decode cX2_bringBack 33 = .ok (.irem, 1) := by decide +kernel
theorem dX2_bringBack_34 : decode cX2_bringBack 34 = .ok (.aaload, 1) := by decide +kernel
theorem dX2_bringBack_35 : decode cX2_bringBack 35 = .ok (.invokevirtual 25, 3) := by decide +kernel
theorem dX2_bringBack_38 : decode cX2_bringBack 38 = .ok (.return_, 1) := by decide +kernel
theorem dX2_forget_0 : decode cX2_forget 0 = .ok (.aload_n 0, 1) := by decide +kernel
theorem dX2_forget_1 : decode cX2_forget 1 = .ok (.iconst 0, 1) := by decide +kernel
theorem dX2_forget_2 : decode cX2_forget 2 = .ok (.putfield 22, 3) := by decide +kernel
theorem dX2_forget_5 : decode cX2_forget 5 = .ok (.return_, 1) := by decide +kernel
theorem dX3_init_0 : decode cX3_init 0 = .ok (.aload_n 0, 1) := by decide +kernel
theorem dX3_init_1 : decode cX3_init 1 = .ok (.invokespecial 1, 3) := by decide +kernel
theorem dX3_init_4 : decode cX3_init 4 = .ok (.aload_n 0, 1) := by decide +kernel
theorem dX3_init_5 : decode cX3_init 5 = .ok (.new 7, 3) := by decide +kernel
theorem dX3_init_8 : decode cX3_init 8 = .ok (.dup, 1) := by decide +kernel
theorem dX3_init_9 : decode cX3_init 9 = .ok (.invokespecial 9, 3) := by decide +kernel
theorem dX3_init_12 : decode cX3_init 12 = .ok (.putfield 10, 3) := by decide +kernel
theorem dX3_init_15 : decode cX3_init 15 = .ok (.aload_n 0, 1) := by decide +kernel
theorem dX3_init_16 : decode cX3_init 16 = .ok (.new 16, 3) := by decide +kernel
theorem dX3_init_19 : decode cX3_init 19 = .ok (.dup, 1) := by decide +kernel
theorem dX3_init_20 : decode cX3_init 20 = .ok (.invokespecial 18, 3) := by decide +kernel
theorem dX3_init_23 : decode cX3_init 23 = .ok (.putfield 19, 3) := by decide +kernel
theorem dX3_init_26 : decode cX3_init 26 = .ok (.return_, 1) := by decide +kernel
theorem dX3_keep_0 : decode cX3_keep 0 = .ok (.aload_n 0, 1) := by decide +kernel
theorem dX3_keep_1 : decode cX3_keep 1 = .ok (.getfield 10, 3) := by decide +kernel
theorem dX3_keep_4 : decode cX3_keep 4 = .ok (.aload_n 1, 1) := by decide +kernel
theorem dX3_keep_5 : decode cX3_keep 5 = .ok (.invokevirtual 23, 3) := by decide +kernel
theorem dX3_keep_8 : decode cX3_keep 8 = .ok (.aload_n 0, 1) := by decide +kernel
theorem dX3_keep_9 : decode cX3_keep 9 = .ok (.getfield 19, 3) := by decide +kernel
theorem dX3_keep_12 : decode cX3_keep 12 = .ok (.aload_n 2, 1) := by decide +kernel
theorem dX3_keep_13 : decode cX3_keep 13 = .ok (.invokevirtual 27, 3) := by decide +kernel
theorem dX3_keep_16 : decode cX3_keep 16 = .ok (.aload_n 0, 1) := by decide +kernel
theorem dX3_keep_17 : decode cX3_keep 17 = .ok (.iconst 1, 1) := by decide +kernel
theorem dX3_keep_18 : decode cX3_keep 18 = .ok (.putfield 30, 3) := by decide +kernel
theorem dX3_keep_21 : decode cX3_keep 21 = .ok (.return_, 1) := by decide +kernel
theorem dX3_bringBack_0 : decode cX3_bringBack 0 = .ok (.aload_n 1, 1) := by decide +kernel
theorem dX3_bringBack_1 : decode cX3_bringBack 1 = .ok (.aload_n 0, 1) := by decide +kernel
theorem dX3_bringBack_2 : decode cX3_bringBack 2 = .ok (.getfield 10, 3) := by decide +kernel
theorem dX3_bringBack_5 : decode cX3_bringBack 5 = .ok (.invokevirtual 23, 3) := by decide +kernel
theorem dX3_bringBack_8 : decode cX3_bringBack 8 = .ok (.aload_n 2, 1) := by decide +kernel
theorem dX3_bringBack_9 : decode cX3_bringBack 9 = .ok (.aload_n 0, 1) := by decide +kernel
theorem dX3_bringBack_10 : decode cX3_bringBack 10 = .ok (.getfield 19, 3) := by decide +kernel
theorem dX3_bringBack_13 : decode cX3_bringBack 13 = .ok (.invokevirtual 27, 3) := by decide +kernel
theorem dX3_bringBack_16 : decode cX3_bringBack 16 = .ok (.return_, 1) := by decide +kernel
theorem dX4_init_0 : decode cX4_init 0 = .ok (.aload_n 0, 1) := by decide +kernel
theorem dX4_init_1 : decode cX4_init 1 = .ok (.invokespecial 3, 3) := by decide +kernel
theorem dX4_init_4 : decode cX4_init 4 = .ok (.aload_n 0, 1) := by decide +kernel
theorem dX4_init_5 : decode cX4_init 5 = .ok (.bipush 60, 2) := by decide +kernel
theorem dX4_init_7 : decode cX4_init 7 = .ok (.newarray .int, 2) := by decide +kernel
theorem dX4_init_9 : decode cX4_init 9 = .ok (.putfield 9, 3) := by decide +kernel
theorem dX4_init_12 : decode cX4_init 12 = .ok (.return_, 1) := by decide +kernel
theorem dX4_add_0 : decode cX4_add 0 = .ok (.aload_n 0, 1) := by decide +kernel
theorem dX4_add_1 : decode cX4_add 1 = .ok (.getfield 15, 3) := by decide +kernel
theorem dX4_add_4 : decode cX4_add 4 = .ok (.bipush 60, 2) := by decide +kernel
theorem dX4_add_6 : decode cX4_add 6 = .ok (.if_icmp .ge 23, 3) := by decide +kernel
theorem dX4_add_9 : decode cX4_add 9 = .ok (.aload_n 0, 1) := by decide +kernel
theorem dX4_add_10 : decode cX4_add 10 = .ok (.getfield 9, 3) := by decide +kernel
theorem dX4_add_13 : decode cX4_add 13 = .ok (.aload_n 0, 1) := by decide +kernel
theorem dX4_add_14 : decode cX4_add 14 = .ok (.getfield 15, 3) := by decide +kernel
theorem dX4_add_17 : decode cX4_add 17 = .ok (.iload_n 1, 1) := by decide +kernel
theorem dX4_add_18 : decode cX4_add 18 = .ok (.iastore, 1) := by decide +kernel
theorem dX4_add_19 : decode cX4_add 19 = .ok (.aload_n 0, 1) := by decide +kernel
theorem dX4_add_20 : decode cX4_add 20 = .ok (.dup, 1) := by decide +kernel
theorem dX4_add_21 : decode cX4_add 21 = .ok (.getfield 15, 3) := by decide +kernel
theorem dX4_add_24 : decode cX4_add 24 = .ok (.iconst 1, 1) := by decide +kernel
theorem dX4_add_25 : decode cX4_add 25 = .ok (.iadd, 1) := by decide +kernel
theorem dX4_add_26 : decode cX4_add 26 = .ok (.putfield 15, 3) := by decide +kernel
theorem dX4_add_29 : decode cX4_add 29 = .ok (.return_, 1) := by decide +kernel
theorem dX4_pickAll_0 : decode cX4_pickAll 0 = .ok (.aload_n 0, 1) := by decide +kernel
theorem dX4_pickAll_1 : decode cX4_pickAll 1 = .ok (.iconst 0, 1) := by decide +kernel
theorem dX4_pickAll_2 : decode cX4_pickAll 2 = .ok (.putfield 15, 3) := by decide +kernel
theorem dX4_pickAll_5 : decode cX4_pickAll 5 = .ok (.iconst 0, 1) := by decide +kernel
theorem dX4_pickAll_6 : decode cX4_pickAll 6 = .ok (.istore_n 2, 1) := by decide +kernel
theorem dX4_pickAll_7 : decode cX4_pickAll 7 = .ok (.iload_n 2, 1) := by decide +kernel
theorem dX4_pickAll_8 : decode cX4_pickAll 8 = .ok (.aload_n 1, 1) := by decide +kernel
theorem dX4_pickAll_9 : decode cX4_pickAll 9 = .ok (.getfield 19, 3) := by decide +kernel
theorem dX4_pickAll_12 : decode cX4_pickAll 12 = .ok (.if_icmp .ge 22, 3) := by decide +kernel
theorem dX4_pickAll_15 : decode cX4_pickAll 15 = .ok (.aload_n 1, 1) := by decide +kernel
theorem dX4_pickAll_16 : decode cX4_pickAll 16 = .ok (.iload_n 2, 1) := by decide +kernel
theorem dX4_pickAll_17 : decode cX4_pickAll 17 = .ok (.invokevirtual 24, 3) := by decide +kernel
theorem dX4_pickAll_20 : decode cX4_pickAll 20 = .ok (.ifCond .eq 8, 3) := by decide +kernel
theorem dX4_pickAll_23 : decode cX4_pickAll 23 = .ok (.aload_n 0, 1) := by decide +kernel
theorem dX4_pickAll_24 : decode cX4_pickAll 24 = .ok (.iload_n 2, 1) := by decide +kernel
theorem dX4_pickAll_25 : decode cX4_pickAll 25 = .ok (.invokevirtual 28, 3) := by decide +kernel
theorem dX4_pickAll_28 : decode cX4_pickAll 28 = .ok (.iinc 2 1, 3) := by decide +kernel
theorem dX4_pickAll_31 : decode cX4_pickAll 31 = .ok (.goto (-24), 3) := by decide +kernel
theorem dX4_pickAll_34 : decode cX4_pickAll 34 = .ok (.return_, 1) := by decide +kernel
theorem dX4_pickShape_0 : decode cX4_pickShape 0 = .ok (.aload_n 0, 1) := by decide +kernel
theorem dX4_pickShape_1 : decode cX4_pickShape 1 = .ok (.iconst 0, 1) := by decide +kernel
theorem dX4_pickShape_2 : decode cX4_pickShape 2 = .ok (.putfield 15, 3) := by decide +kernel
theorem dX4_pickShape_5 : decode cX4_pickShape 5 = .ok (.iconst 0, 1) := by decide +kernel
theorem dX4_pickShape_6 : decode cX4_pickShape 6 = .ok (.istore_n 3, 1) := by decide +kernel
theorem dX4_pickShape_7 : decode cX4_pickShape 7 = .ok (.iload_n 3, 1) := by decide +kernel
theorem dX4_pickShape_8 : decode cX4_pickShape 8 = .ok (.aload_n 1, 1) := by decide +kernel
theorem dX4_pickShape_9 : decode cX4_pickShape 9 = .ok (.getfield 19, 3) := by decide +kernel
theorem dX4_pickShape_12 : decode cX4_pickShape 12 = .ok (.if_icmp .ge 41, 3) := by decide +kernel
theorem dX4_pickShape_15 : decode cX4_pickShape 15 = .ok (.aload_n 1, 1) := by decide +kernel
theorem dX4_pickShape_16 : decode cX4_pickShape 16 = .ok (.iload_n 3, 1) := by decide +kernel
theorem dX4_pickShape_17 : decode cX4_pickShape 17 = .ok (.invokevirtual 24, 3) := by decide +kernel
theorem dX4_pickShape_20 : decode cX4_pickShape 20 = .ok (.ifCond .eq 27, 3) := by decide +kernel
theorem dX4_pickShape_23 : decode cX4_pickShape 23 = .ok (.aload_n 2, 1) := by decide +kernel
theorem dX4_pickShape_24 : decode cX4_pickShape 24 = .ok (.aload_n 1, 1) := by decide +kernel
theorem dX4_pickShape_25 : decode cX4_pickShape 25 = .ok (.getfield 32, 3) := by decide +kernel
theorem dX4_pickShape_28 : decode cX4_pickShape 28 = .ok (.iload_n 3, 1) := by decide +kernel
theorem dX4_pickShape_29 : decode cX4_pickShape 29 = .ok (.iaload, 1) := by decide +kernel
theorem dX4_pickShape_30 : decode cX4_pickShape 30 = .ok (.aload_n 1, 1) := by decide +kernel
theorem dX4_pickShape_31 : decode cX4_pickShape 31 = .ok (.getfield 35, 3) := by decide +kernel
theorem dX4_pickShape_34 : decode cX4_pickShape 34 = .ok (.iload_n 3, 1) := by decide +kernel
theorem dX4_pickShape_35 : decode cX4_pickShape 35 = .ok (.iaload, 1) := by decide +kernel
theorem dX4_pickShape_36 : decode cX4_pickShape 36 = .ok (.invokevirtual 38, 3) := by decide +kernel
theorem dX4_pickShape_39 : decode cX4_pickShape 39 = .ok (.ifCond .eq 8, 3) := by decide +kernel
theorem dX4_pickShape_42 : decode cX4_pickShape 42 = .ok (.aload_n 0, 1) := by decide +kernel
theorem dX4_pickShape_43 : decode cX4_pickShape 43 = .ok (.iload_n 3, 1) := by decide +kernel
theorem dX4_pickShape_44 : decode cX4_pickShape 44 = .ok (.invokevirtual 28, 3) := by decide +kernel
theorem dX4_pickShape_47 : decode cX4_pickShape 47 = .ok (.iinc 3 1, 3) := by decide +kernel
theorem dX4_pickShape_50 : decode cX4_pickShape 50 = .ok (.goto (-43), 3) := by decide +kernel
theorem dX4_pickShape_53 : decode cX4_pickShape 53 = .ok (.return_, 1) := by decide +kernel
theorem dX4_pickStairs_0 : decode cX4_pickStairs 0 = .ok (.aload_n 0, 1) := by decide +kernel
theorem dX4_pickStairs_1 : decode cX4_pickStairs 1 = .ok (.iconst 0, 1) := by decide +kernel
theorem dX4_pickStairs_2 : decode cX4_pickStairs 2 = .ok (.putfield 15, 3) := by decide +kernel
theorem dX4_pickStairs_5 : decode cX4_pickStairs 5 = .ok (.iconst 0, 1) := by decide +kernel
theorem dX4_pickStairs_6 : decode cX4_pickStairs 6 = .ok (.istore_n 3, 1) := by decide +kernel
theorem dX4_pickStairs_7 : decode cX4_pickStairs 7 = .ok (.iload_n 3, 1) := by decide +kernel
theorem dX4_pickStairs_8 : decode cX4_pickStairs 8 = .ok (.aload_n 2, 1) := by decide +kernel
theorem dX4_pickStairs_9 : decode cX4_pickStairs 9 = .ok (.getfield 15, 3) := by decide +kernel
theorem dX4_pickStairs_12 : decode cX4_pickStairs 12 = .ok (.if_icmp .ge 33, 3) := by decide +kernel
theorem dX4_pickStairs_15 : decode cX4_pickStairs 15 = .ok (.aload_n 2, 1) := by decide +kernel
theorem dX4_pickStairs_16 : decode cX4_pickStairs 16 = .ok (.aload_n 1, 1) := by decide +kernel
theorem dX4_pickStairs_17 : decode cX4_pickStairs 17 = .ok (.aload_n 2, 1) := by decide +kernel
theorem dX4_pickStairs_18 : decode cX4_pickStairs 18 = .ok (.getfield 9, 3) := by decide +kernel
theorem dX4_pickStairs_21 : decode cX4_pickStairs 21 = .ok (.iload_n 3, 1) := by decide +kernel
theorem dX4_pickStairs_22 : decode cX4_pickStairs 22 = .ok (.iaload, 1) := by decide +kernel
theorem dX4_pickStairs_23 : decode cX4_pickStairs 23 = .ok (.invokevirtual 44, 3) := by decide +kernel
theorem dX4_pickStairs_26 : decode cX4_pickStairs 26 = .ok (.ifCond .ne 13, 3) := by decide +kernel
theorem dX4_pickStairs_29 : decode cX4_pickStairs 29 = .ok (.aload_n 0, 1) := by decide +kernel
theorem dX4_pickStairs_30 : decode cX4_pickStairs 30 = .ok (.aload_n 2, 1) := by decide +kernel
theorem dX4_pickStairs_31 : decode cX4_pickStairs 31 = .ok (.getfield 9, 3) := by decide +kernel
theorem dX4_pickStairs_34 : decode cX4_pickStairs 34 = .ok (.iload_n 3, 1) := by decide +kernel
theorem dX4_pickStairs_35 : decode cX4_pickStairs 35 = .ok (.iaload, 1) := by decide +kernel
theorem dX4_pickStairs_36 : decode cX4_pickStairs 36 = .ok (.invokevirtual 28, 3) := by decide +kernel
theorem dX4_pickStairs_39 : decode cX4_pickStairs 39 = .ok (.iinc 3 1, 3) := by decide +kernel
theorem dX4_pickStairs_42 : decode cX4_pickStairs 42 = .ok (.goto (-35), 3) := by decide +kernel
theorem dX4_pickStairs_45 : decode cX4_pickStairs 45 = .ok (.return_, 1) := by decide +kernel
theorem dX4_tops_0 : decode cX4_tops 0 = .ok (.iconst 0, 1) := by decide +kernel
theorem dX4_tops_1 : decode cX4_tops 1 = .ok (.istore_n 3, 1) := by decide +kernel
theorem dX4_tops_2 : decode cX4_tops 2 = .ok (.iload_n 3, 1) := by decide +kernel
theorem dX4_tops_3 : decode cX4_tops 3 = .ok (.aload_n 0, 1) := by decide +kernel
theorem dX4_tops_4 : decode cX4_tops 4 = .ok (.getfield 15, 3) := by decide +kernel
theorem dX4_tops_7 : decode cX4_tops 7 = .ok (.if_icmp .ge 25, 3) := by decide +kernel
theorem dX4_tops_10 : decode cX4_tops 10 = .ok (.aload_n 1, 1) := by decide +kernel
theorem dX4_tops_11 : decode cX4_tops 11 = .ok (.iload_n 2, 1) := by decide +kernel
theorem dX4_tops_12 : decode cX4_tops 12 = .ok (.aload_n 0, 1) := by decide +kernel
theorem dX4_tops_13 : decode cX4_tops 13 = .ok (.getfield 9, 3) := by decide +kernel
theorem dX4_tops_16 : decode cX4_tops 16 = .ok (.iload_n 3, 1) := by decide +kernel
theorem dX4_tops_17 : decode cX4_tops 17 = .ok (.iaload, 1) := by decide +kernel
theorem dX4_tops_18 : decode cX4_tops 18 = .ok (.invokevirtual 48, 3) := by decide +kernel
theorem dX4_tops_21 : decode cX4_tops 21 = .ok (.ifCond .eq 5, 3) := by decide +kernel
theorem dX4_tops_24 : decode cX4_tops 24 = .ok (.iconst 1, 1) := by decide +kernel
theorem dX4_tops_25 : decode cX4_tops 25 = .ok (.ireturn, 1) := by decide +kernel
theorem dX4_tops_26 : decode cX4_tops 26 = .ok (.iinc 3 1, 3) := by decide +kernel
theorem dX4_tops_29 : decode cX4_tops 29 = .ok (.goto (-27), 3) := by decide +kernel
theorem dX4_tops_32 : decode cX4_tops 32 = .ok (.iconst 0, 1) := by decide +kernel
theorem dX4_tops_33 : decode cX4_tops 33 = .ok (.ireturn, 1) := by decide +kernel
theorem dX4_sortByPlace_0 : decode cX4_sortByPlace 0 = .ok (.aload_n 0, 1) := by decide +kernel
theorem dX4_sortByPlace_1 : decode cX4_sortByPlace 1 = .ok (.aload_n 1, 1) := by decide +kernel
theorem dX4_sortByPlace_2 : decode cX4_sortByPlace 2 = .ok (.iconst 0, 1) := by decide +kernel
theorem dX4_sortByPlace_3 : decode cX4_sortByPlace 3 = .ok (.invokevirtual 51, 3) := by decide +kernel
theorem dX4_sortByPlace_6 : decode cX4_sortByPlace 6 = .ok (.return_, 1) := by decide +kernel
theorem dX4_sortByHeight_0 : decode cX4_sortByHeight 0 = .ok (.aload_n 0, 1) := by decide +kernel
theorem dX4_sortByHeight_1 : decode cX4_sortByHeight 1 = .ok (.aload_n 1, 1) := by decide +kernel
theorem dX4_sortByHeight_2 : decode cX4_sortByHeight 2 = .ok (.iconst 1, 1) := by decide +kernel
theorem dX4_sortByHeight_3 : decode cX4_sortByHeight 3 = .ok (.invokevirtual 51, 3) := by decide +kernel
theorem dX4_sortByHeight_6 : decode cX4_sortByHeight 6 = .ok (.return_, 1) := by decide +kernel
theorem dX4_sort_0 : decode cX4_sort 0 = .ok (.iconst 1, 1) := by decide +kernel
theorem dX4_sort_1 : decode cX4_sort 1 = .ok (.istore_n 3, 1) := by decide +kernel
theorem dX4_sort_2 : decode cX4_sort 2 = .ok (.iload_n 3, 1) := by decide +kernel
theorem dX4_sort_3 : decode cX4_sort 3 = .ok (.aload_n 0, 1) := by decide +kernel
theorem dX4_sort_4 : decode cX4_sort 4 = .ok (.getfield 15, 3) := by decide +kernel
theorem dX4_sort_7 : decode cX4_sort 7 = .ok (.if_icmp .ge 75, 3) := by decide +kernel
theorem dX4_sort_10 : decode cX4_sort 10 = .ok (.aload_n 0, 1) := by decide +kernel
theorem dX4_sort_11 : decode cX4_sort 11 = .ok (.getfield 9, 3) := by decide +kernel
theorem dX4_sort_14 : decode cX4_sort 14 = .ok (.iload_n 3, 1) := by decide +kernel
theorem dX4_sort_15 : decode cX4_sort 15 = .ok (.iaload, 1) := by decide +kernel
theorem dX4_sort_16 : decode cX4_sort 16 = .ok (.istore 4, 2) := by decide +kernel
theorem dX4_sort_18 : decode cX4_sort 18 = .ok (.iload_n 3, 1) := by decide +kernel
theorem dX4_sort_19 : decode cX4_sort 19 = .ok (.istore 5, 2) := by decide +kernel
theorem dX4_sort_21 : decode cX4_sort 21 = .ok (.iload 5, 2) := by decide +kernel
theorem dX4_sort_23 : decode cX4_sort 23 = .ok (.ifCond .le 44, 3) := by decide +kernel
theorem dX4_sort_26 : decode cX4_sort 26 = .ok (.aload_n 1, 1) := by decide +kernel
theorem dX4_sort_27 : decode cX4_sort 27 = .ok (.iload 4, 2) := by decide +kernel
theorem dX4_sort_29 : decode cX4_sort 29 = .ok (.aload_n 0, 1) := by decide +kernel
theorem dX4_sort_30 : decode cX4_sort 30 = .ok (.getfield 9, 3) := by decide +kernel
theorem dX4_sort_33 : decode cX4_sort 33 = .ok (.iload 5, 2) := by decide +kernel
theorem dX4_sort_35 : decode cX4_sort 35 = .ok (.iconst 1, 1) := by decide +kernel
theorem dX4_sort_36 : decode cX4_sort 36 = .ok (.isub, 1) := by decide +kernel
theorem dX4_sort_37 : decode cX4_sort 37 = .ok (.iaload, 1) := by decide +kernel
theorem dX4_sort_38 : decode cX4_sort 38 = .ok (.iload_n 2, 1) := by decide +kernel
theorem dX4_sort_39 : decode cX4_sort 39 = .ok (.invokestatic 55, 3) := by decide +kernel
theorem dX4_sort_42 : decode cX4_sort 42 = .ok (.ifCond .eq 25, 3) := by decide +kernel
theorem dX4_sort_45 : decode cX4_sort 45 = .ok (.aload_n 0, 1) := by decide +kernel
theorem dX4_sort_46 : decode cX4_sort 46 = .ok (.getfield 9, 3) := by decide +kernel
theorem dX4_sort_49 : decode cX4_sort 49 = .ok (.iload 5, 2) := by decide +kernel
theorem dX4_sort_51 : decode cX4_sort 51 = .ok (.aload_n 0, 1) := by decide +kernel
theorem dX4_sort_52 : decode cX4_sort 52 = .ok (.getfield 9, 3) := by decide +kernel
theorem dX4_sort_55 : decode cX4_sort 55 = .ok (.iload 5, 2) := by decide +kernel
theorem dX4_sort_57 : decode cX4_sort 57 = .ok (.iconst 1, 1) := by decide +kernel
theorem dX4_sort_58 : decode cX4_sort 58 = .ok (.isub, 1) := by decide +kernel
theorem dX4_sort_59 : decode cX4_sort 59 = .ok (.iaload, 1) := by decide +kernel
theorem dX4_sort_60 : decode cX4_sort 60 = .ok (.iastore, 1) := by decide +kernel
theorem dX4_sort_61 : decode cX4_sort 61 = .ok (.iinc 5 (-1), 3) := by decide +kernel
theorem dX4_sort_64 : decode cX4_sort 64 = .ok (.goto (-43), 3) := by decide +kernel
theorem dX4_sort_67 : decode cX4_sort 67 = .ok (.aload_n 0, 1) := by decide +kernel
theorem dX4_sort_68 : decode cX4_sort 68 = .ok (.getfield 9, 3) := by decide +kernel
theorem dX4_sort_71 : decode cX4_sort 71 = .ok (.iload 5, 2) := by decide +kernel
theorem dX4_sort_73 : decode cX4_sort 73 = .ok (.iload 4, 2) := by decide +kernel
theorem dX4_sort_75 : decode cX4_sort 75 = .ok (.iastore, 1) := by decide +kernel
theorem dX4_sort_76 : decode cX4_sort 76 = .ok (.iinc 3 1, 3) := by decide +kernel
theorem dX4_sort_79 : decode cX4_sort 79 = .ok (.goto (-77), 3) := by decide +kernel
theorem dX4_sort_82 : decode cX4_sort 82 = .ok (.return_, 1) := by decide +kernel
theorem dX4_isBefore_0 : decode cX4_isBefore 0 = .ok (.iload_n 3, 1) := by decide +kernel
theorem dX4_isBefore_1 : decode cX4_isBefore 1 = .ok (.ifCond .eq 26, 3) := by decide +kernel
theorem dX4_isBefore_4 : decode cX4_isBefore 4 = .ok (.aload_n 0, 1) := by decide +kernel
theorem dX4_isBefore_5 : decode cX4_isBefore 5 = .ok (.getfield 35, 3) := by decide +kernel
theorem dX4_isBefore_8 : decode cX4_isBefore 8 = .ok (.iload_n 1, 1) := by decide +kernel
theorem dX4_isBefore_9 : decode cX4_isBefore 9 = .ok (.iaload, 1) := by decide +kernel
theorem dX4_isBefore_10 : decode cX4_isBefore 10 = .ok (.aload_n 0, 1) := by decide +kernel
theorem dX4_isBefore_11 : decode cX4_isBefore 11 = .ok (.getfield 35, 3) := by decide +kernel
theorem dX4_isBefore_14 : decode cX4_isBefore 14 = .ok (.iload_n 2, 1) := by decide +kernel
theorem dX4_isBefore_15 : decode cX4_isBefore 15 = .ok (.iaload, 1) := by decide +kernel
theorem dX4_isBefore_16 : decode cX4_isBefore 16 = .ok (.if_icmp .ge 7, 3) := by decide +kernel
theorem dX4_isBefore_19 : decode cX4_isBefore 19 = .ok (.iconst 1, 1) := by decide +kernel
theorem dX4_isBefore_20 : decode cX4_isBefore 20 = .ok (.goto 13, 3) := by decide +kernel
theorem dX4_isBefore_23 : decode cX4_isBefore 23 = .ok (.iconst 0, 1) := by decide +kernel
theorem dX4_isBefore_24 : decode cX4_isBefore 24 = .ok (.goto 9, 3) := by decide +kernel
theorem dX4_isBefore_27 : decode cX4_isBefore 27 = .ok (.aload_n 0, 1) := by decide +kernel
theorem dX4_isBefore_28 : decode cX4_isBefore 28 = .ok (.iload_n 1, 1) := by decide +kernel
theorem dX4_isBefore_29 : decode cX4_isBefore 29 = .ok (.iload_n 2, 1) := by decide +kernel
theorem dX4_isBefore_30 : decode cX4_isBefore 30 = .ok (.invokevirtual 59, 3) := by decide +kernel
theorem dX4_isBefore_33 : decode cX4_isBefore 33 = .ok (.ireturn, 1) := by decide +kernel
theorem dX4_turnToNumbers_0 : decode cX4_turnToNumbers 0 = .ok (.iconst 0, 1) := by decide +kernel
theorem dX4_turnToNumbers_1 : decode cX4_turnToNumbers 1 = .ok (.istore_n 2, 1) := by decide +kernel
theorem dX4_turnToNumbers_2 : decode cX4_turnToNumbers 2 = .ok (.iload_n 2, 1) := by decide +kernel
theorem dX4_turnToNumbers_3 : decode cX4_turnToNumbers 3 = .ok (.aload_n 0, 1) := by decide +kernel
theorem dX4_turnToNumbers_4 : decode cX4_turnToNumbers 4 = .ok (.getfield 15, 3) := by decide +kernel
theorem dX4_turnToNumbers_7 : decode cX4_turnToNumbers 7 = .ok (.if_icmp .ge 26, 3) := by decide +kernel
theorem dX4_turnToNumbers_10 : decode cX4_turnToNumbers 10 = .ok (.aload_n 0, 1) := by decide +kernel
theorem dX4_turnToNumbers_11 : decode cX4_turnToNumbers 11 = .ok (.getfield 9, 3) := by decide +kernel
theorem dX4_turnToNumbers_14 : decode cX4_turnToNumbers 14 = .ok (.iload_n 2, 1) := by decide +kernel
theorem dX4_turnToNumbers_15 : decode cX4_turnToNumbers 15 = .ok (.aload_n 1, 1) := by decide +kernel
theorem dX4_turnToNumbers_16 : decode cX4_turnToNumbers 16 = .ok (.getfield 62, 3) := by decide +kernel
theorem dX4_turnToNumbers_19 : decode cX4_turnToNumbers 19 = .ok (.aload_n 0, 1) := by decide +kernel
theorem dX4_turnToNumbers_20 : decode cX4_turnToNumbers 20 = .ok (.getfield 9, 3) := by decide +kernel
theorem dX4_turnToNumbers_23 : decode cX4_turnToNumbers 23 = .ok (.iload_n 2, 1) := by decide +kernel
theorem dX4_turnToNumbers_24 : decode cX4_turnToNumbers 24 = .ok (.iaload, 1) := by decide +kernel
theorem dX4_turnToNumbers_25 : decode cX4_turnToNumbers 25 = .ok (.iaload, 1) := by decide +kernel
theorem dX4_turnToNumbers_26 : decode cX4_turnToNumbers 26 = .ok (.iastore, 1) := by decide +kernel
theorem dX4_turnToNumbers_27 : decode cX4_turnToNumbers 27 = .ok (.iinc 2 1, 3) := by decide +kernel
theorem dX4_turnToNumbers_30 : decode cX4_turnToNumbers 30 = .ok (.goto (-28), 3) := by decide +kernel
theorem dX4_turnToNumbers_33 : decode cX4_turnToNumbers 33 = .ok (.return_, 1) := by decide +kernel
theorem dX4_numberOf_0 : decode cX4_numberOf 0 = .ok (.iload_n 2, 1) := by decide +kernel
theorem dX4_numberOf_1 : decode cX4_numberOf 1 = .ok (.ifCond .lt 25, 3) := by decide +kernel
theorem dX4_numberOf_4 : decode cX4_numberOf 4 = .ok (.iload_n 2, 1) := by decide +kernel
theorem dX4_numberOf_5 : decode cX4_numberOf 5 = .ok (.aload_n 0, 1) := by decide +kernel
theorem dX4_numberOf_6 : decode cX4_numberOf 6 = .ok (.getfield 15, 3) := by decide +kernel
theorem dX4_numberOf_9 : decode cX4_numberOf 9 = .ok (.if_icmp .ge 17, 3) := by decide +kernel
theorem dX4_numberOf_12 : decode cX4_numberOf 12 = .ok (.aload_n 1, 1) := by decide +kernel
theorem dX4_numberOf_13 : decode cX4_numberOf 13 = .ok (.getfield 62, 3) := by decide +kernel
theorem dX4_numberOf_16 : decode cX4_numberOf 16 = .ok (.aload_n 0, 1) := by decide +kernel
theorem dX4_numberOf_17 : decode cX4_numberOf 17 = .ok (.getfield 9, 3) := by decide +kernel
theorem dX4_numberOf_20 : decode cX4_numberOf 20 = .ok (.iload_n 2, 1) := by decide +kernel
theorem dX4_numberOf_21 : decode cX4_numberOf 21 = .ok (.iaload, 1) := by decide +kernel
theorem dX4_numberOf_22 : decode cX4_numberOf 22 = .ok (.iaload, 1) := by decide +kernel
theorem dX4_numberOf_23 : decode cX4_numberOf 23 = .ok (.goto 5, 3) := by decide +kernel
theorem dX4_numberOf_26 : decode cX4_numberOf 26 = .ok (.ldc 65, 2) := by decide +kernel
theorem dX4_numberOf_28 : decode cX4_numberOf 28 = .ok (.ireturn, 1) := by decide +kernel
theorem dX4_worthOfAll_0 : decode cX4_worthOfAll 0 = .ok (.iconst 0, 1) := by decide +kernel
theorem dX4_worthOfAll_1 : decode cX4_worthOfAll 1 = .ok (.istore_n 2, 1) := by decide +kernel
theorem dX4_worthOfAll_2 : decode cX4_worthOfAll 2 = .ok (.iconst 0, 1) := by decide +kernel
theorem dX4_worthOfAll_3 : decode cX4_worthOfAll 3 = .ok (.istore_n 3, 1) := by decide +kernel
theorem dX4_worthOfAll_4 : decode cX4_worthOfAll 4 = .ok (.iload_n 3, 1) := by decide +kernel
theorem dX4_worthOfAll_5 : decode cX4_worthOfAll 5 = .ok (.aload_n 0, 1) := by decide +kernel
theorem dX4_worthOfAll_6 : decode cX4_worthOfAll 6 = .ok (.getfield 15, 3) := by decide +kernel
theorem dX4_worthOfAll_9 : decode cX4_worthOfAll 9 = .ok (.if_icmp .ge 22, 3) := by decide +kernel
theorem dX4_worthOfAll_12 : decode cX4_worthOfAll 12 = .ok (.iload_n 2, 1) := by decide +kernel
theorem dX4_worthOfAll_13 : decode cX4_worthOfAll 13 = .ok (.aload_n 1, 1) := by decide +kernel
theorem dX4_worthOfAll_14 : decode cX4_worthOfAll 14 = .ok (.aload_n 0, 1) := by decide +kernel
theorem dX4_worthOfAll_15 : decode cX4_worthOfAll 15 = .ok (.getfield 9, 3) := by decide +kernel
theorem dX4_worthOfAll_18 : decode cX4_worthOfAll 18 = .ok (.iload_n 3, 1) := by decide +kernel
theorem dX4_worthOfAll_19 : decode cX4_worthOfAll 19 = .ok (.iaload, 1) := by decide +kernel
theorem dX4_worthOfAll_20 : decode cX4_worthOfAll 20 = .ok (.invokevirtual 66, 3) := by decide +kernel
theorem dX4_worthOfAll_23 : decode cX4_worthOfAll 23 = .ok (.iadd, 1) := by decide +kernel
theorem dX4_worthOfAll_24 : decode cX4_worthOfAll 24 = .ok (.istore_n 2, 1) := by decide +kernel
theorem dX4_worthOfAll_25 : decode cX4_worthOfAll 25 = .ok (.iinc 3 1, 3) := by decide +kernel
theorem dX4_worthOfAll_28 : decode cX4_worthOfAll 28 = .ok (.goto (-24), 3) := by decide +kernel
theorem dX4_worthOfAll_31 : decode cX4_worthOfAll 31 = .ok (.iload_n 2, 1) := by decide +kernel
theorem dX4_worthOfAll_32 : decode cX4_worthOfAll 32 = .ok (.ireturn, 1) := by decide +kernel
theorem dX4_within_0 : decode cX4_within 0 = .ok (.iconst 0, 1) := by decide +kernel
theorem dX4_within_1 : decode cX4_within 1 = .ok (.istore 5, 2) := by decide +kernel
theorem dX4_within_3 : decode cX4_within 3 = .ok (.iconst 0, 1) := by decide +kernel
theorem dX4_within_4 : decode cX4_within 4 = .ok (.istore 6, 2) := by decide +kernel
theorem dX4_within_6 : decode cX4_within 6 = .ok (.iload 6, 2) := by decide +kernel
theorem dX4_within_8 : decode cX4_within 8 = .ok (.aload_n 0, 1) := by decide +kernel
theorem dX4_within_9 : decode cX4_within 9 = .ok (.getfield 15, 3) := by decide +kernel
theorem dX4_within_12 : decode cX4_within 12 = .ok (.if_icmp .ge 30, 3) := by decide +kernel
theorem dX4_within_15 : decode cX4_within 15 = .ok (.aload_n 1, 1) := by decide +kernel
theorem dX4_within_16 : decode cX4_within 16 = .ok (.aload_n 0, 1) := by decide +kernel
theorem dX4_within_17 : decode cX4_within 17 = .ok (.getfield 9, 3) := by decide +kernel
theorem dX4_within_20 : decode cX4_within 20 = .ok (.iload 6, 2) := by decide +kernel

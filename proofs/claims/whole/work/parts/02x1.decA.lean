theorem dX0_init_0 : decode cX0_init 0 = .ok (.aload_n 0, 1) := by decide +kernel
theorem dX0_init_1 : decode cX0_init 1 = .ok (.invokespecial 3, 3) := by decide +kernel
theorem dX0_init_4 : decode cX0_init 4 = .ok (.aload_n 0, 1) := by decide +kernel
theorem dX0_init_5 : decode cX0_init 5 = .ok (.bipush 48, 2) := by decide +kernel
theorem dX0_init_7 : decode cX0_init 7 = .ok (.newarray .int, 2) := by decide +kernel
theorem dX0_init_9 : decode cX0_init 9 = .ok (.putfield 9, 3) := by decide +kernel
theorem dX0_init_12 : decode cX0_init 12 = .ok (.aload_n 0, 1) := by decide +kernel
theorem dX0_init_13 : decode cX0_init 13 = .ok (.bipush 64, 2) := by decide +kernel
theorem dX0_init_15 : decode cX0_init 15 = .ok (.newarray .int, 2) := by decide +kernel
theorem dX0_init_17 : decode cX0_init 17 = .ok (.putfield 15, 3) := by decide +kernel
theorem dX0_init_20 : decode cX0_init 20 = .ok (.aload_n 0, 1) := by decide +kernel
theorem dX0_init_21 : decode cX0_init 21 = .ok (.aload_n 1, 1) := by decide +kernel
theorem dX0_init_22 : decode cX0_init 22 = .ok (.putfield 18, 3) := by decide +kernel
theorem dX0_init_25 : decode cX0_init 25 = .ok (.aload_n 0, 1) := by decide +kernel
theorem dX0_init_26 : decode cX0_init 26 = .ok (.aload_n 2, 1) := by decide +kernel
theorem dX0_init_27 : decode cX0_init 27 = .ok (.putfield 22, 3) := by decide +kernel
theorem dX0_init_30 : decode cX0_init 30 = .ok (.return_, 1) := by decide +kernel
theorem dX0_behind_0 : decode cX0_behind 0 = .ok (.aload_n 1, 1) := by decide +kernel
theorem dX0_behind_1 : decode cX0_behind 1 = .ok (.iconst 0, 1) := by decide +kernel
theorem dX0_behind_2 : decode cX0_behind 2 = .ok (.aload_n 0, 1) := by decide +kernel
theorem dX0_behind_3 : decode cX0_behind 3 = .ok (.getfield 9, 3) := by decide +kernel
theorem dX0_behind_6 : decode cX0_behind 6 = .ok (.iconst 0, 1) := by decide +kernel
theorem dX0_behind_7 : decode cX0_behind 7 = .ok (.bipush 48, 2) := by decide +kernel
theorem dX0_behind_9 : decode cX0_behind 9 = .ok (.invokestatic 26, 3) := by decide +kernel
theorem dX0_behind_12 : decode cX0_behind 12 = .ok (.iconst 0, 1) := by decide +kernel
theorem dX0_behind_13 : decode cX0_behind 13 = .ok (.istore_n 3, 1) := by decide +kernel
theorem dX0_behind_14 : decode cX0_behind 14 = .ok (.iload_n 3, 1) := by decide +kernel
theorem dX0_behind_15 : decode cX0_behind 15 = .ok (.iload_n 2, 1) := by decide +kernel
theorem dX0_behind_16 : decode cX0_behind 16 = .ok (.if_icmp .ge 27, 3) := by decide +kernel
theorem dX0_behind_19 : decode cX0_behind 19 = .ok (.aload_n 0, 1) := by decide +kernel
theorem dX0_behind_20 : decode cX0_behind 20 = .ok (.getfield 22, 3) := by decide +kernel
theorem dX0_behind_23 : decode cX0_behind 23 = .ok (.aload_n 0, 1) := by decide +kernel
theorem dX0_behind_24 : decode cX0_behind 24 = .ok (.getfield 9, 3) := by decide +kernel
theorem dX0_behind_27 : decode cX0_behind 27 = .ok (.aload_n 0, 1) := by decide +kernel
theorem dX0_behind_28 : decode cX0_behind 28 = .ok (.getfield 18, 3) := by decide +kernel
theorem dX0_behind_31 : decode cX0_behind 31 = .ok (.getfield 32, 3) := by decide +kernel
theorem dX0_behind_34 : decode cX0_behind 34 = .ok (.invokevirtual 38, 3) := by decide +kernel
theorem dX0_behind_37 : decode cX0_behind 37 = .ok (.iinc 3 1, 3) := by decide +kernel
theorem dX0_behind_40 : decode cX0_behind 40 = .ok (.goto (-26), 3) := by decide +kernel
theorem dX0_behind_43 : decode cX0_behind 43 = .ok (.aload_n 0, 1) := by decide +kernel
theorem dX0_behind_44 : decode cX0_behind 44 = .ok (.getfield 9, 3) := by decide +kernel
theorem dX0_behind_47 : decode cX0_behind 47 = .ok (.areturn, 1) := by decide +kernel
theorem dX0_weeksToPart_0 : decode cX0_weeksToPart 0 = .ok (.aload_n 1, 1) := by decide +kernel
theorem dX0_weeksToPart_1 : decode cX0_weeksToPart 1 = .ok (.iconst 0, 1) := by decide +kernel
theorem dX0_weeksToPart_2 : decode cX0_weeksToPart 2 = .ok (.aload_n 0, 1) := by decide +kernel
theorem dX0_weeksToPart_3 : decode cX0_weeksToPart 3 = .ok (.getfield 9, 3) := by decide +kernel
theorem dX0_weeksToPart_6 : decode cX0_weeksToPart 6 = .ok (.iconst 0, 1) := by decide +kernel
theorem dX0_weeksToPart_7 : decode cX0_weeksToPart 7 = .ok (.bipush 48, 2) := by decide +kernel
theorem dX0_weeksToPart_9 : decode cX0_weeksToPart 9 = .ok (.invokestatic 26, 3) := by decide +kernel
theorem dX0_weeksToPart_12 : decode cX0_weeksToPart 12 = .ok (.iconst 0, 1) := by decide +kernel
theorem dX0_weeksToPart_13 : decode cX0_weeksToPart 13 = .ok (.istore 5, 2) := by decide +kernel
theorem dX0_weeksToPart_15 : decode cX0_weeksToPart 15 = .ok (.iload 5, 2) := by decide +kernel
theorem dX0_weeksToPart_17 : decode cX0_weeksToPart 17 = .ok (.iload_n 3, 1) := by decide +kernel
theorem dX0_weeksToPart_18 : decode cX0_weeksToPart 18 = .ok (.if_icmp .ge 37, 3) := by decide +kernel
theorem dX0_weeksToPart_21 : decode cX0_weeksToPart 21 = .ok (.aload_n 0, 1) := by decide +kernel
theorem dX0_weeksToPart_22 : decode cX0_weeksToPart 22 = .ok (.getfield 9, 3) := by decide +kernel
theorem dX0_weeksToPart_25 : decode cX0_weeksToPart 25 = .ok (.bipush 19, 2) := by decide +kernel
theorem dX0_weeksToPart_27 : decode cX0_weeksToPart 27 = .ok (.iload_n 2, 1) := by decide +kernel
theorem dX0_weeksToPart_28 : decode cX0_weeksToPart 28 = .ok (.iadd, 1) := by decide +kernel
theorem dX0_weeksToPart_29 : decode cX0_weeksToPart 29 = .ok (.iaload, 1) := by decide +kernel
theorem dX0_weeksToPart_30 : decode cX0_weeksToPart 30 = .ok (.ifCond .eq 6, 3) := by decide +kernel
theorem dX0_weeksToPart_33 : decode cX0_weeksToPart 33 = .ok (.iload 5, 2) := by decide +kernel
theorem dX0_weeksToPart_35 : decode cX0_weeksToPart 35 = .ok (.ireturn, 1) := by decide +kernel
theorem dX0_weeksToPart_36 : decode cX0_weeksToPart 36 = .ok (.aload_n 0, 1) := by decide +kernel
theorem dX0_weeksToPart_37 : decode cX0_weeksToPart 37 = .ok (.getfield 22, 3) := by decide +kernel
theorem dX0_weeksToPart_40 : decode cX0_weeksToPart 40 = .ok (.aload_n 0, 1) := by decide +kernel
theorem dX0_weeksToPart_41 : decode cX0_weeksToPart 41 = .ok (.getfield 9, 3) := by decide +kernel
theorem dX0_weeksToPart_44 : decode cX0_weeksToPart 44 = .ok (.iload 4, 2) := by decide +kernel
theorem dX0_weeksToPart_46 : decode cX0_weeksToPart 46 = .ok (.invokevirtual 38, 3) := by decide +kernel
theorem dX0_weeksToPart_49 : decode cX0_weeksToPart 49 = .ok (.iinc 5 1, 3) := by decide +kernel
theorem dX0_weeksToPart_52 : decode cX0_weeksToPart 52 = .ok (.goto (-37), 3) := by decide +kernel
theorem dX0_weeksToPart_55 : decode cX0_weeksToPart 55 = .ok (.aload_n 0, 1) := by decide +kernel
theorem dX0_weeksToPart_56 : decode cX0_weeksToPart 56 = .ok (.getfield 9, 3) := by decide +kernel
theorem dX0_weeksToPart_59 : decode cX0_weeksToPart 59 = .ok (.bipush 19, 2) := by decide +kernel
theorem dX0_weeksToPart_61 : decode cX0_weeksToPart 61 = .ok (.iload_n 2, 1) := by decide +kernel
theorem dX0_weeksToPart_62 : decode cX0_weeksToPart 62 = .ok (.iadd, 1) := by decide +kernel
theorem dX0_weeksToPart_63 : decode cX0_weeksToPart 63 = .ok (.iaload, 1) := by decide +kernel
theorem dX0_weeksToPart_64 : decode cX0_weeksToPart 64 = .ok (.ifCond .eq 7, 3) := by decide +kernel
theorem dX0_weeksToPart_67 : decode cX0_weeksToPart 67 = .ok (.iload_n 3, 1) := by decide +kernel
theorem dX0_weeksToPart_68 : decode cX0_weeksToPart 68 = .ok (.goto 5, 3) := by decide +kernel
theorem dX0_weeksToPart_71 : decode cX0_weeksToPart 71 = .ok (.bipush (-2), 2) := by decide +kernel
theorem dX0_weeksToPart_73 : decode cX0_weeksToPart 73 = .ok (.ireturn, 1) := by decide +kernel
theorem dX0_tryOaths_0 : decode cX0_tryOaths 0 = .ok (.aload_n 1, 1) := by decide +kernel
theorem dX0_tryOaths_1 : decode cX0_tryOaths 1 = .ok (.iconst 0, 1) := by decide +kernel
theorem dX0_tryOaths_2 : decode cX0_tryOaths 2 = .ok (.aload_n 0, 1) := by decide +kernel
theorem dX0_tryOaths_3 : decode cX0_tryOaths 3 = .ok (.getfield 9, 3) := by decide +kernel
theorem dX0_tryOaths_6 : decode cX0_tryOaths 6 = .ok (.iconst 0, 1) := by decide +kernel
theorem dX0_tryOaths_7 : decode cX0_tryOaths 7 = .ok (.bipush 48, 2) := by decide +kernel
theorem dX0_tryOaths_9 : decode cX0_tryOaths 9 = .ok (.invokestatic 26, 3) := by decide +kernel
theorem dX0_tryOaths_12 : decode cX0_tryOaths 12 = .ok (.iconst 0, 1) := by decide +kernel
theorem dX0_tryOaths_13 : decode cX0_tryOaths 13 = .ok (.istore 4, 2) := by decide +kernel
theorem dX0_tryOaths_15 : decode cX0_tryOaths 15 = .ok (.iload 4, 2) := by decide +kernel
theorem dX0_tryOaths_17 : decode cX0_tryOaths 17 = .ok (.aload_n 0, 1) := by decide +kernel
theorem dX0_tryOaths_18 : decode cX0_tryOaths 18 = .ok (.getfield 18, 3) := by decide +kernel
theorem dX0_tryOaths_21 : decode cX0_tryOaths 21 = .ok (.getfield 44, 3) := by decide +kernel
theorem dX0_tryOaths_24 : decode cX0_tryOaths 24 = .ok (.if_icmp .ge 25, 3) := by decide +kernel
theorem dX0_tryOaths_27 : decode cX0_tryOaths 27 = .ok (.aload_n 0, 1) := by decide +kernel
theorem dX0_tryOaths_28 : decode cX0_tryOaths 28 = .ok (.getfield 9, 3) := by decide +kernel
theorem dX0_tryOaths_31 : decode cX0_tryOaths 31 = .ok (.bipush 36, 2) := by decide +kernel
theorem dX0_tryOaths_33 : decode cX0_tryOaths 33 = .ok (.iload 4, 2) := by decide +kernel
theorem dX0_tryOaths_35 : decode cX0_tryOaths 35 = .ok (.iadd, 1) := by decide +kernel
theorem dX0_tryOaths_36 : decode cX0_tryOaths 36 = .ok (.iload_n 3, 1) := by decide +kernel
theorem dX0_tryOaths_37 : decode cX0_tryOaths 37 = .ok (.iload 4, 2) := by decide +kernel
theorem dX0_tryOaths_39 : decode cX0_tryOaths 39 = .ok (.iushr, 1) := by decide +kernel
theorem dX0_tryOaths_40 : decode cX0_tryOaths 40 = .ok (.iconst 1, 1) := by decide +kernel
theorem dX0_tryOaths_41 : decode cX0_tryOaths 41 = .ok (.iand, 1) := by decide +kernel
theorem dX0_tryOaths_42 : decode cX0_tryOaths 42 = .ok (.iastore, 1) := by decide +kernel
theorem dX0_tryOaths_43 : decode cX0_tryOaths 43 = .ok (.iinc 4 1, 3) := by decide +kernel
theorem dX0_tryOaths_46 : decode cX0_tryOaths 46 = .ok (.goto (-31), 3) := by decide +kernel
theorem dX0_tryOaths_49 : decode cX0_tryOaths 49 = .ok (.iconst 0, 1) := by decide +kernel
theorem dX0_tryOaths_50 : decode cX0_tryOaths 50 = .ok (.istore 4, 2) := by decide +kernel
theorem dX0_tryOaths_52 : decode cX0_tryOaths 52 = .ok (.iload 4, 2) := by decide +kernel
theorem dX0_tryOaths_54 : decode cX0_tryOaths 54 = .ok (.iload_n 2, 1) := by decide +kernel
theorem dX0_tryOaths_55 : decode cX0_tryOaths 55 = .ok (.if_icmp .ge 27, 3) := by decide +kernel
theorem dX0_tryOaths_58 : decode cX0_tryOaths 58 = .ok (.aload_n 0, 1) := by decide +kernel
theorem dX0_tryOaths_59 : decode cX0_tryOaths 59 = .ok (.getfield 22, 3) := by decide +kernel
theorem dX0_tryOaths_62 : decode cX0_tryOaths 62 = .ok (.aload_n 0, 1) := by decide +kernel
theorem dX0_tryOaths_63 : decode cX0_tryOaths 63 = .ok (.getfield 9, 3) := by decide +kernel
theorem dX0_tryOaths_66 : decode cX0_tryOaths 66 = .ok (.aload_n 0, 1) := by decide +kernel
theorem dX0_tryOaths_67 : decode cX0_tryOaths 67 = .ok (.getfield 18, 3) := by decide +kernel
theorem dX0_tryOaths_70 : decode cX0_tryOaths 70 = .ok (.getfield 32, 3) := by decide +kernel
theorem dX0_tryOaths_73 : decode cX0_tryOaths 73 = .ok (.invokevirtual 38, 3) := by decide +kernel
theorem dX0_tryOaths_76 : decode cX0_tryOaths 76 = .ok (.iinc 4 1, 3) := by decide +kernel
theorem dX0_tryOaths_79 : decode cX0_tryOaths 79 = .ok (.goto (-27), 3) := by decide +kernel
theorem dX0_tryOaths_82 : decode cX0_tryOaths 82 = .ok (.iconst 0, 1) := by decide +kernel
theorem dX0_tryOaths_83 : decode cX0_tryOaths 83 = .ok (.istore 4, 2) := by decide +kernel
theorem dX0_tryOaths_85 : decode cX0_tryOaths 85 = .ok (.iload 4, 2) := by decide +kernel
theorem dX0_tryOaths_87 : decode cX0_tryOaths 87 = .ok (.aload_n 0, 1) := by decide +kernel
theorem dX0_tryOaths_88 : decode cX0_tryOaths 88 = .ok (.getfield 18, 3) := by decide +kernel
theorem dX0_tryOaths_91 : decode cX0_tryOaths 91 = .ok (.getfield 44, 3) := by decide +kernel
theorem dX0_tryOaths_94 : decode cX0_tryOaths 94 = .ok (.if_icmp .ge 30, 3) := by decide +kernel
theorem dX0_tryOaths_97 : decode cX0_tryOaths 97 = .ok (.aload_n 0, 1) := by decide +kernel
theorem dX0_tryOaths_98 : decode cX0_tryOaths 98 = .ok (.getfield 15, 3) := by decide +kernel
theorem dX0_tryOaths_101 : decode cX0_tryOaths 101 = .ok (.iload_n 3, 1) := by decide +kernel
theorem dX0_tryOaths_102 : decode cX0_tryOaths 102 = .ok (.iconst 4, 1) := by decide +kernel
theorem dX0_tryOaths_103 : decode cX0_tryOaths 103 = .ok (.imul, 1) := by decide +kernel
theorem dX0_tryOaths_104 : decode cX0_tryOaths 104 = .ok (.iload 4, 2) := by decide +kernel
theorem dX0_tryOaths_106 : decode cX0_tryOaths 106 = .ok (.iadd, 1) := by decide +kernel
theorem dX0_tryOaths_107 : decode cX0_tryOaths 107 = .ok (.aload_n 0, 1) := by decide +kernel
theorem dX0_tryOaths_108 : decode cX0_tryOaths 108 = .ok (.getfield 9, 3) := by decide +kernel
theorem dX0_tryOaths_111 : decode cX0_tryOaths 111 = .ok (.bipush 40, 2) := by decide +kernel
theorem dX0_tryOaths_113 : decode cX0_tryOaths 113 = .ok (.iload 4, 2) := by decide +kernel
theorem dX0_tryOaths_115 : decode cX0_tryOaths 115 = .ok (.iadd, 1) := by decide +kernel
theorem dX0_tryOaths_116 : decode cX0_tryOaths 116 = .ok (.iaload, 1) := by decide +kernel
theorem dX0_tryOaths_117 : decode cX0_tryOaths 117 = .ok (.iastore, 1) := by decide +kernel
theorem dX0_tryOaths_118 : decode cX0_tryOaths 118 = .ok (.iinc 4 1, 3) := by decide +kernel
theorem dX0_tryOaths_121 : decode cX0_tryOaths 121 = .ok (.goto (-36), 3) := by decide +kernel
theorem dX0_tryOaths_124 : decode cX0_tryOaths 124 = .ok (.return_, 1) := by decide +kernel
theorem dX0_restingOaths_0 : decode cX0_restingOaths 0 = .ok (.iconst 0, 1) := by decide +kernel
theorem dX0_restingOaths_1 : decode cX0_restingOaths 1 = .ok (.istore_n 2, 1) := by decide +kernel
theorem dX0_restingOaths_2 : decode cX0_restingOaths 2 = .ok (.iconst 0, 1) := by decide +kernel
theorem dX0_restingOaths_3 : decode cX0_restingOaths 3 = .ok (.istore_n 3, 1) := by decide +kernel
theorem dX0_restingOaths_4 : decode cX0_restingOaths 4 = .ok (.iload_n 3, 1) := by decide +kernel
theorem dX0_restingOaths_5 : decode cX0_restingOaths 5 = .ok (.iconst 1, 1) := by decide +kernel
theorem dX0_restingOaths_6 : decode cX0_restingOaths 6 = .ok (.aload_n 0, 1) := by decide +kernel
theorem dX0_restingOaths_7 : decode cX0_restingOaths 7 = .ok (.getfield 18, 3) := by decide +kernel
theorem dX0_restingOaths_10 : decode cX0_restingOaths 10 = .ok (.getfield 44, 3) := by decide +kernel
theorem dX0_restingOaths_13 : decode cX0_restingOaths 13 = .ok (.ishl, 1) := by decide +kernel
theorem dX0_restingOaths_14 : decode cX0_restingOaths 14 = .ok (.if_icmp .ge 27, 3) := by decide +kernel
theorem dX0_restingOaths_17 : decode cX0_restingOaths 17 = .ok (.aload_n 0, 1) := by decide +kernel
theorem dX0_restingOaths_18 : decode cX0_restingOaths 18 = .ok (.iload_n 3, 1) := by decide +kernel
theorem dX0_restingOaths_19 : decode cX0_restingOaths 19 = .ok (.invokevirtual 47, 3) := by decide +kernel
theorem dX0_restingOaths_22 : decode cX0_restingOaths 22 = .ok (.ifCond .eq 13, 3) := by decide +kernel
theorem dX0_restingOaths_25 : decode cX0_restingOaths 25 = .ok (.iload_n 2, 1) := by decide +kernel
theorem dX0_restingOaths_26 : decode cX0_restingOaths 26 = .ok (.iload_n 1, 1) := by decide +kernel
theorem dX0_restingOaths_27 : decode cX0_restingOaths 27 = .ok (.if_icmp .ne 5, 3) := by decide +kernel
theorem dX0_restingOaths_30 : decode cX0_restingOaths 30 = .ok (.iload_n 3, 1) := by decide +kernel
theorem dX0_restingOaths_31 : decode cX0_restingOaths 31 = .ok (.ireturn, 1) := by decide +kernel
theorem dX0_restingOaths_32 : decode cX0_restingOaths 32 = .ok (.iinc 2 1, 3) := by decide +kernel
theorem dX0_restingOaths_35 : decode cX0_restingOaths 35 = .ok (.iinc 3 1, 3) := by decide +kernel
theorem dX0_restingOaths_38 : decode cX0_restingOaths 38 = .ok (.goto (-34), 3) := by decide +kernel
theorem dX0_restingOaths_41 : decode cX0_restingOaths 41 = .ok (.iload_n 1, 1) := by decide +kernel
theorem dX0_restingOaths_42 : decode cX0_restingOaths 42 = .ok (.iconst (-1), 1) := by decide +kernel
theorem dX0_restingOaths_43 : decode cX0_restingOaths 43 = .ok (.if_icmp .ne 7, 3) := by decide +kernel
theorem dX0_restingOaths_46 : decode cX0_restingOaths 46 = .ok (.iload_n 2, 1) := by decide +kernel
theorem dX0_restingOaths_47 : decode cX0_restingOaths 47 = .ok (.goto 4, 3) := by decide +kernel
theorem dX0_restingOaths_50 : decode cX0_restingOaths 50 = .ok (.iconst (-1), 1) := by decide +kernel
theorem dX0_restingOaths_51 : decode cX0_restingOaths 51 = .ok (.ireturn, 1) := by decide +kernel
theorem dX0_isResting_0 : decode cX0_isResting 0 = .ok (.iconst 0, 1) := by decide +kernel
theorem dX0_isResting_1 : decode cX0_isResting 1 = .ok (.istore_n 2, 1) := by decide +kernel
theorem dX0_isResting_2 : decode cX0_isResting 2 = .ok (.iload_n 2, 1) := by decide +kernel
theorem dX0_isResting_3 : decode cX0_isResting 3 = .ok (.aload_n 0, 1) := by decide +kernel
theorem dX0_isResting_4 : decode cX0_isResting 4 = .ok (.getfield 18, 3) := by decide +kernel
theorem dX0_isResting_7 : decode cX0_isResting 7 = .ok (.getfield 44, 3) := by decide +kernel
theorem dX0_isResting_10 : decode cX0_isResting 10 = .ok (.if_icmp .ge 40, 3) := by decide +kernel
theorem dX0_isResting_13 : decode cX0_isResting 13 = .ok (.iload_n 1, 1) := by decide +kernel
theorem dX0_isResting_14 : decode cX0_isResting 14 = .ok (.iconst 1, 1) := by decide +kernel
theorem dX0_isResting_15 : decode cX0_isResting 15 = .ok (.iload_n 2, 1) := by decide +kernel
theorem dX0_isResting_16 : decode cX0_isResting 16 = .ok (.ishl, 1) := by decide +kernel
theorem dX0_isResting_17 : decode cX0_isResting 17 = .ok (.ixor, 1) := by decide +kernel
theorem dX0_isResting_18 : decode cX0_isResting 18 = .ok (.istore_n 3, 1) := by decide +kernel
theorem dX0_isResting_19 : decode cX0_isResting 19 = .ok (.aload_n 0, 1) := by decide +kernel
theorem dX0_isResting_20 : decode cX0_isResting 20 = .ok (.getfield 15, 3) := by decide +kernel
theorem dX0_isResting_23 : decode cX0_isResting 23 = .ok (.iload_n 3, 1) := by decide +kernel
theorem dX0_isResting_24 : decode cX0_isResting 24 = .ok (.iconst 4, 1) := by decide +kernel
theorem dX0_isResting_25 : decode cX0_isResting 25 = .ok (.imul, 1) := by decide +kernel
theorem dX0_isResting_26 : decode cX0_isResting 26 = .ok (.iload_n 2, 1) := by decide +kernel
theorem dX0_isResting_27 : decode cX0_isResting 27 = .ok (.iadd, 1) := by decide +kernel
theorem dX0_isResting_28 : decode cX0_isResting 28 = .ok (.iaload, 1) := by decide +kernel
theorem dX0_isResting_29 : decode cX0_isResting 29 = .ok (.aload_n 0, 1) := by decide +kernel
theorem dX0_isResting_30 : decode cX0_isResting 30 = .ok (.getfield 15, 3) := by decide +kernel
theorem dX0_isResting_33 : decode cX0_isResting 33 = .ok (.iload_n 1, 1) := by decide +kernel
theorem dX0_isResting_34 : decode cX0_isResting 34 = .ok (.iconst 4, 1) := by decide +kernel
theorem dX0_isResting_35 : decode cX0_isResting 35 = .ok (.imul, 1) := by decide +kernel
theorem dX0_isResting_36 : decode cX0_isResting 36 = .ok (.iload_n 2, 1) := by decide +kernel
theorem dX0_isResting_37 : decode cX0_isResting 37 = .ok (.iadd, 1) := by decide +kernel
theorem dX0_isResting_38 : decode cX0_isResting 38 = .ok (.iaload, 1) := by decide +kernel
theorem dX0_isResting_39 : decode cX0_isResting 39 = .ok (.if_icmp .le 5, 3) := by decide +kernel
theorem dX0_isResting_42 : decode cX0_isResting 42 = .ok (.iconst 0, 1) := by decide +kernel
theorem dX0_isResting_43 : decode cX0_isResting 43 = .ok (.ireturn, 1) := by decide +kernel
theorem dX0_isResting_44 : decode cX0_isResting 44 = .ok (.iinc 2 1, 3) := by decide +kernel
theorem dX0_isResting_47 : decode cX0_isResting 47 = .ok (.goto (-45), 3) := by decide +kernel
theorem dX0_isResting_50 : decode cX0_isResting 50 = .ok (.iconst 1, 1) := by decide +kernel
theorem dX0_isResting_51 : decode cX0_isResting 51 = .ok (.ireturn, 1) := by decide +kernel
theorem dX1_init_0 : decode cX1_init 0 = .ok (.aload_n 0, 1) := by decide +kernel
theorem dX1_init_1 : decode cX1_init 1 = .ok (.invokespecial 3, 3) := by decide +kernel
theorem dX1_init_4 : decode cX1_init 4 = .ok (.aload_n 0, 1) := by decide +kernel
theorem dX1_init_5 : decode cX1_init 5 = .ok (.bipush 20, 2) := by decide +kernel
theorem dX1_init_7 : decode cX1_init 7 = .ok (.newarray .int, 2) := by decide +kernel
theorem dX1_init_9 : decode cX1_init 9 = .ok (.putfield 9, 3) := by decide +kernel
theorem dX1_init_12 : decode cX1_init 12 = .ok (.aload_n 0, 1) := by decide +kernel
theorem dX1_init_13 : decode cX1_init 13 = .ok (.bipush 20, 2) := by decide +kernel
theorem dX1_init_15 : decode cX1_init 15 = .ok (.newarray .int, 2) := by decide +kernel
theorem dX1_init_17 : decode cX1_init 17 = .ok (.putfield 15, 3) := by decide +kernel
theorem dX1_init_20 : decode cX1_init 20 = .ok (.aload_n 0, 1) := by decide +kernel
theorem dX1_init_21 : decode cX1_init 21 = .ok (.aload_n 1, 1) := by decide +kernel
theorem dX1_init_22 : decode cX1_init 22 = .ok (.putfield 18, 3) := by decide +kernel
theorem dX1_init_25 : decode cX1_init 25 = .ok (.aload_n 0, 1) := by decide +kernel
theorem dX1_init_26 : decode cX1_init 26 = .ok (.aload_n 2, 1) := by decide +kernel
theorem dX1_init_27 : decode cX1_init 27 = .ok (.putfield 22, 3) := by decide +kernel
theorem dX1_init_30 : decode cX1_init 30 = .ok (.return_, 1) := by decide +kernel
theorem dX1_clear_0 : decode cX1_clear 0 = .ok (.aload_n 0, 1) := by decide +kernel
theorem dX1_clear_1 : decode cX1_clear 1 = .ok (.iconst 0, 1) := by decide +kernel
theorem dX1_clear_2 : decode cX1_clear 2 = .ok (.putfield 26, 3) := by decide +kernel
theorem dX1_clear_5 : decode cX1_clear 5 = .ok (.return_, 1) := by decide +kernel
theorem dX1_add_0 : decode cX1_add 0 = .ok (.aload_n 0, 1) := by decide +kernel
theorem dX1_add_1 : decode cX1_add 1 = .ok (.getfield 26, 3) := by decide +kernel
theorem dX1_add_4 : decode cX1_add 4 = .ok (.ifCond .lt 12, 3) := by decide +kernel
theorem dX1_add_7 : decode cX1_add 7 = .ok (.aload_n 0, 1) := by decide +kernel
theorem dX1_add_8 : decode cX1_add 8 = .ok (.getfield 26, 3) := by decide +kernel
theorem dX1_add_11 : decode cX1_add 11 = .ok (.bipush 20, 2) := by decide +kernel
theorem dX1_add_13 : decode cX1_add 13 = .ok (.if_icmp .lt 5, 3) := by decide +kernel
theorem dX1_add_16 : decode cX1_add 16 = .ok (.iconst (-1), 1) := by decide +kernel
theorem dX1_add_17 : decode cX1_add 17 = .ok (.ireturn, 1) := by decide +kernel
theorem dX1_add_18 : decode cX1_add 18 = .ok (.aload_n 0, 1) := by decide +kernel
theorem dX1_add_19 : decode cX1_add 19 = .ok (.getfield 9, 3) := by decide +kernel
theorem dX1_add_22 : decode cX1_add 22 = .ok (.aload_n 0, 1) := by decide +kernel
theorem dX1_add_23 : decode cX1_add 23 = .ok (.getfield 26, 3) := by decide +kernel
theorem dX1_add_26 : decode cX1_add 26 = .ok (.iload_n 1, 1) := by decide +kernel
theorem dX1_add_27 : decode cX1_add 27 = .ok (.iastore, 1) := by decide +kernel
theorem dX1_add_28 : decode cX1_add 28 = .ok (.aload_n 0, 1) := by decide +kernel
theorem dX1_add_29 : decode cX1_add 29 = .ok (.getfield 15, 3) := by decide +kernel
theorem dX1_add_32 : decode cX1_add 32 = .ok (.aload_n 0, 1) := by decide +kernel
theorem dX1_add_33 : decode cX1_add 33 = .ok (.getfield 26, 3) := by decide +kernel
theorem dX1_add_36 : decode cX1_add 36 = .ok (.iload_n 2, 1) := by decide +kernel
theorem dX1_add_37 : decode cX1_add 37 = .ok (.iastore, 1) := by decide +kernel
theorem dX1_add_38 : decode cX1_add 38 = .ok (.aload_n 0, 1) := by decide +kernel
theorem dX1_add_39 : decode cX1_add 39 = .ok (.dup, 1) := by decide +kernel
theorem dX1_add_40 : decode cX1_add 40 = .ok (.getfield 26, 3) := by decide +kernel
theorem dX1_add_43 : decode cX1_add 43 = .ok (.iconst 1, 1) := by decide +kernel
theorem dX1_add_44 : decode cX1_add 44 = .ok (.iadd, 1) := by decide +kernel
theorem dX1_add_45 : decode cX1_add 45 = .ok (.putfield 26, 3) := by decide +kernel
theorem dX1_add_48 : decode cX1_add 48 = .ok (.aload_n 0, 1) := by decide +kernel
theorem dX1_add_49 : decode cX1_add 49 = .ok (.getfield 26, 3) := by decide +kernel
theorem dX1_add_52 : decode cX1_add 52 = .ok (.iconst 1, 1) := by decide +kernel
theorem dX1_add_53 : decode cX1_add 53 = .ok (.isub, 1) := by decide +kernel
theorem dX1_add_54 : decode cX1_add 54 = .ok (.ireturn, 1) := by decide +kernel
theorem dX1_isKnown_0 : decode cX1_isKnown 0 = .ok (.iload_n 1, 1) := by decide +kernel
theorem dX1_isKnown_1 : decode cX1_isKnown 1 = .ok (.ifCond .lt 15, 3) := by decide +kernel
theorem dX1_isKnown_4 : decode cX1_isKnown 4 = .ok (.iload_n 1, 1) := by decide +kernel
theorem dX1_isKnown_5 : decode cX1_isKnown 5 = .ok (.aload_n 0, 1) := by decide +kernel
theorem dX1_isKnown_6 : decode cX1_isKnown 6 = .ok (.getfield 26, 3) := by decide +kernel
theorem dX1_isKnown_9 : decode cX1_isKnown 9 = .ok (.if_icmp .gt 7, 3) := by decide +kernel
theorem dX1_isKnown_12 : decode cX1_isKnown 12 = .ok (.iconst 1, 1) := by decide +kernel
theorem dX1_isKnown_13 : decode cX1_isKnown 13 = .ok (.goto 4, 3) := by decide +kernel
theorem dX1_isKnown_16 : decode cX1_isKnown 16 = .ok (.iconst 0, 1) := by decide +kernel
theorem dX1_isKnown_17 : decode cX1_isKnown 17 = .ok (.ireturn, 1) := by decide +kernel
theorem dX1_candidates_0 : decode cX1_candidates 0 = .ok (.iconst 0, 1) := by decide +kernel
theorem dX1_candidates_1 : decode cX1_candidates 1 = .ok (.istore_n 3, 1) := by decide +kernel
theorem dX1_candidates_2 : decode cX1_candidates 2 = .ok (.iconst 0, 1) := by decide +kernel
theorem dX1_candidates_3 : decode cX1_candidates 3 = .ok (.istore 4, 2) := by decide +kernel
theorem dX1_candidates_5 : decode cX1_candidates 5 = .ok (.iload 4, 2) := by decide +kernel
theorem dX1_candidates_7 : decode cX1_candidates 7 = .ok (.aload_n 0, 1) := by decide +kernel
theorem dX1_candidates_8 : decode cX1_candidates 8 = .ok (.getfield 18, 3) := by decide +kernel
theorem dX1_candidates_11 : decode cX1_candidates 11 = .ok (.getfield 30, 3) := by decide +kernel
theorem dX1_candidates_14 : decode cX1_candidates 14 = .ok (.if_icmp .ge 27, 3) := by decide +kernel
theorem dX1_candidates_17 : decode cX1_candidates 17 = .ok (.aload_n 0, 1) := by decide +kernel
theorem dX1_candidates_18 : decode cX1_candidates 18 = .ok (.aload_n 1, 1) := by decide +kernel
theorem dX1_candidates_19 : decode cX1_candidates 19 = .ok (.iload 4, 2) := by decide +kernel
theorem dX1_candidates_21 : decode cX1_candidates 21 = .ok (.iload_n 2, 1) := by decide +kernel
theorem dX1_candidates_22 : decode cX1_candidates 22 = .ok (.invokevirtual 35, 3) := by decide +kernel
theorem dX1_candidates_25 : decode cX1_candidates 25 = .ok (.ifCond .eq 10, 3) := by decide +kernel
theorem dX1_candidates_28 : decode cX1_candidates 28 = .ok (.iload_n 3, 1) := by decide +kernel
theorem dX1_candidates_29 : decode cX1_candidates 29 = .ok (.iconst 1, 1) := by decide +kernel
theorem dX1_candidates_30 : decode cX1_candidates 30 = .ok (.iload 4, 2) := by decide +kernel
theorem dX1_candidates_32 : decode cX1_candidates 32 = .ok (.ishl, 1) := by decide +kernel
theorem dX1_candidates_33 : decode cX1_candidates 33 = .ok (.ior, 1) := by decide +kernel
theorem dX1_candidates_34 : decode cX1_candidates 34 = .ok (.istore_n 3, 1) := by decide +kernel
theorem dX1_candidates_35 : decode cX1_candidates 35 = .ok (.iinc 4 1, 3) := by decide +kernel
theorem dX1_candidates_38 : decode cX1_candidates 38 = .ok (.goto (-33), 3) := by decide +kernel
theorem dX1_candidates_41 : decode cX1_candidates 41 = .ok (.iload_n 3, 1) := by decide +kernel
theorem dX1_candidates_42 : decode cX1_candidates 42 = .ok (.ireturn, 1) := by decide +kernel
theorem dX1_mayHave_0 : decode cX1_mayHave 0 = .ok (.iconst 0, 1) := by decide +kernel
theorem dX1_mayHave_1 : decode cX1_mayHave 1 = .ok (.istore 4, 2) := by decide +kernel
theorem dX1_mayHave_3 : decode cX1_mayHave 3 = .ok (.iload 4, 2) := by decide +kernel
theorem dX1_mayHave_5 : decode cX1_mayHave 5 = .ok (.iload_n 3, 1) := by decide +kernel
theorem dX1_mayHave_6 : decode cX1_mayHave 6 = .ok (.if_icmp .ge 64, 3) := by decide +kernel
theorem dX1_mayHave_9 : decode cX1_mayHave 9 = .ok (.iload 4, 2) := by decide +kernel
theorem dX1_mayHave_11 : decode cX1_mayHave 11 = .ok (.bipush 20, 2) := by decide +kernel
theorem dX1_mayHave_13 : decode cX1_mayHave 13 = .ok (.if_icmp .ge 57, 3) := by decide +kernel
theorem dX1_mayHave_16 : decode cX1_mayHave 16 = .ok (.aload_n 0, 1) := by decide +kernel
theorem dX1_mayHave_17 : decode cX1_mayHave 17 = .ok (.getfield 22, 3) := by decide +kernel
theorem dX1_mayHave_20 : decode cX1_mayHave 20 = .ok (.aload_n 1, 1) := by decide +kernel
theorem dX1_mayHave_21 : decode cX1_mayHave 21 = .ok (.iload_n 2, 1) := by decide +kernel
theorem dX1_mayHave_22 : decode cX1_mayHave 22 = .ok (.aload_n 0, 1) := by decide +kernel
theorem dX1_mayHave_23 : decode cX1_mayHave 23 = .ok (.getfield 9, 3) := by decide +kernel
theorem dX1_mayHave_26 : decode cX1_mayHave 26 = .ok (.iload 4, 2) := by decide +kernel
theorem dX1_mayHave_28 : decode cX1_mayHave 28 = .ok (.iaload, 1) := by decide +kernel
theorem dX1_mayHave_29 : decode cX1_mayHave 29 = .ok (.iconst 0, 1) := by decide +kernel
theorem dX1_mayHave_30 : decode cX1_mayHave 30 = .ok (.invokevirtual 39, 3) := by decide +kernel
theorem dX1_mayHave_33 : decode cX1_mayHave 33 = .ok (.istore 5, 2) := by decide +kernel
theorem dX1_mayHave_35 : decode cX1_mayHave 35 = .ok (.iload 5, 2) := by decide +kernel
theorem dX1_mayHave_37 : decode cX1_mayHave 37 = .ok (.bipush 8, 2) := by decide +kernel
theorem dX1_mayHave_39 : decode cX1_mayHave 39 = .ok (.if_icmp .ne 7, 3) := by decide +kernel
theorem dX1_mayHave_42 : decode cX1_mayHave 42 = .ok (.iconst 1, 1) := by decide +kernel
theorem dX1_mayHave_43 : decode cX1_mayHave 43 = .ok (.goto 9, 3) := by decide +kernel
theorem dX1_mayHave_46 : decode cX1_mayHave 46 = .ok (.iconst 1, 1) := by decide +kernel
theorem dX1_mayHave_47 : decode cX1_mayHave 47 = .ok (.iload 5, 2) := by decide +kernel
theorem dX1_mayHave_49 : decode cX1_mayHave 49 = .ok (.invokestatic 45, 3) := by decide +kernel
theorem dX1_mayHave_52 : decode cX1_mayHave 52 = .ok (.aload_n 0, 1) := by decide +kernel
theorem dX1_mayHave_53 : decode cX1_mayHave 53 = .ok (.getfield 15, 3) := by decide +kernel
theorem dX1_mayHave_56 : decode cX1_mayHave 56 = .ok (.iload 4, 2) := by decide +kernel
theorem dX1_mayHave_58 : decode cX1_mayHave 58 = .ok (.iaload, 1) := by decide +kernel
theorem dX1_mayHave_59 : decode cX1_mayHave 59 = .ok (.if_icmp .eq 5, 3) := by decide +kernel
theorem dX1_mayHave_62 : decode cX1_mayHave 62 = .ok (.iconst 0, 1) := by decide +kernel
theorem dX1_mayHave_63 : decode cX1_mayHave 63 = .ok (.ireturn, 1) := by decide +kernel
theorem dX1_mayHave_64 : decode cX1_mayHave 64 = .ok (.iinc 4 1, 3) := by decide +kernel
theorem dX1_mayHave_67 : decode cX1_mayHave 67 = .ok (.goto (-64), 3) := by decide +kernel
theorem dX1_mayHave_70 : decode cX1_mayHave 70 = .ok (.iconst 1, 1) := by decide +kernel
theorem dX1_mayHave_71 : decode cX1_mayHave 71 = .ok (.ireturn, 1) := by decide +kernel
theorem dX1_bestWord_0 : decode cX1_bestWord 0 = .ok (.aload_n 0, 1) := by decide +kernel
theorem dX1_bestWord_1 : decode cX1_bestWord 1 = .ok (.aload_n 1, 1) := by decide +kernel
theorem dX1_bestWord_2 : decode cX1_bestWord 2 = .ok (.iload_n 2, 1) := by decide +kernel
theorem dX1_bestWord_3 : decode cX1_bestWord 3 = .ok (.invokevirtual 51, 3) := by decide +kernel
theorem dX1_bestWord_6 : decode cX1_bestWord 6 = .ok (.istore_n 3, 1) := by decide +kernel
theorem dX1_bestWord_7 : decode cX1_bestWord 7 = .ok (.iload_n 3, 1) := by decide +kernel
theorem dX1_bestWord_8 : decode cX1_bestWord 8 = .ok (.ifCond .ne 6, 3) := by decide +kernel
theorem dX1_bestWord_11 : decode cX1_bestWord 11 = .ok (.bipush (-2), 2) := by decide +kernel
theorem dX1_bestWord_13 : decode cX1_bestWord 13 = .ok (.ireturn, 1) := by decide +kernel
theorem dX1_bestWord_14 : decode cX1_bestWord 14 = .ok (.bipush (-2), 2) := by decide +kernel
theorem dX1_bestWord_16 : decode cX1_bestWord 16 = .ok (.istore 4, 2) := by decide +kernel
theorem dX1_bestWord_18 : decode cX1_bestWord 18 = .ok (.ldc 55, 2) := by decide +kernel
theorem dX1_bestWord_20 : decode cX1_bestWord 20 = .ok (.istore 5, 2) := by decide +kernel
theorem dX1_bestWord_22 : decode cX1_bestWord 22 = .ok (.iconst 0, 1) := by decide +kernel
theorem dX1_bestWord_23 : decode cX1_bestWord 23 = .ok (.istore 6, 2) := by decide +kernel
theorem dX1_bestWord_25 : decode cX1_bestWord 25 = .ok (.iload 6, 2) := by decide +kernel
theorem dX1_bestWord_27 : decode cX1_bestWord 27 = .ok (.bipush 8, 2) := by decide +kernel
theorem dX1_bestWord_29 : decode cX1_bestWord 29 = .ok (.if_icmp .ge 34, 3) := by decide +kernel
theorem dX1_bestWord_32 : decode cX1_bestWord 32 = .ok (.aload_n 0, 1) := by decide +kernel
theorem dX1_bestWord_33 : decode cX1_bestWord 33 = .ok (.aload_n 1, 1) := by decide +kernel
theorem dX1_bestWord_34 : decode cX1_bestWord 34 = .ok (.iload_n 3, 1) := by decide +kernel
theorem dX1_bestWord_35 : decode cX1_bestWord 35 = .ok (.iload 6, 2) := by decide +kernel
theorem dX1_bestWord_37 : decode cX1_bestWord 37 = .ok (.invokevirtual 56, 3) := by decide +kernel
theorem dX1_bestWord_40 : decode cX1_bestWord 40 = .ok (.istore 7, 2) := by decide +kernel
theorem dX1_bestWord_42 : decode cX1_bestWord 42 = .ok (.iload 7, 2) := by decide +kernel
theorem dX1_bestWord_44 : decode cX1_bestWord 44 = .ok (.iload 5, 2) := by decide +kernel
theorem dX1_bestWord_46 : decode cX1_bestWord 46 = .ok (.if_icmp .ge 11, 3) := by decide +kernel
theorem dX1_bestWord_49 : decode cX1_bestWord 49 = .ok (.iload 7, 2) := by decide +kernel
theorem dX1_bestWord_51 : decode cX1_bestWord 51 = .ok (.istore 5, 2) := by decide +kernel
theorem dX1_bestWord_53 : decode cX1_bestWord 53 = .ok (.iload 6, 2) := by decide +kernel
theorem dX1_bestWord_55 : decode cX1_bestWord 55 = .ok (.istore 4, 2) := by decide +kernel
theorem dX1_bestWord_57 : decode cX1_bestWord 57 = .ok (.iinc 6 1, 3) := by decide +kernel
theorem dX1_bestWord_60 : decode cX1_bestWord 60 = .ok (.goto (-35), 3) := by decide +kernel
theorem dX1_bestWord_63 : decode cX1_bestWord 63 = .ok (.iload 4, 2) := by decide +kernel
theorem dX1_bestWord_65 : decode cX1_bestWord 65 = .ok (.ireturn, 1) := by decide +kernel
theorem dX1_mostLeft_0 : decode cX1_mostLeft 0 = .ok (.iconst 0, 1) := by decide +kernel
theorem dX1_mostLeft_1 : decode cX1_mostLeft 1 = .ok (.istore 4, 2) := by decide +kernel
theorem dX1_mostLeft_3 : decode cX1_mostLeft 3 = .ok (.iconst 0, 1) := by decide +kernel
theorem dX1_mostLeft_4 : decode cX1_mostLeft 4 = .ok (.istore 5, 2) := by decide +kernel
theorem dX1_mostLeft_6 : decode cX1_mostLeft 6 = .ok (.iload 5, 2) := by decide +kernel
theorem dX1_mostLeft_8 : decode cX1_mostLeft 8 = .ok (.aload_n 0, 1) := by decide +kernel
theorem dX1_mostLeft_9 : decode cX1_mostLeft 9 = .ok (.getfield 18, 3) := by decide +kernel
theorem dX1_mostLeft_12 : decode cX1_mostLeft 12 = .ok (.getfield 30, 3) := by decide +kernel
theorem dX1_mostLeft_15 : decode cX1_mostLeft 15 = .ok (.if_icmp .ge 48, 3) := by decide +kernel
theorem dX1_mostLeft_18 : decode cX1_mostLeft 18 = .ok (.iload_n 2, 1) := by decide +kernel
theorem dX1_mostLeft_19 : decode cX1_mostLeft 19 = .ok (.iload 5, 2) := by decide +kernel
theorem dX1_mostLeft_21 : decode cX1_mostLeft 21 = .ok (.iushr, 1) := by decide +kernel
theorem dX1_mostLeft_22 : decode cX1_mostLeft 22 = .ok (.iconst 1, 1) := by decide +kernel
theorem dX1_mostLeft_23 : decode cX1_mostLeft 23 = .ok (.iand, 1) := by decide +kernel
theorem dX1_mostLeft_24 : decode cX1_mostLeft 24 = .ok (.ifCond .eq 33, 3) := by decide +kernel
theorem dX1_mostLeft_27 : decode cX1_mostLeft 27 = .ok (.aload_n 0, 1) := by decide +kernel
theorem dX1_mostLeft_28 : decode cX1_mostLeft 28 = .ok (.getfield 22, 3) := by decide +kernel
theorem dX1_mostLeft_31 : decode cX1_mostLeft 31 = .ok (.aload_n 1, 1) := by decide +kernel
theorem dX1_mostLeft_32 : decode cX1_mostLeft 32 = .ok (.iload 5, 2) := by decide +kernel
theorem dX1_mostLeft_34 : decode cX1_mostLeft 34 = .ok (.iload_n 3, 1) := by decide +kernel
theorem dX1_mostLeft_35 : decode cX1_mostLeft 35 = .ok (.iconst 0, 1) := by decide +kernel
theorem dX1_mostLeft_36 : decode cX1_mostLeft 36 = .ok (.invokevirtual 39, 3) := by decide +kernel
theorem dX1_mostLeft_39 : decode cX1_mostLeft 39 = .ok (.istore 6, 2) := by decide +kernel
theorem dX1_mostLeft_41 : decode cX1_mostLeft 41 = .ok (.iload 4, 2) := by decide +kernel
theorem dX1_mostLeft_43 : decode cX1_mostLeft 43 = .ok (.aload_n 0, 1) := by decide +kernel
theorem dX1_mostLeft_44 : decode cX1_mostLeft 44 = .ok (.aload_n 1, 1) := by decide +kernel
theorem dX1_mostLeft_45 : decode cX1_mostLeft 45 = .ok (.iload_n 2, 1) := by decide +kernel
theorem dX1_mostLeft_46 : decode cX1_mostLeft 46 = .ok (.iload_n 3, 1) := by decide +kernel
theorem dX1_mostLeft_47 : decode cX1_mostLeft 47 = .ok (.iload 6, 2) := by decide +kernel
theorem dX1_mostLeft_49 : decode cX1_mostLeft 49 = .ok (.invokevirtual 60, 3) := by decide +kernel
theorem dX1_mostLeft_52 : decode cX1_mostLeft 52 = .ok (.invokestatic 63, 3) := by decide +kernel
theorem dX1_mostLeft_55 : decode cX1_mostLeft 55 = .ok (.istore 4, 2) := by decide +kernel
theorem dX1_mostLeft_57 : decode cX1_mostLeft 57 = .ok (.iinc 5 1, 3) := by decide +kernel
theorem dX1_mostLeft_60 : decode cX1_mostLeft 60 = .ok (.goto (-54), 3) := by decide +kernel
theorem dX1_mostLeft_63 : decode cX1_mostLeft 63 = .ok (.iload 4, 2) := by decide +kernel
theorem dX1_mostLeft_65 : decode cX1_mostLeft 65 = .ok (.ireturn, 1) := by decide +kernel
theorem dX1_leftBy_0 : decode cX1_leftBy 0 = .ok (.iconst 0, 1) := by decide +kernel
theorem dX1_leftBy_1 : decode cX1_leftBy 1 = .ok (.istore 5, 2) := by decide +kernel
theorem dX1_leftBy_3 : decode cX1_leftBy 3 = .ok (.iconst 0, 1) := by decide +kernel
theorem dX1_leftBy_4 : decode cX1_leftBy 4 = .ok (.istore 6, 2) := by decide +kernel
theorem dX1_leftBy_6 : decode cX1_leftBy 6 = .ok (.iload 6, 2) := by decide +kernel
theorem dX1_leftBy_8 : decode cX1_leftBy 8 = .ok (.aload_n 0, 1) := by decide +kernel
theorem dX1_leftBy_9 : decode cX1_leftBy 9 = .ok (.getfield 18, 3) := by decide +kernel
theorem dX1_leftBy_12 : decode cX1_leftBy 12 = .ok (.getfield 30, 3) := by decide +kernel
theorem dX1_leftBy_15 : decode cX1_leftBy 15 = .ok (.if_icmp .ge 38, 3) := by decide +kernel
theorem dX1_leftBy_18 : decode cX1_leftBy 18 = .ok (.iload_n 2, 1) := by decide +kernel
theorem dX1_leftBy_19 : decode cX1_leftBy 19 = .ok (.iload 6, 2) := by decide +kernel
theorem dX1_leftBy_21 : decode cX1_leftBy 21 = .ok (.iushr, 1) := by decide +kernel
theorem dX1_leftBy_22 : decode cX1_leftBy 22 = .ok (.iconst 1, 1) := by decide +kernel
theorem dX1_leftBy_23 : decode cX1_leftBy 23 = .ok (.iand, 1) := by decide +kernel
theorem dX1_leftBy_24 : decode cX1_leftBy 24 = .ok (.ifCond .eq 23, 3) := by decide +kernel
theorem dX1_leftBy_27 : decode cX1_leftBy 27 = .ok (.aload_n 0, 1) := by decide +kernel
theorem dX1_leftBy_28 : decode cX1_leftBy 28 = .ok (.getfield 22, 3) := by decide +kernel
theorem dX1_leftBy_31 : decode cX1_leftBy 31 = .ok (.aload_n 1, 1) := by decide +kernel
theorem dX1_leftBy_32 : decode cX1_leftBy 32 = .ok (.iload 6, 2) := by decide +kernel
theorem dX1_leftBy_34 : decode cX1_leftBy 34 = .ok (.iload_n 3, 1) := by decide +kernel
theorem dX1_leftBy_35 : decode cX1_leftBy 35 = .ok (.iconst 0, 1) := by decide +kernel
theorem dX1_leftBy_36 : decode cX1_leftBy 36 = .ok (.invokevirtual 39, 3) := by decide +kernel
theorem dX1_leftBy_39 : decode cX1_leftBy 39 = .ok (.iload 4, 2) := by decide +kernel
theorem dX1_leftBy_41 : decode cX1_leftBy 41 = .ok (.if_icmp .ne 6, 3) := by decide +kernel
theorem dX1_leftBy_44 : decode cX1_leftBy 44 = .ok (.iinc 5 1, 3) := by decide +kernel
theorem dX1_leftBy_47 : decode cX1_leftBy 47 = .ok (.iinc 6 1, 3) := by decide +kernel
theorem dX1_leftBy_50 : decode cX1_leftBy 50 = .ok (.goto (-44), 3) := by decide +kernel
theorem dX1_leftBy_53 : decode cX1_leftBy 53 = .ok (.iload 5, 2) := by decide +kernel
theorem dX1_leftBy_55 : decode cX1_leftBy 55 = .ok (.ireturn, 1) := by decide +kernel
theorem dX2_init_0 : decode cX2_init 0 = .ok (.aload_n 0, 1) := by decide +kernel
theorem dX2_init_1 : decode cX2_init 1 = .ok (.invokespecial 3, 3) := by decide +kernel
theorem dX2_init_4 : decode cX2_init 4 = .ok (.aload_n 0, 1) := by decide +kernel
theorem dX2_init_5 : decode cX2_init 5 = .ok (.sipush 420, 3) := by decide +kernel
theorem dX2_init_8 : decode cX2_init 8 = .ok (.newarray .int, 2) := by decide +kernel
theorem dX2_init_10 : decode cX2_init 10 = .ok (.putfield 9, 3) := by decide +kernel
theorem dX2_init_13 : decode cX2_init 13 = .ok (.aload_n 0, 1) := by decide +kernel
theorem dX2_init_14 : decode cX2_init 14 = .ok (.bipush 7, 2) := by decide +kernel
theorem dX2_init_16 : decode cX2_init 16 = .ok (.newarray .int, 2) := by decide +kernel
theorem dX2_init_18 : decode cX2_init 18 = .ok (.putfield 15, 3) := by decide +kernel
theorem dX2_init_21 : decode cX2_init 21 = .ok (.aload_n 0, 1) := by decide +kernel
theorem dX2_init_22 : decode cX2_init 22 = .ok (.bipush 20, 2) := by decide +kernel
theorem dX2_init_24 : decode cX2_init 24 = .ok (.newarray .int, 2) := by decide +kernel
theorem dX2_init_26 : decode cX2_init 26 = .ok (.putfield 18, 3) := by decide +kernel
theorem dX2_init_29 : decode cX2_init 29 = .ok (.aload_n 0, 1) := by decide +kernel
theorem dX2_init_30 : decode cX2_init 30 = .ok (.bipush 9, 2) := by decide +kernel
theorem dX2_init_32 : decode cX2_init 32 = .ok (.newarray .int, 2) := by decide +kernel
theorem dX2_init_34 : decode cX2_init 34 = .ok (.putfield 21, 3) := by decide +kernel
theorem dX2_init_37 : decode cX2_init 37 = .ok (.return_, 1) := by decide +kernel
theorem dX2_clear_0 : decode cX2_clear 0 = .ok (.aload_n 0, 1) := by decide +kernel
theorem dX2_clear_1 : decode cX2_clear 1 = .ok (.iconst 0, 1) := by decide +kernel
theorem dX2_clear_2 : decode cX2_clear 2 = .ok (.putfield 24, 3) := by decide +kernel
theorem dX2_clear_5 : decode cX2_clear 5 = .ok (.iconst 0, 1) := by decide +kernel
theorem dX2_clear_6 : decode cX2_clear 6 = .ok (.istore_n 1, 1) := by decide +kernel
theorem dX2_clear_7 : decode cX2_clear 7 = .ok (.iload_n 1, 1) := by decide +kernel
theorem dX2_clear_8 : decode cX2_clear 8 = .ok (.bipush 7, 2) := by decide +kernel
theorem dX2_clear_10 : decode cX2_clear 10 = .ok (.if_icmp .ge 30, 3) := by decide +kernel
theorem dX2_clear_13 : decode cX2_clear 13 = .ok (.aload_n 0, 1) := by decide +kernel
theorem dX2_clear_14 : decode cX2_clear 14 = .ok (.iload_n 1, 1) := by decide +kernel
theorem dX2_clear_15 : decode cX2_clear 15 = .ok (.invokevirtual 28, 3) := by decide +kernel
theorem dX2_clear_18 : decode cX2_clear 18 = .ok (.aload_n 0, 1) := by decide +kernel
theorem dX2_clear_19 : decode cX2_clear 19 = .ok (.iload_n 1, 1) := by decide +kernel
theorem dX2_clear_20 : decode cX2_clear 20 = .ok (.invokestatic 32, 3) := by decide +kernel
theorem dX2_clear_23 : decode cX2_clear 23 = .ok (.invokevirtual 36, 3) := by decide +kernel
theorem dX2_clear_26 : decode cX2_clear 26 = .ok (.pop, 1) := by decide +kernel
theorem dX2_clear_27 : decode cX2_clear 27 = .ok (.aload_n 0, 1) := by decide +kernel
theorem dX2_clear_28 : decode cX2_clear 28 = .ok (.bipush (-14), 2) := by decide +kernel
theorem dX2_clear_30 : decode cX2_clear 30 = .ok (.invokevirtual 36, 3) := by decide +kernel
theorem dX2_clear_33 : decode cX2_clear 33 = .ok (.pop, 1) := by decide +kernel
theorem dX2_clear_34 : decode cX2_clear 34 = .ok (.iinc 1 1, 3) := by decide +kernel
theorem dX2_clear_37 : decode cX2_clear 37 = .ok (.goto (-30), 3) := by decide +kernel
theorem dX2_clear_40 : decode cX2_clear 40 = .ok (.return_, 1) := by decide +kernel
theorem dX2_usual_0 : decode cX2_usual 0 = .ok (.iload_n 0, 1) := by decide +kernel
theorem dX2_usual_1 : decode cX2_usual 1 = .ok (.tableswitch 34 0 2 #[27, 29, 32], 27) := by decide +kernel
theorem dX2_usual_28 : decode cX2_usual 28 = .ok (.iconst 2, 1) := by decide +kernel
theorem dX2_usual_29 : decode cX2_usual 29 = .ok (.ireturn, 1) := by decide +kernel
theorem dX2_usual_30 : decode cX2_usual 30 = .ok (.bipush (-2), 2) := by decide +kernel
theorem dX2_usual_32 : decode cX2_usual 32 = .ok (.ireturn, 1) := by decide +kernel
theorem dX2_usual_33 : decode cX2_usual 33 = .ok (.iconst (-1), 1) := by decide +kernel
theorem dX2_usual_34 : decode cX2_usual 34 = .ok (.ireturn, 1) := by decide +kernel
theorem dX2_usual_35 : decode cX2_usual 35 = .ok (.iconst 0, 1) := by decide +kernel
theorem dX2_usual_36 : decode cX2_usual 36 = .ok (.ireturn, 1) := by decide +kernel
theorem dX2_copy_0 : decode cX2_copy 0 = .ok (.aload_n 1, 1) := by decide +kernel
theorem dX2_copy_1 : decode cX2_copy 1 = .ok (.getfield 9, 3) := by decide +kernel
theorem dX2_copy_4 : decode cX2_copy 4 = .ok (.iconst 0, 1) := by decide +kernel
theorem dX2_copy_5 : decode cX2_copy 5 = .ok (.aload_n 0, 1) := by decide +kernel
theorem dX2_copy_6 : decode cX2_copy 6 = .ok (.getfield 9, 3) := by decide +kernel
theorem dX2_copy_9 : decode cX2_copy 9 = .ok (.iconst 0, 1) := by decide +kernel
theorem dX2_copy_10 : decode cX2_copy 10 = .ok (.sipush 420, 3) := by decide +kernel
theorem dX2_copy_13 : decode cX2_copy 13 = .ok (.invokestatic 39, 3) := by decide +kernel
theorem dX2_copy_16 : decode cX2_copy 16 = .ok (.aload_n 1, 1) := by decide +kernel
theorem dX2_copy_17 : decode cX2_copy 17 = .ok (.getfield 15, 3) := by decide +kernel
theorem dX2_copy_20 : decode cX2_copy 20 = .ok (.iconst 0, 1) := by decide +kernel
theorem dX2_copy_21 : decode cX2_copy 21 = .ok (.aload_n 0, 1) := by decide +kernel
theorem dX2_copy_22 : decode cX2_copy 22 = .ok (.getfield 15, 3) := by decide +kernel
theorem dX2_copy_25 : decode cX2_copy 25 = .ok (.iconst 0, 1) := by decide +kernel
theorem dX2_copy_26 : decode cX2_copy 26 = .ok (.bipush 7, 2) := by decide +kernel
theorem dX2_copy_28 : decode cX2_copy 28 = .ok (.invokestatic 39, 3) := by decide +kernel
theorem dX2_copy_31 : decode cX2_copy 31 = .ok (.aload_n 0, 1) := by decide +kernel
theorem dX2_copy_32 : decode cX2_copy 32 = .ok (.aload_n 1, 1) := by decide +kernel
theorem dX2_copy_33 : decode cX2_copy 33 = .ok (.getfield 24, 3) := by decide +kernel
theorem dX2_copy_36 : decode cX2_copy 36 = .ok (.putfield 24, 3) := by decide +kernel
theorem dX2_copy_39 : decode cX2_copy 39 = .ok (.return_, 1) := by decide +kernel
theorem dX2_begin_0 : decode cX2_begin 0 = .ok (.iload_n 1, 1) := by decide +kernel
theorem dX2_begin_1 : decode cX2_begin 1 = .ok (.ifCond .lt 19, 3) := by decide +kernel
theorem dX2_begin_4 : decode cX2_begin 4 = .ok (.iload_n 1, 1) := by decide +kernel
theorem dX2_begin_5 : decode cX2_begin 5 = .ok (.bipush 7, 2) := by decide +kernel
theorem dX2_begin_7 : decode cX2_begin 7 = .ok (.if_icmp .ge 13, 3) := by decide +kernel
theorem dX2_begin_10 : decode cX2_begin 10 = .ok (.aload_n 0, 1) := by decide +kernel
theorem dX2_begin_11 : decode cX2_begin 11 = .ok (.getfield 15, 3) := by decide +kernel
theorem dX2_begin_14 : decode cX2_begin 14 = .ok (.iload_n 1, 1) := by decide +kernel
theorem dX2_begin_15 : decode cX2_begin 15 = .ok (.aload_n 0, 1) := by decide +kernel
theorem dX2_begin_16 : decode cX2_begin 16 = .ok (.getfield 24, 3) := by decide +kernel
theorem dX2_begin_19 : decode cX2_begin 19 = .ok (.iastore, 1) := by decide +kernel
theorem dX2_begin_20 : decode cX2_begin 20 = .ok (.return_, 1) := by decide +kernel
theorem dX2_add_0 : decode cX2_add 0 = .ok (.aload_n 0, 1) := by decide +kernel
theorem dX2_add_1 : decode cX2_add 1 = .ok (.getfield 24, 3) := by decide +kernel
theorem dX2_add_4 : decode cX2_add 4 = .ok (.istore_n 2, 1) := by decide +kernel
theorem dX2_add_5 : decode cX2_add 5 = .ok (.aload_n 0, 1) := by decide +kernel
theorem dX2_add_6 : decode cX2_add 6 = .ok (.getfield 24, 3) := by decide +kernel
theorem dX2_add_9 : decode cX2_add 9 = .ok (.ifCond .lt 33, 3) := by decide +kernel
theorem dX2_add_12 : decode cX2_add 12 = .ok (.aload_n 0, 1) := by decide +kernel
theorem dX2_add_13 : decode cX2_add 13 = .ok (.getfield 24, 3) := by decide +kernel
theorem dX2_add_16 : decode cX2_add 16 = .ok (.sipush 420, 3) := by decide +kernel
theorem dX2_add_19 : decode cX2_add 19 = .ok (.if_icmp .ge 23, 3) := by decide +kernel
theorem dX2_add_22 : decode cX2_add 22 = .ok (.aload_n 0, 1) := by decide +kernel
theorem dX2_add_23 : decode cX2_add 23 = .ok (.getfield 9, 3) := by decide +kernel
theorem dX2_add_26 : decode cX2_add 26 = .ok (.aload_n 0, 1) := by decide +kernel
theorem dX2_add_27 : decode cX2_add 27 = .ok (.getfield 24, 3) := by decide +kernel
theorem dX2_add_30 : decode cX2_add 30 = .ok (.iload_n 1, 1) := by decide +kernel
theorem dX2_add_31 : decode cX2_add 31 = .ok (.iastore, 1) := by decide +kernel
theorem dX2_add_32 : decode cX2_add 32 = .ok (.aload_n 0, 1) := by decide +kernel
theorem dX2_add_33 : decode cX2_add 33 = .ok (.dup, 1) := by decide +kernel
theorem dX2_add_34 : decode cX2_add 34 = .ok (.getfield 24, 3) := by decide +kernel
theorem dX2_add_37 : decode cX2_add 37 = .ok (.iconst 1, 1) := by decide +kernel
theorem dX2_add_38 : decode cX2_add 38 = .ok (.iadd, 1) := by decide +kernel
theorem dX2_add_39 : decode cX2_add 39 = .ok (.putfield 24, 3) := by decide +kernel
theorem dX2_add_42 : decode cX2_add 42 = .ok (.iload_n 2, 1) := by decide +kernel
theorem dX2_add_43 : decode cX2_add 43 = .ok (.ireturn, 1) := by decide +kernel
theorem dX2_jumpHere_0 : decode cX2_jumpHere 0 = .ok (.iload_n 1, 1) := by decide +kernel
theorem dX2_jumpHere_1 : decode cX2_jumpHere 1 = .ok (.ifCond .lt 23, 3) := by decide +kernel
theorem dX2_jumpHere_4 : decode cX2_jumpHere 4 = .ok (.iload_n 1, 1) := by decide +kernel
theorem dX2_jumpHere_5 : decode cX2_jumpHere 5 = .ok (.sipush 420, 3) := by decide +kernel
theorem dX2_jumpHere_8 : decode cX2_jumpHere 8 = .ok (.if_icmp .ge 16, 3) := by decide +kernel
theorem dX2_jumpHere_11 : decode cX2_jumpHere 11 = .ok (.aload_n 0, 1) := by decide +kernel
theorem dX2_jumpHere_12 : decode cX2_jumpHere 12 = .ok (.getfield 9, 3) := by decide +kernel
theorem dX2_jumpHere_15 : decode cX2_jumpHere 15 = .ok (.iload_n 1, 1) := by decide +kernel
theorem dX2_jumpHere_16 : decode cX2_jumpHere 16 = .ok (.bipush (-100), 2) := by decide +kernel
theorem dX2_jumpHere_18 : decode cX2_jumpHere 18 = .ok (.aload_n 0, 1) := by decide +kernel
theorem dX2_jumpHere_19 : decode cX2_jumpHere 19 = .ok (.getfield 24, 3) := by decide +kernel
theorem dX2_jumpHere_22 : decode cX2_jumpHere 22 = .ok (.isub, 1) := by decide +kernel
theorem dX2_jumpHere_23 : decode cX2_jumpHere 23 = .ok (.iastore, 1) := by decide +kernel
theorem dX2_jumpHere_24 : decode cX2_jumpHere 24 = .ok (.return_, 1) := by decide +kernel
theorem dX2_askIn_0 : decode cX2_askIn 0 = .ok (.iconst 0, 1) := by decide +kernel
theorem dX2_askIn_1 : decode cX2_askIn 1 = .ok (.istore_n 2, 1) := by decide +kernel
theorem dX2_askIn_2 : decode cX2_askIn 2 = .ok (.iload_n 2, 1) := by decide +kernel
theorem dX2_askIn_3 : decode cX2_askIn 3 = .ok (.bipush 9, 2) := by decide +kernel
theorem dX2_askIn_5 : decode cX2_askIn 5 = .ok (.if_icmp .ge 16, 3) := by decide +kernel
theorem dX2_askIn_8 : decode cX2_askIn 8 = .ok (.aload_n 0, 1) := by decide +kernel
theorem dX2_askIn_9 : decode cX2_askIn 9 = .ok (.getfield 21, 3) := by decide +kernel
theorem dX2_askIn_12 : decode cX2_askIn 12 = .ok (.iload_n 2, 1) := by decide +kernel
theorem dX2_askIn_13 : decode cX2_askIn 13 = .ok (.iconst 0, 1) := by decide +kernel
theorem dX2_askIn_14 : decode cX2_askIn 14 = .ok (.iastore, 1) := by decide +kernel
theorem dX2_askIn_15 : decode cX2_askIn 15 = .ok (.iinc 2 1, 3) := by decide +kernel
theorem dX2_askIn_18 : decode cX2_askIn 18 = .ok (.goto (-16), 3) := by decide +kernel
theorem dX2_askIn_21 : decode cX2_askIn 21 = .ok (.aload_n 0, 1) := by decide +kernel
theorem dX2_askIn_22 : decode cX2_askIn 22 = .ok (.getfield 21, 3) := by decide +kernel
theorem dX2_askIn_25 : decode cX2_askIn 25 = .ok (.bipush 6, 2) := by decide +kernel
theorem dX2_askIn_27 : decode cX2_askIn 27 = .ok (.iload_n 1, 1) := by decide +kernel
theorem dX2_askIn_28 : decode cX2_askIn 28 = .ok (.iastore, 1) := by decide +kernel
theorem dX2_askIn_29 : decode cX2_askIn 29 = .ok (.return_, 1) := by decide +kernel
theorem dX2_let_0 : decode cX2_let 0 = .ok (.iload_n 1, 1) := by decide +kernel
theorem dX2_let_1 : decode cX2_let 1 = .ok (.ifCond .lt 16, 3) := by decide +kernel
theorem dX2_let_4 : decode cX2_let 4 = .ok (.iload_n 1, 1) := by decide +kernel
theorem dX2_let_5 : decode cX2_let 5 = .ok (.bipush 9, 2) := by decide +kernel
theorem dX2_let_7 : decode cX2_let 7 = .ok (.if_icmp .ge 10, 3) := by decide +kernel
theorem dX2_let_10 : decode cX2_let 10 = .ok (.aload_n 0, 1) := by decide +kernel
theorem dX2_let_11 : decode cX2_let 11 = .ok (.getfield 21, 3) := by decide +kernel
theorem dX2_let_14 : decode cX2_let 14 = .ok (.iload_n 1, 1) := by decide +kernel
theorem dX2_let_15 : decode cX2_let 15 = .ok (.iload_n 2, 1) := by decide +kernel
theorem dX2_let_16 : decode cX2_let 16 = .ok (.iastore, 1) := by decide +kernel
theorem dX2_let_17 : decode cX2_let 17 = .ok (.return_, 1) := by decide +kernel
theorem dX2_answer_0 : decode cX2_answer 0 = .ok (.iload_n 1, 1) := by decide +kernel
theorem dX2_answer_1 : decode cX2_answer 1 = .ok (.ifCond .lt 18, 3) := by decide +kernel
theorem dX2_answer_4 : decode cX2_answer 4 = .ok (.iload_n 1, 1) := by decide +kernel
theorem dX2_answer_5 : decode cX2_answer 5 = .ok (.bipush 7, 2) := by decide +kernel
theorem dX2_answer_7 : decode cX2_answer 7 = .ok (.if_icmp .ge 12, 3) := by decide +kernel
theorem dX2_answer_10 : decode cX2_answer 10 = .ok (.aload_n 0, 1) := by decide +kernel
theorem dX2_answer_11 : decode cX2_answer 11 = .ok (.getfield 15, 3) := by decide +kernel
theorem dX2_answer_14 : decode cX2_answer 14 = .ok (.iload_n 1, 1) := by decide +kernel
theorem dX2_answer_15 : decode cX2_answer 15 = .ok (.iaload, 1) := by decide +kernel
theorem dX2_answer_16 : decode cX2_answer 16 = .ok (.goto 4, 3) := by decide +kernel
theorem dX2_answer_19 : decode cX2_answer 19 = .ok (.iconst (-1), 1) := by decide +kernel
theorem dX2_answer_20 : decode cX2_answer 20 = .ok (.istore_n 2, 1) := by decide +kernel
theorem dX2_answer_21 : decode cX2_answer 21 = .ok (.iconst 0, 1) := by decide +kernel
theorem dX2_answer_22 : decode cX2_answer 22 = .ok (.istore_n 3, 1) := by decide +kernel
theorem dX2_answer_23 : decode cX2_answer 23 = .ok (.iconst 0, 1) := by decide +kernel
theorem dX2_answer_24 : decode cX2_answer 24 = .ok (.istore 4, 2) := by decide +kernel
theorem dX2_answer_26 : decode cX2_answer 26 = .ok (.iload 4, 2) := by decide +kernel
theorem dX2_answer_28 : decode cX2_answer 28 = .ok (.sipush 420, 3) := by decide +kernel
theorem dX2_answer_31 : decode cX2_answer 31 = .ok (.if_icmp .ge 250, 3) := by decide +kernel
theorem dX2_answer_34 : decode cX2_answer 34 = .ok (.iload_n 2, 1) := by decide +kernel
theorem dX2_answer_35 : decode cX2_answer 35 = .ok (.ifCond .lt 246, 3) := by decide +kernel
theorem dX2_answer_38 : decode cX2_answer 38 = .ok (.iload_n 2, 1) := by decide +kernel
theorem dX2_answer_39 : decode cX2_answer 39 = .ok (.sipush 420, 3) := by decide +kernel
theorem dX2_answer_42 : decode cX2_answer 42 = .ok (.if_icmp .ge 239, 3) := by decide +kernel
theorem dX2_answer_45 : decode cX2_answer 45 = .ok (.aload_n 0, 1) := by decide +kernel
theorem dX2_answer_46 : decode cX2_answer 46 = .ok (.getfield 9, 3) := by decide +kernel
theorem dX2_answer_49 : decode cX2_answer 49 = .ok (.iload_n 2, 1) := by decide +kernel
theorem dX2_answer_50 : decode cX2_answer 50 = .ok (.iaload, 1) := by decide +kernel
theorem dX2_answer_51 : decode cX2_answer 51 = .ok (.istore 5, 2) := by decide +kernel
theorem dX2_answer_53 : decode cX2_answer 53 = .ok (.iinc 2 1, 3) := by decide +kernel
theorem dX2_answer_56 : decode cX2_answer 56 = .ok (.iload 5, 2) := by decide +kernel
theorem dX2_answer_58 : decode cX2_answer 58 = .ok (.bipush (-14), 2) := by decide +kernel
theorem dX2_answer_60 : decode cX2_answer 60 = .ok (.if_icmp .ne 19, 3) := by decide +kernel
theorem dX2_answer_63 : decode cX2_answer 63 = .ok (.iload_n 3, 1) := by decide +kernel
theorem dX2_answer_64 : decode cX2_answer 64 = .ok (.iconst 1, 1) := by decide +kernel
theorem dX2_answer_65 : decode cX2_answer 65 = .ok (.if_icmp .ne 12, 3) := by decide +kernel
theorem dX2_answer_68 : decode cX2_answer 68 = .ok (.aload_n 0, 1) := by decide +kernel
theorem dX2_answer_69 : decode cX2_answer 69 = .ok (.getfield 18, 3) := by decide +kernel
theorem dX2_answer_72 : decode cX2_answer 72 = .ok (.iconst 0, 1) := by decide +kernel
theorem dX2_answer_73 : decode cX2_answer 73 = .ok (.iaload, 1) := by decide +kernel
theorem dX2_answer_74 : decode cX2_answer 74 = .ok (.goto 4, 3) := by decide +kernel
theorem dX2_answer_77 : decode cX2_answer 77 = .ok (.iconst 0, 1) := by decide +kernel
theorem dX2_answer_78 : decode cX2_answer 78 = .ok (.ireturn, 1) := by decide +kernel
theorem dX2_answer_79 : decode cX2_answer 79 = .ok (.iload 5, 2) := by decide +kernel
theorem dX2_answer_81 : decode cX2_answer 81 = .ok (.bipush (-10), 2) := by decide +kernel
theorem dX2_answer_83 : decode cX2_answer 83 = .ok (.if_icmp .le 42, 3) := by decide +kernel
theorem dX2_answer_86 : decode cX2_answer 86 = .ok (.iload_n 3, 1) := by decide +kernel
theorem dX2_answer_87 : decode cX2_answer 87 = .ok (.bipush 20, 2) := by decide +kernel
theorem dX2_answer_89 : decode cX2_answer 89 = .ok (.if_icmp .lt 5, 3) := by decide +kernel
theorem dX2_answer_92 : decode cX2_answer 92 = .ok (.iconst 0, 1) := by decide +kernel
theorem dX2_answer_93 : decode cX2_answer 93 = .ok (.ireturn, 1) := by decide +kernel
theorem dX2_answer_94 : decode cX2_answer 94 = .ok (.aload_n 0, 1) := by decide +kernel
theorem dX2_answer_95 : decode cX2_answer 95 = .ok (.getfield 18, 3) := by decide +kernel
theorem dX2_answer_98 : decode cX2_answer 98 = .ok (.iload_n 3, 1) := by decide +kernel
theorem dX2_answer_99 : decode cX2_answer 99 = .ok (.iload 5, 2) := by decide +kernel
theorem dX2_answer_101 : decode cX2_answer 101 = .ok (.ifCond .lt 8, 3) := by decide +kernel
theorem dX2_answer_104 : decode cX2_answer 104 = .ok (.iload 5, 2) := by decide +kernel
theorem dX2_answer_106 : decode cX2_answer 106 = .ok (.goto 12, 3) := by decide +kernel
theorem dX2_answer_109 : decode cX2_answer 109 = .ok (.aload_n 0, 1) := by decide +kernel
theorem dX2_answer_110 : decode cX2_answer 110 = .ok (.getfield 21, 3) := by decide +kernel
theorem dX2_answer_113 : decode cX2_answer 113 = .ok (.iconst (-1), 1) := by decide +kernel
theorem dX2_answer_114 : decode cX2_answer 114 = .ok (.iload 5, 2) := by decide +kernel
theorem dX2_answer_116 : decode cX2_answer 116 = .ok (.isub, 1) := by decide +kernel
theorem dX2_answer_117 : decode cX2_answer 117 = .ok (.iaload, 1) := by decide +kernel
theorem dX2_answer_118 : decode cX2_answer 118 = .ok (.iastore, 1) := by decide +kernel
theorem dX2_answer_119 : decode cX2_answer 119 = .ok (.iinc 3 1, 3) := by decide +kernel
theorem dX2_answer_122 : decode cX2_answer 122 = .ok (.goto 153, 3) := by decide +kernel
theorem dX2_answer_125 : decode cX2_answer 125 = .ok (.iload_n 3, 1) := by decide +kernel
theorem dX2_answer_126 : decode cX2_answer 126 = .ok (.iconst 2, 1) := by decide +kernel
theorem dX2_answer_127 : decode cX2_answer 127 = .ok (.if_icmp .ge 5, 3) := by decide +kernel
theorem dX2_answer_130 : decode cX2_answer 130 = .ok (.iconst 0, 1) := by decide +kernel
theorem dX2_answer_131 : decode cX2_answer 131 = .ok (.ireturn, 1) := by decide +kernel
theorem dX2_answer_132 : decode cX2_answer 132 = .ok (.iinc 3 (-1), 3) := by decide +kernel
theorem dX2_answer_135 : decode cX2_answer 135 = .ok (.aload_n 0, 1) := by decide +kernel
theorem dX2_answer_136 : decode cX2_answer 136 = .ok (.getfield 18, 3) := by decide +kernel
theorem dX2_answer_139 : decode cX2_answer 139 = .ok (.iload_n 3, 1) := by decide +kernel
theorem dX2_answer_140 : decode cX2_answer 140 = .ok (.iconst 1, 1) := by decide +kernel
theorem dX2_answer_141 : decode cX2_answer 141 = .ok (.isub, 1) := by decide +kernel
theorem dX2_answer_142 : decode cX2_answer 142 = .ok (.iaload, 1) := by decide +kernel
theorem dX2_answer_143 : decode cX2_answer 143 = .ok (.istore 6, 2) := by decide +kernel
theorem dX2_answer_145 : decode cX2_answer 145 = .ok (.aload_n 0, 1) := by decide +kernel
theorem dX2_answer_146 : decode cX2_answer 146 = .ok (.getfield 18, 3) := by decide +kernel
theorem dX2_answer_149 : decode cX2_answer 149 = .ok (.iload_n 3, 1) := by decide +kernel
theorem dX2_answer_150 : decode cX2_answer 150 = .ok (.iaload, 1) := by decide +kernel
theorem dX2_answer_151 : decode cX2_answer 151 = .ok (.istore 7, 2) := by decide +kernel
theorem dX2_answer_153 : decode cX2_answer 153 = .ok (.iload 5, 2) := by decide +kernel
theorem dX2_answer_155 : decode cX2_answer 155 = .ok (.tableswitch 100 (-13) (-10) #[77, 61, 45, 29], 29) := by decide +kernel
theorem dX2_answer_184 : decode cX2_answer 184 = .ok (.aload_n 0, 1) := by decide +kernel
theorem dX2_answer_185 : decode cX2_answer 185 = .ok (.getfield 18, 3) := by decide +kernel
theorem dX2_answer_188 : decode cX2_answer 188 = .ok (.iload_n 3, 1) := by decide +kernel
theorem dX2_answer_189 : decode cX2_answer 189 = .ok (.iconst 1, 1) := by decide +kernel
theorem dX2_answer_190 : decode cX2_answer 190 = .ok (.isub, 1) := by decide +kernel
theorem dX2_answer_191 : decode cX2_answer 191 = .ok (.iload 6, 2) := by decide +kernel
theorem dX2_answer_193 : decode cX2_answer 193 = .ok (.iload 7, 2) := by decide +kernel
theorem dX2_answer_195 : decode cX2_answer 195 = .ok (.iadd, 1) := by decide +kernel
theorem dX2_answer_196 : decode cX2_answer 196 = .ok (.iastore, 1) := by decide +kernel
theorem dX2_answer_197 : decode cX2_answer 197 = .ok (.goto 78, 3) := by decide +kernel
theorem dX2_answer_200 : decode cX2_answer 200 = .ok (.aload_n 0, 1) := by decide +kernel
theorem dX2_answer_201 : decode cX2_answer 201 = .ok (.getfield 18, 3) := by decide +kernel
theorem dX2_answer_204 : decode cX2_answer 204 = .ok (.iload_n 3, 1) := by decide +kernel
theorem dX2_answer_205 : decode cX2_answer 205 = .ok (.iconst 1, 1) := by decide +kernel
theorem dX2_answer_206 : decode cX2_answer 206 = .ok (.isub, 1) := by decide +kernel
theorem dX2_answer_207 : decode cX2_answer 207 = .ok (.iload 6, 2) := by decide +kernel
theorem dX2_answer_209 : decode cX2_answer 209 = .ok (.iload 7, 2) := by decide +kernel
theorem dX2_answer_211 : decode cX2_answer 211 = .ok (.isub, 1) := by decide +kernel
theorem dX2_answer_212 : decode cX2_answer 212 = .ok (.iastore, 1) := by decide +kernel
theorem dX2_answer_213 : decode cX2_answer 213 = .ok (.goto 62, 3) := by decide +kernel
theorem dX2_answer_216 : decode cX2_answer 216 = .ok (.aload_n 0, 1) := by decide +kernel
theorem dX2_answer_217 : decode cX2_answer 217 = .ok (.getfield 18, 3) := by decide +kernel
theorem dX2_answer_220 : decode cX2_answer 220 = .ok (.iload_n 3, 1) := by decide +kernel
theorem dX2_answer_221 : decode cX2_answer 221 = .ok (.iconst 1, 1) := by decide +kernel
theorem dX2_answer_222 : decode cX2_answer 222 = .ok (.isub, 1) := by decide +kernel
theorem dX2_answer_223 : decode cX2_answer 223 = .ok (.iload 6, 2) := by decide +kernel
theorem dX2_answer_225 : decode cX2_answer 225 = .ok (.iload 7, 2) := by decide +kernel
theorem dX2_answer_227 : decode cX2_answer 227 = .ok (.imul, 1) := by decide +kernel
theorem dX2_answer_228 : decode cX2_answer 228 = .ok (.iastore, 1) := by decide +kernel
theorem dX2_answer_229 : decode cX2_answer 229 = .ok (.goto 46, 3) := by decide +kernel
theorem dX2_answer_232 : decode cX2_answer 232 = .ok (.iload 7, 2) := by decide +kernel
theorem dX2_answer_234 : decode cX2_answer 234 = .ok (.ifCond .ne 5, 3) := by decide +kernel
theorem dX2_answer_237 : decode cX2_answer 237 = .ok (.iconst 0, 1) := by decide +kernel
theorem dX2_answer_238 : decode cX2_answer 238 = .ok (.ireturn, 1) := by decide +kernel
theorem dX2_answer_239 : decode cX2_answer 239 = .ok (.aload_n 0, 1) := by decide +kernel
theorem dX2_answer_240 : decode cX2_answer 240 = .ok (.getfield 18, 3) := by decide +kernel
theorem dX2_answer_243 : decode cX2_answer 243 = .ok (.iload_n 3, 1) := by decide +kernel
theorem dX2_answer_244 : decode cX2_answer 244 = .ok (.iconst 1, 1) := by decide +kernel
theorem dX2_answer_245 : decode cX2_answer 245 = .ok (.isub, 1) := by decide +kernel
theorem dX2_answer_246 : decode cX2_answer 246 = .ok (.iload 6, 2) := by decide +kernel
theorem dX2_answer_248 : decode cX2_answer 248 = .ok (.iload 7, 2) := by decide +kernel
theorem dX2_answer_250 : decode cX2_answer 250 = .ok (.idiv, 1) := by decide +kernel
theorem dX2_answer_251 : decode cX2_answer 251 = .ok (.iastore, 1) := by decide +kernel
theorem dX2_answer_252 : decode cX2_answer 252 = .ok (.goto 23, 3) := by decide +kernel
theorem dX2_answer_255 : decode cX2_answer 255 = .ok (.iinc 3 (-1), 3) := by decide +kernel
theorem dX2_answer_258 : decode cX2_answer 258 = .ok (.iload 6, 2) := by decide +kernel
theorem dX2_answer_260 : decode cX2_answer 260 = .ok (.iload 7, 2) := by decide +kernel
theorem dX2_answer_262 : decode cX2_answer 262 = .ok (.if_icmp .ge 7, 3) := by decide +kernel
theorem dX2_answer_265 : decode cX2_answer 265 = .ok (.iload_n 2, 1) := by decide +kernel
theorem dX2_answer_266 : decode cX2_answer 266 = .ok (.goto 8, 3) := by decide +kernel
theorem dX2_answer_269 : decode cX2_answer 269 = .ok (.bipush (-100), 2) := by decide +kernel
theorem dX2_answer_271 : decode cX2_answer 271 = .ok (.iload 5, 2) := by decide +kernel
theorem dX2_answer_273 : decode cX2_answer 273 = .ok (.isub, 1) := by decide +kernel
theorem dX2_answer_274 : decode cX2_answer 274 = .ok (.istore_n 2, 1) := by decide +kernel
theorem dX2_answer_275 : decode cX2_answer 275 = .ok (.iinc 4 1, 3) := by decide +kernel
theorem dX2_answer_278 : decode cX2_answer 278 = .ok (.goto (-252), 3) := by decide +kernel
theorem dX2_answer_281 : decode cX2_answer 281 = .ok (.iconst 0, 1) := by decide +kernel
theorem dX2_answer_282 : decode cX2_answer 282 = .ok (.ireturn, 1) := by decide +kernel
theorem dX3_init_0 : decode cX3_init 0 = .ok (.aload_n 0, 1) := by decide +kernel
theorem dX3_init_1 : decode cX3_init 1 = .ok (.invokespecial 3, 3) := by decide +kernel
theorem dX3_init_4 : decode cX3_init 4 = .ok (.aload_n 0, 1) := by decide +kernel
theorem dX3_init_5 : decode cX3_init 5 = .ok (.bipush 40, 2) := by decide +kernel
theorem dX3_init_7 : decode cX3_init 7 = .ok (.bipush 48, 2) := by decide +kernel
theorem dX3_init_9 : decode cX3_init 9 = .ok (.multianewarray 9 2, 4) := by decide +kernel
theorem dX3_init_13 : decode cX3_init 13 = .ok (.putfield 11, 3) := by decide +kernel
theorem dX3_init_16 : decode cX3_init 16 = .ok (.aload_n 0, 1) := by decide +kernel
theorem dX3_init_17 : decode cX3_init 17 = .ok (.iconst 3, 1) := by decide +kernel
theorem dX3_init_18 : decode cX3_init 18 = .ok (.bipush 48, 2) := by decide +kernel
theorem dX3_init_20 : decode cX3_init 20 = .ok (.multianewarray 9 2, 4) := by decide +kernel
theorem dX3_init_24 : decode cX3_init 24 = .ok (.putfield 16, 3) := by decide +kernel
theorem dX3_init_27 : decode cX3_init 27 = .ok (.aload_n 0, 1) := by decide +kernel
theorem dX3_init_28 : decode cX3_init 28 = .ok (.iconst 3, 1) := by decide +kernel
theorem dX3_init_29 : decode cX3_init 29 = .ok (.newarray .boolean, 2) := by decide +kernel
theorem dX3_init_31 : decode cX3_init 31 = .ok (.putfield 19, 3) := by decide +kernel
theorem dX3_init_34 : decode cX3_init 34 = .ok (.return_, 1) := by decide +kernel
theorem dX3_remember_0 : decode cX3_remember 0 = .ok (.aload_n 0, 1) := by decide +kernel
theorem dX3_remember_1 : decode cX3_remember 1 = .ok (.getfield 23, 3) := by decide +kernel
theorem dX3_remember_4 : decode cX3_remember 4 = .ok (.ifCond .lt 69, 3) := by decide +kernel
theorem dX3_remember_7 : decode cX3_remember 7 = .ok (.aload_n 0, 1) := by decide +kernel
theorem dX3_remember_8 : decode cX3_remember 8 = .ok (.getfield 23, 3) := by decide +kernel
theorem dX3_remember_11 : decode cX3_remember 11 = .ok (.bipush 40, 2) := by decide +kernel
theorem dX3_remember_13 : decode cX3_remember 13 = .ok (.if_icmp .ge 60, 3) := by decide +kernel
theorem dX3_remember_16 : decode cX3_remember 16 = .ok (.aload_n 1, 1) := by decide +kernel
theorem dX3_remember_17 : decode cX3_remember 17 = .ok (.iconst 0, 1) := by decide +kernel
theorem dX3_remember_18 : decode cX3_remember 18 = .ok (.aload_n 0, 1) := by decide +kernel
theorem dX3_remember_19 : decode cX3_remember 19 = .ok (.getfield 11, 3) := by decide +kernel
theorem dX3_remember_22 : decode cX3_remember 22 = .ok (.aload_n 0, 1) := by decide +kernel
theorem dX3_remember_23 : decode cX3_remember 23 = .ok (.getfield 23, 3) := by decide +kernel
theorem dX3_remember_26 : decode cX3_remember 26 = .ok (.aaload, 1) := by decide +kernel
theorem dX3_remember_27 : decode cX3_remember 27 = .ok (.iconst 0, 1) := by decide +kernel
theorem dX3_remember_28 : decode cX3_remember 28 = .ok (.bipush 48, 2) := by decide +kernel
theorem dX3_remember_30 : decode cX3_remember 30 = .ok (.invokestatic 27, 3) := by decide +kernel
theorem dX3_remember_33 : decode cX3_remember 33 = .ok (.aload_n 0, 1) := by decide +kernel
theorem dX3_remember_34 : decode cX3_remember 34 = .ok (.aload_n 0, 1) := by decide +kernel
theorem dX3_remember_35 : decode cX3_remember 35 = .ok (.getfield 23, 3) := by decide +kernel
theorem dX3_remember_38 : decode cX3_remember 38 = .ok (.iconst 1, 1) := by decide +kernel
theorem dX3_remember_39 : decode cX3_remember 39 = .ok (.iadd, 1) := by decide +kernel
theorem dX3_remember_40 : decode cX3_remember 40 = .ok (.bipush 40, 2) := by decide +kernel
theorem dX3_remember_42 : decode cX3_remember 42 = .ok (.if_icmp .ge 12, 3) := by decide +kernel
theorem dX3_remember_45 : decode cX3_remember 45 = .ok (.aload_n 0, 1) := by decide +kernel
theorem dX3_remember_46 : decode cX3_remember 46 = .ok (.getfield 23, 3) := by decide +kernel
theorem dX3_remember_49 : decode cX3_remember 49 = .ok (.iconst 1, 1) := by decide +kernel
theorem dX3_remember_50 : decode cX3_remember 50 = .ok (.iadd, 1) := by decide +kernel
theorem dX3_remember_51 : decode cX3_remember 51 = .ok (.goto 4, 3) := by decide +kernel
theorem dX3_remember_54 : decode cX3_remember 54 = .ok (.iconst 0, 1) := by decide +kernel
theorem dX3_remember_55 : decode cX3_remember 55 = .ok (.putfield 23, 3) := by decide +kernel
theorem dX3_remember_58 : decode cX3_remember 58 = .ok (.aload_n 0, 1) := by decide +kernel
theorem dX3_remember_59 : decode cX3_remember 59 = .ok (.bipush 40, 2) := by decide +kernel
theorem dX3_remember_61 : decode cX3_remember 61 = .ok (.aload_n 0, 1) := by decide +kernel
theorem dX3_remember_62 : decode cX3_remember 62 = .ok (.getfield 33, 3) := by decide +kernel
theorem dX3_remember_65 : decode cX3_remember 65 = .ok (.iconst 1, 1) := by decide +kernel
theorem dX3_remember_66 : decode cX3_remember 66 = .ok (.iadd, 1) := by decide +kernel
theorem dX3_remember_67 : decode cX3_remember 67 = .ok (.invokestatic 36, 3) := by decide +kernel
theorem dX3_remember_70 : decode cX3_remember 70 = .ok (.putfield 33, 3) := by decide +kernel
theorem dX3_remember_73 : decode cX3_remember 73 = .ok (.return_, 1) := by decide +kernel
theorem dX3_takeBack_0 : decode cX3_takeBack 0 = .ok (.aload_n 0, 1) := by decide +kernel
theorem dX3_takeBack_1 : decode cX3_takeBack 1 = .ok (.getfield 23, 3) := by decide +kernel
theorem dX3_takeBack_4 : decode cX3_takeBack 4 = .ok (.ifCond .le 12, 3) := by decide +kernel
theorem dX3_takeBack_7 : decode cX3_takeBack 7 = .ok (.aload_n 0, 1) := by decide +kernel
theorem dX3_takeBack_8 : decode cX3_takeBack 8 = .ok (.getfield 23, 3) := by decide +kernel
theorem dX3_takeBack_11 : decode cX3_takeBack 11 = .ok (.iconst 1, 1) := by decide +kernel
theorem dX3_takeBack_12 : decode cX3_takeBack 12 = .ok (.isub, 1) := by decide +kernel
theorem dX3_takeBack_13 : decode cX3_takeBack 13 = .ok (.goto 5, 3) := by decide +kernel
theorem dX3_takeBack_16 : decode cX3_takeBack 16 = .ok (.bipush 39, 2) := by decide +kernel
theorem dX3_takeBack_18 : decode cX3_takeBack 18 = .ok (.istore_n 2, 1) := by decide +kernel
theorem dX3_takeBack_19 : decode cX3_takeBack 19 = .ok (.aload_n 0, 1) := by decide +kernel
theorem dX3_takeBack_20 : decode cX3_takeBack 20 = .ok (.getfield 33, 3) := by decide +kernel
theorem dX3_takeBack_23 : decode cX3_takeBack 23 = .ok (.ifCond .eq 9, 3) := by decide +kernel
theorem dX3_takeBack_26 : decode cX3_takeBack 26 = .ok (.iload_n 2, 1) := by decide +kernel
theorem dX3_takeBack_27 : decode cX3_takeBack 27 = .ok (.bipush 40, 2) := by decide +kernel
theorem dX3_takeBack_29 : decode cX3_takeBack 29 = .ok (.if_icmp .lt 5, 3) := by decide +kernel
theorem dX3_takeBack_32 : decode cX3_takeBack 32 = .ok (.iconst 0, 1) := by decide +kernel
theorem dX3_takeBack_33 : decode cX3_takeBack 33 = .ok (.ireturn, 1) := by decide +kernel
theorem dX3_takeBack_34 : decode cX3_takeBack 34 = .ok (.aload_n 0, 1) := by decide +kernel
theorem dX3_takeBack_35 : decode cX3_takeBack 35 = .ok (.getfield 11, 3) := by decide +kernel
theorem dX3_takeBack_38 : decode cX3_takeBack 38 = .ok (.iload_n 2, 1) := by decide +kernel
theorem dX3_takeBack_39 : decode cX3_takeBack 39 = .ok (.aaload, 1) := by decide +kernel
theorem dX3_takeBack_40 : decode cX3_takeBack 40 = .ok (.iconst 0, 1) := by decide +kernel
theorem dX3_takeBack_41 : decode cX3_takeBack 41 = .ok (.aload_n 1, 1) := by decide +kernel
theorem dX3_takeBack_42 : decode cX3_takeBack 42 = .ok (.iconst 0, 1) := by decide +kernel
theorem dX3_takeBack_43 : decode cX3_takeBack 43 = .ok (.bipush 48, 2) := by decide +kernel
theorem dX3_takeBack_45 : decode cX3_takeBack 45 = .ok (.invokestatic 27, 3) := by decide +kernel
theorem dX3_takeBack_48 : decode cX3_takeBack 48 = .ok (.aload_n 0, 1) := by decide +kernel
theorem dX3_takeBack_49 : decode cX3_takeBack 49 = .ok (.iload_n 2, 1) := by decide +kernel
theorem dX3_takeBack_50 : decode cX3_takeBack 50 = .ok (.putfield 23, 3) := by decide +kernel
theorem dX3_takeBack_53 : decode cX3_takeBack 53 = .ok (.aload_n 0, 1) := by decide +kernel
theorem dX3_takeBack_54 : decode cX3_takeBack 54 = .ok (.dup, 1) := by decide +kernel
theorem dX3_takeBack_55 : decode cX3_takeBack 55 = .ok (.getfield 33, 3) := by decide +kernel
theorem dX3_takeBack_58 : decode cX3_takeBack 58 = .ok (.iconst 1, 1) := by decide +kernel
theorem dX3_takeBack_59 : decode cX3_takeBack 59 = .ok (.isub, 1) := by decide +kernel
theorem dX3_takeBack_60 : decode cX3_takeBack 60 = .ok (.putfield 33, 3) := by decide +kernel
theorem dX3_takeBack_63 : decode cX3_takeBack 63 = .ok (.iconst 1, 1) := by decide +kernel
theorem dX3_takeBack_64 : decode cX3_takeBack 64 = .ok (.ireturn, 1) := by decide +kernel
theorem dX3_forgetDone_0 : decode cX3_forgetDone 0 = .ok (.aload_n 0, 1) := by decide +kernel
theorem dX3_forgetDone_1 : decode cX3_forgetDone 1 = .ok (.iconst 0, 1) := by decide +kernel
theorem dX3_forgetDone_2 : decode cX3_forgetDone 2 = .ok (.putfield 33, 3) := by decide +kernel
theorem dX3_forgetDone_5 : decode cX3_forgetDone 5 = .ok (.return_, 1) := by decide +kernel
theorem dX3_isSlot_0 : decode cX3_isSlot 0 = .ok (.iload_n 0, 1) := by decide +kernel
theorem dX3_isSlot_1 : decode cX3_isSlot 1 = .ok (.ifCond .lt 12, 3) := by decide +kernel
theorem dX3_isSlot_4 : decode cX3_isSlot 4 = .ok (.iload_n 0, 1) := by decide +kernel
theorem dX3_isSlot_5 : decode cX3_isSlot 5 = .ok (.iconst 3, 1) := by decide +kernel
theorem dX3_isSlot_6 : decode cX3_isSlot 6 = .ok (.if_icmp .ge 7, 3) := by decide +kernel
theorem dX3_isSlot_9 : decode cX3_isSlot 9 = .ok (.iconst 1, 1) := by decide +kernel
theorem dX3_isSlot_10 : decode cX3_isSlot 10 = .ok (.goto 4, 3) := by decide +kernel
theorem dX3_isSlot_13 : decode cX3_isSlot 13 = .ok (.iconst 0, 1) := by decide +kernel
theorem dX3_isSlot_14 : decode cX3_isSlot 14 = .ok (.ireturn, 1) := by decide +kernel
theorem dX3_keep_0 : decode cX3_keep 0 = .ok (.iload_n 1, 1) := by decide +kernel
theorem dX3_keep_1 : decode cX3_keep 1 = .ok (.invokestatic 42, 3) := by decide +kernel
theorem dX3_keep_4 : decode cX3_keep 4 = .ok (.ifCond .ne 5, 3) := by decide +kernel
theorem dX3_keep_7 : decode cX3_keep 7 = .ok (.iconst 0, 1) := by decide +kernel
theorem dX3_keep_8 : decode cX3_keep 8 = .ok (.ireturn, 1) := by decide +kernel
theorem dX3_keep_9 : decode cX3_keep 9 = .ok (.aload_n 2, 1) := by decide +kernel
theorem dX3_keep_10 : decode cX3_keep 10 = .ok (.iconst 0, 1) := by decide +kernel
theorem dX3_keep_11 : decode cX3_keep 11 = .ok (.aload_n 0, 1) := by decide +kernel
theorem dX3_keep_12 : decode cX3_keep 12 = .ok (.getfield 16, 3) := by decide +kernel
theorem dX3_keep_15 : decode cX3_keep 15 = .ok (.iload_n 1, 1) := by decide +kernel
theorem dX3_keep_16 : decode cX3_keep 16 = .ok (.aaload, 1) := by decide +kernel
theorem dX3_keep_17 : decode cX3_keep 17 = .ok (.iconst 0, 1) := by decide +kernel
theorem dX3_keep_18 : decode cX3_keep 18 = .ok (.bipush 48, 2) := by decide +kernel
theorem dX3_keep_20 : decode cX3_keep 20 = .ok (.invokestatic 27, 3) := by decide +kernel
theorem dX3_keep_23 : decode cX3_keep 23 = .ok (.aload_n 0, 1) := by decide +kernel
theorem dX3_keep_24 : decode cX3_keep 24 = .ok (.getfield 19, 3) := by decide +kernel
theorem dX3_keep_27 : decode cX3_keep 27 = .ok (.iload_n 1, 1) := by decide +kernel
theorem dX3_keep_28 : decode cX3_keep 28 = .ok (.iconst 1, 1) := by decide +kernel
theorem dX3_keep_29 : decode cX3_keep 29 = .ok (.bastore, 1) := by decide +kernel
theorem dX3_keep_30 : decode cX3_keep 30 = .ok (.iconst 1, 1) := by decide +kernel
theorem dX3_keep_31 : decode cX3_keep 31 = .ok (.ireturn, 1) := by decide +kernel
theorem dX3_bringBack_0 : decode cX3_bringBack 0 = .ok (.iload_n 1, 1) := by decide +kernel
theorem dX3_bringBack_1 : decode cX3_bringBack 1 = .ok (.invokestatic 42, 3) := by decide +kernel
theorem dX3_bringBack_4 : decode cX3_bringBack 4 = .ok (.ifCond .eq 12, 3) := by decide +kernel
theorem dX3_bringBack_7 : decode cX3_bringBack 7 = .ok (.aload_n 0, 1) := by decide +kernel
theorem dX3_bringBack_8 : decode cX3_bringBack 8 = .ok (.getfield 19, 3) := by decide +kernel
theorem dX3_bringBack_11 : decode cX3_bringBack 11 = .ok (.iload_n 1, 1) := by decide +kernel
theorem dX3_bringBack_12 : decode cX3_bringBack 12 = .ok (.baload, 1) := by decide +kernel
theorem dX3_bringBack_13 : decode cX3_bringBack 13 = .ok (.ifCond .ne 5, 3) := by decide +kernel
theorem dX3_bringBack_16 : decode cX3_bringBack 16 = .ok (.iconst 0, 1) := by decide +kernel
theorem dX3_bringBack_17 : decode cX3_bringBack 17 = .ok (.ireturn, 1) := by decide +kernel
theorem dX3_bringBack_18 : decode cX3_bringBack 18 = .ok (.aload_n 0, 1) := by decide +kernel
theorem dX3_bringBack_19 : decode cX3_bringBack 19 = .ok (.getfield 16, 3) := by decide +kernel
theorem dX3_bringBack_22 : decode cX3_bringBack 22 = .ok (.iload_n 1, 1) := by decide +kernel
theorem dX3_bringBack_23 : decode cX3_bringBack 23 = .ok (.aaload, 1) := by decide +kernel
theorem dX3_bringBack_24 : decode cX3_bringBack 24 = .ok (.iconst 0, 1) := by decide +kernel
theorem dX3_bringBack_25 : decode cX3_bringBack 25 = .ok (.aload_n 2, 1) := by decide +kernel
theorem dX3_bringBack_26 : decode cX3_bringBack 26 = .ok (.iconst 0, 1) := by decide +kernel
theorem dX3_bringBack_27 : decode cX3_bringBack 27 = .ok (.bipush 48, 2) := by decide +kernel
theorem dX3_bringBack_29 : decode cX3_bringBack 29 = .ok (.invokestatic 27, 3) := by decide +kernel
theorem dX3_bringBack_32 : decode cX3_bringBack 32 = .ok (.iconst 1, 1) := by decide +kernel
theorem dX3_bringBack_33 : decode cX3_bringBack 33 = .ok (.ireturn, 1) := by decide +kernel
theorem dX3_emptySlots_0 : decode cX3_emptySlots 0 = .ok (.iconst 0, 1) := by decide +kernel
theorem dX3_emptySlots_1 : decode cX3_emptySlots 1 = .ok (.istore_n 1, 1) := by decide +kernel
theorem dX3_emptySlots_2 : decode cX3_emptySlots 2 = .ok (.iload_n 1, 1) := by decide +kernel
theorem dX3_emptySlots_3 : decode cX3_emptySlots 3 = .ok (.iconst 3, 1) := by decide +kernel
theorem dX3_emptySlots_4 : decode cX3_emptySlots 4 = .ok (.if_icmp .ge 16, 3) := by decide +kernel
theorem dX3_emptySlots_7 : decode cX3_emptySlots 7 = .ok (.aload_n 0, 1) := by decide +kernel
theorem dX3_emptySlots_8 : decode cX3_emptySlots 8 = .ok (.getfield 19, 3) := by decide +kernel
theorem dX3_emptySlots_11 : decode cX3_emptySlots 11 = .ok (.iload_n 1, 1) := by decide +kernel
theorem dX3_emptySlots_12 : decode cX3_emptySlots 12 = .ok (.iconst 0, 1) := by decide +kernel
theorem dX3_emptySlots_13 : decode cX3_emptySlots 13 = .ok (.bastore, 1) := by decide +kernel
theorem dX3_emptySlots_14 : decode cX3_emptySlots 14 = .ok (.iinc 1 1, 3) := by decide +kernel
theorem dX3_emptySlots_17 : decode cX3_emptySlots 17 = .ok (.goto (-15), 3) := by decide +kernel
theorem dX3_emptySlots_20 : decode cX3_emptySlots 20 = .ok (.return_, 1) := by decide +kernel
theorem dX3_heldCount_0 : decode cX3_heldCount 0 = .ok (.iconst 0, 1) := by decide +kernel
theorem dX3_heldCount_1 : decode cX3_heldCount 1 = .ok (.istore_n 1, 1) := by decide +kernel
theorem dX3_heldCount_2 : decode cX3_heldCount 2 = .ok (.iconst 0, 1) := by decide +kernel
theorem dX3_heldCount_3 : decode cX3_heldCount 3 = .ok (.istore_n 2, 1) := by decide +kernel
theorem dX3_heldCount_4 : decode cX3_heldCount 4 = .ok (.iload_n 2, 1) := by decide +kernel
theorem dX3_heldCount_5 : decode cX3_heldCount 5 = .ok (.iconst 3, 1) := by decide +kernel
theorem dX3_heldCount_6 : decode cX3_heldCount 6 = .ok (.if_icmp .ge 21, 3) := by decide +kernel
theorem dX3_heldCount_9 : decode cX3_heldCount 9 = .ok (.aload_n 0, 1) := by decide +kernel
theorem dX3_heldCount_10 : decode cX3_heldCount 10 = .ok (.getfield 19, 3) := by decide +kernel
theorem dX3_heldCount_13 : decode cX3_heldCount 13 = .ok (.iload_n 2, 1) := by decide +kernel
theorem dX3_heldCount_14 : decode cX3_heldCount 14 = .ok (.baload, 1) := by decide +kernel
theorem dX3_heldCount_15 : decode cX3_heldCount 15 = .ok (.ifCond .eq 6, 3) := by decide +kernel
theorem dX3_heldCount_18 : decode cX3_heldCount 18 = .ok (.iinc 1 1, 3) := by decide +kernel
theorem dX3_heldCount_21 : decode cX3_heldCount 21 = .ok (.iinc 2 1, 3) := by decide +kernel
theorem dX3_heldCount_24 : decode cX3_heldCount 24 = .ok (.goto (-20), 3) := by decide +kernel
theorem dX3_heldCount_27 : decode cX3_heldCount 27 = .ok (.iload_n 1, 1) := by decide +kernel
theorem dX3_heldCount_28 : decode cX3_heldCount 28 = .ok (.ireturn, 1) := by decide +kernel
theorem dX5_init_0 : decode cX5_init 0 = .ok (.aload_n 0, 1) := by decide +kernel
theorem dX5_init_1 : decode cX5_init 1 = .ok (.invokespecial 3, 3) := by decide +kernel
theorem dX5_init_4 : decode cX5_init 4 = .ok (.aload_n 0, 1) := by decide +kernel
theorem dX5_init_5 : decode cX5_init 5 = .ok (.bipush 6, 2) := by decide +kernel
theorem dX5_init_7 : decode cX5_init 7 = .ok (.newarray .int, 2) := by decide +kernel
theorem dX5_init_9 : decode cX5_init 9 = .ok (.putfield 9, 3) := by decide +kernel
theorem dX5_init_12 : decode cX5_init 12 = .ok (.return_, 1) := by decide +kernel
theorem dX5_isRow_0 : decode cX5_isRow 0 = .ok (.iload_n 0, 1) := by decide +kernel
theorem dX5_isRow_1 : decode cX5_isRow 1 = .ok (.invokestatic 15, 3) := by decide +kernel
theorem dX5_isRow_4 : decode cX5_isRow 4 = .ok (.iconst (-1), 1) := by decide +kernel
theorem dX5_isRow_5 : decode cX5_isRow 5 = .ok (.if_icmp .eq 7, 3) := by decide +kernel
theorem dX5_isRow_8 : decode cX5_isRow 8 = .ok (.iconst 1, 1) := by decide +kernel
theorem dX5_isRow_9 : decode cX5_isRow 9 = .ok (.goto 4, 3) := by decide +kernel
theorem dX5_isRow_12 : decode cX5_isRow 12 = .ok (.iconst 0, 1) := by decide +kernel
theorem dX5_isRow_13 : decode cX5_isRow 13 = .ok (.ireturn, 1) := by decide +kernel
theorem dX5_size_0 : decode cX5_size 0 = .ok (.iconst 0, 1) := by decide +kernel
theorem dX5_size_1 : decode cX5_size 1 = .ok (.istore_n 1, 1) := by decide +kernel
theorem dX5_size_2 : decode cX5_size 2 = .ok (.iload_n 1, 1) := by decide +kernel
theorem dX5_size_3 : decode cX5_size 3 = .ok (.iconst 5, 1) := by decide +kernel
theorem dX5_size_4 : decode cX5_size 4 = .ok (.if_icmp .gt 29, 3) := by decide +kernel
theorem dX5_size_7 : decode cX5_size 7 = .ok (.iconst 1, 1) := by decide +kernel
theorem dX5_size_8 : decode cX5_size 8 = .ok (.iconst 3, 1) := by decide +kernel
theorem dX5_size_9 : decode cX5_size 9 = .ok (.iload_n 1, 1) := by decide +kernel
theorem dX5_size_10 : decode cX5_size 10 = .ok (.imul, 1) := by decide +kernel
theorem dX5_size_11 : decode cX5_size 11 = .ok (.ishl, 1) := by decide +kernel
theorem dX5_size_12 : decode cX5_size 12 = .ok (.istore_n 2, 1) := by decide +kernel
theorem dX5_size_13 : decode cX5_size 13 = .ok (.iload_n 0, 1) := by decide +kernel
theorem dX5_size_14 : decode cX5_size 14 = .ok (.iload_n 2, 1) := by decide +kernel
theorem dX5_size_15 : decode cX5_size 15 = .ok (.if_icmp .lt 12, 3) := by decide +kernel
theorem dX5_size_18 : decode cX5_size 18 = .ok (.iload_n 0, 1) := by decide +kernel
theorem dX5_size_19 : decode cX5_size 19 = .ok (.iconst 2, 1) := by decide +kernel
theorem dX5_size_20 : decode cX5_size 20 = .ok (.iload_n 2, 1) := by decide +kernel
theorem dX5_size_21 : decode cX5_size 21 = .ok (.imul, 1) := by decide +kernel
theorem dX5_size_22 : decode cX5_size 22 = .ok (.if_icmp .ge 5, 3) := by decide +kernel
theorem dX5_size_25 : decode cX5_size 25 = .ok (.iload_n 1, 1) := by decide +kernel
theorem dX5_size_26 : decode cX5_size 26 = .ok (.ireturn, 1) := by decide +kernel
theorem dX5_size_27 : decode cX5_size 27 = .ok (.iinc 1 1, 3) := by decide +kernel
theorem dX5_size_30 : decode cX5_size 30 = .ok (.goto (-28), 3) := by decide +kernel
theorem dX5_size_33 : decode cX5_size 33 = .ok (.iconst (-1), 1) := by decide +kernel
theorem dX5_size_34 : decode cX5_size 34 = .ok (.ireturn, 1) := by decide +kernel
theorem dX5_wordAt_0 : decode cX5_wordAt 0 = .ok (.iload_n 1, 1) := by decide +kernel
theorem dX5_wordAt_1 : decode cX5_wordAt 1 = .ok (.iconst 1, 1) := by decide +kernel
theorem dX5_wordAt_2 : decode cX5_wordAt 2 = .ok (.isub, 1) := by decide +kernel
theorem dX5_wordAt_3 : decode cX5_wordAt 3 = .ok (.iload_n 2, 1) := by decide +kernel
theorem dX5_wordAt_4 : decode cX5_wordAt 4 = .ok (.isub, 1) := by decide +kernel
theorem dX5_wordAt_5 : decode cX5_wordAt 5 = .ok (.istore_n 3, 1) := by decide +kernel
theorem dX5_wordAt_6 : decode cX5_wordAt 6 = .ok (.iload_n 2, 1) := by decide +kernel
theorem dX5_wordAt_7 : decode cX5_wordAt 7 = .ok (.ifCond .lt 18, 3) := by decide +kernel
theorem dX5_wordAt_10 : decode cX5_wordAt 10 = .ok (.iload_n 3, 1) := by decide +kernel
theorem dX5_wordAt_11 : decode cX5_wordAt 11 = .ok (.ifCond .lt 14, 3) := by decide +kernel
theorem dX5_wordAt_14 : decode cX5_wordAt 14 = .ok (.iload_n 0, 1) := by decide +kernel
theorem dX5_wordAt_15 : decode cX5_wordAt 15 = .ok (.iconst 3, 1) := by decide +kernel
theorem dX5_wordAt_16 : decode cX5_wordAt 16 = .ok (.iload_n 3, 1) := by decide +kernel
theorem dX5_wordAt_17 : decode cX5_wordAt 17 = .ok (.imul, 1) := by decide +kernel
theorem dX5_wordAt_18 : decode cX5_wordAt 18 = .ok (.iushr, 1) := by decide +kernel
theorem dX5_wordAt_19 : decode cX5_wordAt 19 = .ok (.bipush 7, 2) := by decide +kernel
theorem dX5_wordAt_21 : decode cX5_wordAt 21 = .ok (.iand, 1) := by decide +kernel
theorem dX5_wordAt_22 : decode cX5_wordAt 22 = .ok (.goto 4, 3) := by decide +kernel
theorem dX5_wordAt_25 : decode cX5_wordAt 25 = .ok (.iconst 0, 1) := by decide +kernel
theorem dX5_wordAt_26 : decode cX5_wordAt 26 = .ok (.ireturn, 1) := by decide +kernel
theorem dX5_with_0 : decode cX5_with 0 = .ok (.iload_n 0, 1) := by decide +kernel
theorem dX5_with_1 : decode cX5_with 1 = .ok (.bipush 8, 2) := by decide +kernel
theorem dX5_with_3 : decode cX5_with 3 = .ok (.imul, 1) := by decide +kernel
theorem dX5_with_4 : decode cX5_with 4 = .ok (.iload_n 1, 1) := by decide +kernel
theorem dX5_with_5 : decode cX5_with 5 = .ok (.iadd, 1) := by decide +kernel
theorem dX5_with_6 : decode cX5_with 6 = .ok (.ireturn, 1) := by decide +kernel
theorem dX5_changes_0 : decode cX5_changes 0 = .ok (.iload_n 1, 1) := by decide +kernel
theorem dX5_changes_1 : decode cX5_changes 1 = .ok (.invokestatic 15, 3) := by decide +kernel
theorem dX5_changes_4 : decode cX5_changes 4 = .ok (.istore_n 3, 1) := by decide +kernel
theorem dX5_changes_5 : decode cX5_changes 5 = .ok (.iload_n 2, 1) := by decide +kernel
theorem dX5_changes_6 : decode cX5_changes 6 = .ok (.invokestatic 15, 3) := by decide +kernel
theorem dX5_changes_9 : decode cX5_changes 9 = .ok (.istore 4, 2) := by decide +kernel
theorem dX5_changes_11 : decode cX5_changes 11 = .ok (.iload_n 3, 1) := by decide +kernel
theorem dX5_changes_12 : decode cX5_changes 12 = .ok (.iconst (-1), 1) := by decide +kernel
theorem dX5_changes_13 : decode cX5_changes 13 = .ok (.if_icmp .eq 9, 3) := by decide +kernel
theorem dX5_changes_16 : decode cX5_changes 16 = .ok (.iload 4, 2) := by decide +kernel
theorem dX5_changes_18 : decode cX5_changes 18 = .ok (.iconst (-1), 1) := by decide +kernel
theorem dX5_changes_19 : decode cX5_changes 19 = .ok (.if_icmp .ne 5, 3) := by decide +kernel
theorem dX5_changes_22 : decode cX5_changes 22 = .ok (.iconst (-1), 1) := by decide +kernel
theorem dX5_changes_23 : decode cX5_changes 23 = .ok (.ireturn, 1) := by decide +kernel
theorem dX5_changes_24 : decode cX5_changes 24 = .ok (.iconst 0, 1) := by decide +kernel
theorem dX5_changes_25 : decode cX5_changes 25 = .ok (.istore 5, 2) := by decide +kernel
theorem dX5_changes_27 : decode cX5_changes 27 = .ok (.iload 5, 2) := by decide +kernel
theorem dX5_changes_29 : decode cX5_changes 29 = .ok (.iload 4, 2) := by decide +kernel
theorem dX5_changes_31 : decode cX5_changes 31 = .ok (.if_icmp .gt 28, 3) := by decide +kernel
theorem dX5_changes_34 : decode cX5_changes 34 = .ok (.iload 5, 2) := by decide +kernel
theorem dX5_changes_36 : decode cX5_changes 36 = .ok (.aload_n 0, 1) := by decide +kernel
theorem dX5_changes_37 : decode cX5_changes 37 = .ok (.getfield 9, 3) := by decide +kernel
theorem dX5_changes_40 : decode cX5_changes 40 = .ok (.arraylength, 1) := by decide +kernel
theorem dX5_changes_41 : decode cX5_changes 41 = .ok (.if_icmp .ge 18, 3) := by decide +kernel
theorem dX5_changes_44 : decode cX5_changes 44 = .ok (.aload_n 0, 1) := by decide +kernel
theorem dX5_changes_45 : decode cX5_changes 45 = .ok (.getfield 9, 3) := by decide +kernel
theorem dX5_changes_48 : decode cX5_changes 48 = .ok (.iload 5, 2) := by decide +kernel
theorem dX5_changes_50 : decode cX5_changes 50 = .ok (.iload 5, 2) := by decide +kernel
theorem dX5_changes_52 : decode cX5_changes 52 = .ok (.iastore, 1) := by decide +kernel
theorem dX5_changes_53 : decode cX5_changes 53 = .ok (.iinc 5 1, 3) := by decide +kernel
theorem dX5_changes_56 : decode cX5_changes 56 = .ok (.goto (-29), 3) := by decide +kernel
theorem dX5_changes_59 : decode cX5_changes 59 = .ok (.iconst 1, 1) := by decide +kernel
theorem dX5_changes_60 : decode cX5_changes 60 = .ok (.istore 5, 2) := by decide +kernel
theorem dX5_changes_62 : decode cX5_changes 62 = .ok (.iload 5, 2) := by decide +kernel
theorem dX5_changes_64 : decode cX5_changes 64 = .ok (.iload_n 3, 1) := by decide +kernel
theorem dX5_changes_65 : decode cX5_changes 65 = .ok (.if_icmp .gt 27, 3) := by decide +kernel
theorem dX5_changes_68 : decode cX5_changes 68 = .ok (.aload_n 0, 1) := by decide +kernel
theorem dX5_changes_69 : decode cX5_changes 69 = .ok (.iload 5, 2) := by decide +kernel
theorem dX5_changes_71 : decode cX5_changes 71 = .ok (.iload_n 1, 1) := by decide +kernel
theorem dX5_changes_72 : decode cX5_changes 72 = .ok (.iload_n 3, 1) := by decide +kernel
theorem dX5_changes_73 : decode cX5_changes 73 = .ok (.iload 5, 2) := by decide +kernel
theorem dX5_changes_75 : decode cX5_changes 75 = .ok (.iconst 1, 1) := by decide +kernel
theorem dX5_changes_76 : decode cX5_changes 76 = .ok (.isub, 1) := by decide +kernel
theorem dX5_changes_77 : decode cX5_changes 77 = .ok (.invokestatic 19, 3) := by decide +kernel
theorem dX5_changes_80 : decode cX5_changes 80 = .ok (.iload_n 2, 1) := by decide +kernel
theorem dX5_changes_81 : decode cX5_changes 81 = .ok (.iload 4, 2) := by decide +kernel
theorem dX5_changes_83 : decode cX5_changes 83 = .ok (.invokevirtual 23, 3) := by decide +kernel
theorem dX5_changes_86 : decode cX5_changes 86 = .ok (.iinc 5 1, 3) := by decide +kernel
theorem dX5_changes_89 : decode cX5_changes 89 = .ok (.goto (-27), 3) := by decide +kernel
theorem dX5_changes_92 : decode cX5_changes 92 = .ok (.iload 4, 2) := by decide +kernel
theorem dX5_changes_94 : decode cX5_changes 94 = .ok (.aload_n 0, 1) := by decide +kernel
theorem dX5_changes_95 : decode cX5_changes 95 = .ok (.getfield 9, 3) := by decide +kernel
theorem dX5_changes_98 : decode cX5_changes 98 = .ok (.arraylength, 1) := by decide +kernel
theorem dX5_changes_99 : decode cX5_changes 99 = .ok (.if_icmp .ge 13, 3) := by decide +kernel
theorem dX5_changes_102 : decode cX5_changes 102 = .ok (.aload_n 0, 1) := by decide +kernel
theorem dX5_changes_103 : decode cX5_changes 103 = .ok (.getfield 9, 3) := by decide +kernel
theorem dX5_changes_106 : decode cX5_changes 106 = .ok (.iload 4, 2) := by decide +kernel
theorem dX5_changes_108 : decode cX5_changes 108 = .ok (.iaload, 1) := by decide +kernel
theorem dX5_changes_109 : decode cX5_changes 109 = .ok (.goto 4, 3) := by decide +kernel
theorem dX5_changes_112 : decode cX5_changes 112 = .ok (.iconst (-1), 1) := by decide +kernel
theorem dX5_changes_113 : decode cX5_changes 113 = .ok (.ireturn, 1) := by decide +kernel
theorem dX5_goDown_0 : decode cX5_goDown 0 = .ok (.aload_n 0, 1) := by decide +kernel
theorem dX5_goDown_1 : decode cX5_goDown 1 = .ok (.getfield 9, 3) := by decide +kernel
theorem dX5_goDown_4 : decode cX5_goDown 4 = .ok (.iconst 0, 1) := by decide +kernel
theorem dX5_goDown_5 : decode cX5_goDown 5 = .ok (.iaload, 1) := by decide +kernel
theorem dX5_goDown_6 : decode cX5_goDown 6 = .ok (.istore 5, 2) := by decide +kernel
theorem dX5_goDown_8 : decode cX5_goDown 8 = .ok (.aload_n 0, 1) := by decide +kernel
theorem dX5_goDown_9 : decode cX5_goDown 9 = .ok (.getfield 9, 3) := by decide +kernel
theorem dX5_goDown_12 : decode cX5_goDown 12 = .ok (.iconst 0, 1) := by decide +kernel
theorem dX5_goDown_13 : decode cX5_goDown 13 = .ok (.iload_n 1, 1) := by decide +kernel
theorem dX5_goDown_14 : decode cX5_goDown 14 = .ok (.iastore, 1) := by decide +kernel
theorem dX5_goDown_15 : decode cX5_goDown 15 = .ok (.iconst 1, 1) := by decide +kernel
theorem dX5_goDown_16 : decode cX5_goDown 16 = .ok (.istore 6, 2) := by decide +kernel
theorem dX5_goDown_18 : decode cX5_goDown 18 = .ok (.iload 6, 2) := by decide +kernel
theorem dX5_goDown_20 : decode cX5_goDown 20 = .ok (.iload 4, 2) := by decide +kernel
theorem dX5_goDown_22 : decode cX5_goDown 22 = .ok (.if_icmp .gt 85, 3) := by decide +kernel
theorem dX5_goDown_25 : decode cX5_goDown 25 = .ok (.iload 6, 2) := by decide +kernel
theorem dX5_goDown_27 : decode cX5_goDown 27 = .ok (.aload_n 0, 1) := by decide +kernel
theorem dX5_goDown_28 : decode cX5_goDown 28 = .ok (.getfield 9, 3) := by decide +kernel
theorem dX5_goDown_31 : decode cX5_goDown 31 = .ok (.arraylength, 1) := by decide +kernel
theorem dX5_goDown_32 : decode cX5_goDown 32 = .ok (.if_icmp .ge 75, 3) := by decide +kernel
theorem dX5_goDown_35 : decode cX5_goDown 35 = .ok (.iload 5, 2) := by decide +kernel
theorem dX5_goDown_37 : decode cX5_goDown 37 = .ok (.iload_n 3, 1) := by decide +kernel
theorem dX5_goDown_38 : decode cX5_goDown 38 = .ok (.iload 4, 2) := by decide +kernel
theorem dX5_goDown_40 : decode cX5_goDown 40 = .ok (.iload 6, 2) := by decide +kernel
theorem dX5_goDown_42 : decode cX5_goDown 42 = .ok (.iconst 1, 1) := by decide +kernel
theorem dX5_goDown_43 : decode cX5_goDown 43 = .ok (.isub, 1) := by decide +kernel
theorem dX5_goDown_44 : decode cX5_goDown 44 = .ok (.invokestatic 19, 3) := by decide +kernel
theorem dX5_goDown_47 : decode cX5_goDown 47 = .ok (.iload_n 2, 1) := by decide +kernel
theorem dX5_goDown_48 : decode cX5_goDown 48 = .ok (.if_icmp .ne 7, 3) := by decide +kernel
theorem dX5_goDown_51 : decode cX5_goDown 51 = .ok (.iconst 0, 1) := by decide +kernel
theorem dX5_goDown_52 : decode cX5_goDown 52 = .ok (.goto 4, 3) := by decide +kernel
theorem dX5_goDown_55 : decode cX5_goDown 55 = .ok (.iconst 1, 1) := by decide +kernel
theorem dX5_goDown_56 : decode cX5_goDown 56 = .ok (.iadd, 1) := by decide +kernel
theorem dX5_goDown_57 : decode cX5_goDown 57 = .ok (.istore 7, 2) := by decide +kernel
theorem dX5_goDown_59 : decode cX5_goDown 59 = .ok (.aload_n 0, 1) := by decide +kernel
theorem dX5_goDown_60 : decode cX5_goDown 60 = .ok (.getfield 9, 3) := by decide +kernel
theorem dX5_goDown_63 : decode cX5_goDown 63 = .ok (.iload 6, 2) := by decide +kernel
theorem dX5_goDown_65 : decode cX5_goDown 65 = .ok (.iaload, 1) := by decide +kernel
theorem dX5_goDown_66 : decode cX5_goDown 66 = .ok (.istore 5, 2) := by decide +kernel
theorem dX5_goDown_68 : decode cX5_goDown 68 = .ok (.aload_n 0, 1) := by decide +kernel
theorem dX5_goDown_69 : decode cX5_goDown 69 = .ok (.getfield 9, 3) := by decide +kernel
theorem dX5_goDown_72 : decode cX5_goDown 72 = .ok (.iload 6, 2) := by decide +kernel
theorem dX5_goDown_74 : decode cX5_goDown 74 = .ok (.iload 7, 2) := by decide +kernel
theorem dX5_goDown_76 : decode cX5_goDown 76 = .ok (.iconst 1, 1) := by decide +kernel
theorem dX5_goDown_77 : decode cX5_goDown 77 = .ok (.aload_n 0, 1) := by decide +kernel
theorem dX5_goDown_78 : decode cX5_goDown 78 = .ok (.getfield 9, 3) := by decide +kernel
theorem dX5_goDown_81 : decode cX5_goDown 81 = .ok (.iload 6, 2) := by decide +kernel
theorem dX5_goDown_83 : decode cX5_goDown 83 = .ok (.iaload, 1) := by decide +kernel
theorem dX5_goDown_84 : decode cX5_goDown 84 = .ok (.aload_n 0, 1) := by decide +kernel
theorem dX5_goDown_85 : decode cX5_goDown 85 = .ok (.getfield 9, 3) := by decide +kernel
theorem dX5_goDown_88 : decode cX5_goDown 88 = .ok (.iload 6, 2) := by decide +kernel
theorem dX5_goDown_90 : decode cX5_goDown 90 = .ok (.iconst 1, 1) := by decide +kernel
theorem dX5_goDown_91 : decode cX5_goDown 91 = .ok (.isub, 1) := by decide +kernel
theorem dX5_goDown_92 : decode cX5_goDown 92 = .ok (.iaload, 1) := by decide +kernel
theorem dX5_goDown_93 : decode cX5_goDown 93 = .ok (.invokestatic 27, 3) := by decide +kernel
theorem dX5_goDown_96 : decode cX5_goDown 96 = .ok (.iadd, 1) := by decide +kernel
theorem dX5_goDown_97 : decode cX5_goDown 97 = .ok (.invokestatic 27, 3) := by decide +kernel
theorem dX5_goDown_100 : decode cX5_goDown 100 = .ok (.iastore, 1) := by decide +kernel
theorem dX5_goDown_101 : decode cX5_goDown 101 = .ok (.iinc 6 1, 3) := by decide +kernel
theorem dX5_goDown_104 : decode cX5_goDown 104 = .ok (.goto (-86), 3) := by decide +kernel
theorem dX5_goDown_107 : decode cX5_goDown 107 = .ok (.return_, 1) := by decide +kernel
theorem dX6_init_0 : decode cX6_init 0 = .ok (.aload_n 0, 1) := by decide +kernel
theorem dX6_init_1 : decode cX6_init 1 = .ok (.invokespecial 3, 3) := by decide +kernel
theorem dX6_init_4 : decode cX6_init 4 = .ok (.aload_n 0, 1) := by decide +kernel
theorem dX6_init_5 : decode cX6_init 5 = .ok (.new 9, 3) := by decide +kernel
theorem dX6_init_8 : decode cX6_init 8 = .ok (.dup, 1) := by decide +kernel
theorem dX6_init_9 : decode cX6_init 9 = .ok (.invokespecial 11, 3) := by decide +kernel
theorem dX6_init_12 : decode cX6_init 12 = .ok (.putfield 12, 3) := by decide +kernel
theorem dX6_init_15 : decode cX6_init 15 = .ok (.aload_n 0, 1) := by decide +kernel
theorem dX6_init_16 : decode cX6_init 16 = .ok (.bipush 32, 2) := by decide +kernel
theorem dX6_init_18 : decode cX6_init 18 = .ok (.newarray .int, 2) := by decide +kernel
theorem dX6_init_20 : decode cX6_init 20 = .ok (.putfield 18, 3) := by decide +kernel
theorem dX6_init_23 : decode cX6_init 23 = .ok (.aload_n 0, 1) := by decide +kernel
theorem dX6_init_24 : decode cX6_init 24 = .ok (.bipush 30, 2) := by decide +kernel
theorem dX6_init_26 : decode cX6_init 26 = .ok (.newarray .boolean, 2) := by decide +kernel
theorem dX6_init_28 : decode cX6_init 28 = .ok (.putfield 22, 3) := by decide +kernel
theorem dX6_init_31 : decode cX6_init 31 = .ok (.aload_n 0, 1) := by decide +kernel
theorem dX6_init_32 : decode cX6_init 32 = .ok (.bipush 12, 2) := by decide +kernel
theorem dX6_init_34 : decode cX6_init 34 = .ok (.newarray .int, 2) := by decide +kernel
theorem dX6_init_36 : decode cX6_init 36 = .ok (.putfield 26, 3) := by decide +kernel
theorem dX6_init_39 : decode cX6_init 39 = .ok (.aload_n 0, 1) := by decide +kernel
theorem dX6_init_40 : decode cX6_init 40 = .ok (.iconst 3, 1) := by decide +kernel
theorem dX6_init_41 : decode cX6_init 41 = .ok (.newarray .int, 2) := by decide +kernel
theorem dX6_init_43 : decode cX6_init 43 = .ok (.putfield 29, 3) := by decide +kernel
theorem dX6_init_46 : decode cX6_init 46 = .ok (.aload_n 0, 1) := by decide +kernel
theorem dX6_init_47 : decode cX6_init 47 = .ok (.aload_n 1, 1) := by decide +kernel
theorem dX6_init_48 : decode cX6_init 48 = .ok (.putfield 32, 3) := by decide +kernel
theorem dX6_init_51 : decode cX6_init 51 = .ok (.aload_n 0, 1) := by decide +kernel
theorem dX6_init_52 : decode cX6_init 52 = .ok (.aload_n 2, 1) := by decide +kernel
theorem dX6_init_53 : decode cX6_init 53 = .ok (.putfield 36, 3) := by decide +kernel
theorem dX6_init_56 : decode cX6_init 56 = .ok (.return_, 1) := by decide +kernel
theorem dX6_lostByTwo_0 : decode cX6_lostByTwo 0 = .ok (.aload_n 0, 1) := by decide +kernel
theorem dX6_lostByTwo_1 : decode cX6_lostByTwo 1 = .ok (.getfield 12, 3) := by decide +kernel
theorem dX6_lostByTwo_4 : decode cX6_lostByTwo 4 = .ok (.iload 4, 2) := by decide +kernel
theorem dX6_lostByTwo_6 : decode cX6_lostByTwo 6 = .ok (.aload_n 0, 1) := by decide +kernel
theorem dX6_lostByTwo_7 : decode cX6_lostByTwo 7 = .ok (.getfield 36, 3) := by decide +kernel
theorem dX6_lostByTwo_10 : decode cX6_lostByTwo 10 = .ok (.aload_n 1, 1) := by decide +kernel
theorem dX6_lostByTwo_11 : decode cX6_lostByTwo 11 = .ok (.iload_n 3, 1) := by decide +kernel
theorem dX6_lostByTwo_12 : decode cX6_lostByTwo 12 = .ok (.aload_n 0, 1) := by decide +kernel
theorem dX6_lostByTwo_13 : decode cX6_lostByTwo 13 = .ok (.getfield 36, 3) := by decide +kernel
theorem dX6_lostByTwo_16 : decode cX6_lostByTwo 16 = .ok (.aload_n 1, 1) := by decide +kernel
theorem dX6_lostByTwo_17 : decode cX6_lostByTwo 17 = .ok (.iload_n 2, 1) := by decide +kernel
theorem dX6_lostByTwo_18 : decode cX6_lostByTwo 18 = .ok (.iload 4, 2) := by decide +kernel
theorem dX6_lostByTwo_20 : decode cX6_lostByTwo 20 = .ok (.invokevirtual 40, 3) := by decide +kernel
theorem dX6_lostByTwo_23 : decode cX6_lostByTwo 23 = .ok (.invokevirtual 40, 3) := by decide +kernel
theorem dX6_lostByTwo_26 : decode cX6_lostByTwo 26 = .ok (.invokevirtual 46, 3) := by decide +kernel
theorem dX6_lostByTwo_29 : decode cX6_lostByTwo 29 = .ok (.ireturn, 1) := by decide +kernel
theorem dX6_bestPair_0 : decode cX6_bestPair 0 = .ok (.bipush (-2), 2) := by decide +kernel
theorem dX6_bestPair_2 : decode cX6_bestPair 2 = .ok (.istore_n 3, 1) := by decide +kernel
theorem dX6_bestPair_3 : decode cX6_bestPair 3 = .ok (.ldc 50, 2) := by decide +kernel
theorem dX6_bestPair_5 : decode cX6_bestPair 5 = .ok (.istore 4, 2) := by decide +kernel
theorem dX6_bestPair_7 : decode cX6_bestPair 7 = .ok (.iconst 0, 1) := by decide +kernel
theorem dX6_bestPair_8 : decode cX6_bestPair 8 = .ok (.istore 5, 2) := by decide +kernel
theorem dX6_bestPair_10 : decode cX6_bestPair 10 = .ok (.iload 5, 2) := by decide +kernel
theorem dX6_bestPair_12 : decode cX6_bestPair 12 = .ok (.aload_n 0, 1) := by decide +kernel
theorem dX6_bestPair_13 : decode cX6_bestPair 13 = .ok (.getfield 32, 3) := by decide +kernel
theorem dX6_bestPair_16 : decode cX6_bestPair 16 = .ok (.getfield 51, 3) := by decide +kernel
theorem dX6_bestPair_19 : decode cX6_bestPair 19 = .ok (.if_icmp .ge 62, 3) := by decide +kernel
theorem dX6_bestPair_22 : decode cX6_bestPair 22 = .ok (.iconst 0, 1) := by decide +kernel
theorem dX6_bestPair_23 : decode cX6_bestPair 23 = .ok (.istore 6, 2) := by decide +kernel
theorem dX6_bestPair_25 : decode cX6_bestPair 25 = .ok (.iload 6, 2) := by decide +kernel
theorem dX6_bestPair_27 : decode cX6_bestPair 27 = .ok (.aload_n 0, 1) := by decide +kernel
theorem dX6_bestPair_28 : decode cX6_bestPair 28 = .ok (.getfield 32, 3) := by decide +kernel
theorem dX6_bestPair_31 : decode cX6_bestPair 31 = .ok (.getfield 51, 3) := by decide +kernel
theorem dX6_bestPair_34 : decode cX6_bestPair 34 = .ok (.if_icmp .ge 41, 3) := by decide +kernel
theorem dX6_bestPair_37 : decode cX6_bestPair 37 = .ok (.aload_n 0, 1) := by decide +kernel
theorem dX6_bestPair_38 : decode cX6_bestPair 38 = .ok (.aload_n 1, 1) := by decide +kernel
theorem dX6_bestPair_39 : decode cX6_bestPair 39 = .ok (.iload 5, 2) := by decide +kernel
theorem dX6_bestPair_41 : decode cX6_bestPair 41 = .ok (.iload 6, 2) := by decide +kernel
theorem dX6_bestPair_43 : decode cX6_bestPair 43 = .ok (.iload_n 2, 1) := by decide +kernel
theorem dX6_bestPair_44 : decode cX6_bestPair 44 = .ok (.invokevirtual 57, 3) := by decide +kernel
theorem dX6_bestPair_47 : decode cX6_bestPair 47 = .ok (.istore 7, 2) := by decide +kernel
theorem dX6_bestPair_49 : decode cX6_bestPair 49 = .ok (.iload 7, 2) := by decide +kernel
theorem dX6_bestPair_51 : decode cX6_bestPair 51 = .ok (.iload 4, 2) := by decide +kernel
theorem dX6_bestPair_53 : decode cX6_bestPair 53 = .ok (.if_icmp .ge 16, 3) := by decide +kernel
theorem dX6_bestPair_56 : decode cX6_bestPair 56 = .ok (.iload 7, 2) := by decide +kernel
theorem dX6_bestPair_58 : decode cX6_bestPair 58 = .ok (.istore 4, 2) := by decide +kernel
theorem dX6_bestPair_60 : decode cX6_bestPair 60 = .ok (.bipush 10, 2) := by decide +kernel
theorem dX6_bestPair_62 : decode cX6_bestPair 62 = .ok (.iload 5, 2) := by decide +kernel
theorem dX6_bestPair_64 : decode cX6_bestPair 64 = .ok (.imul, 1) := by decide +kernel
theorem dX6_bestPair_65 : decode cX6_bestPair 65 = .ok (.iload 6, 2) := by decide +kernel
theorem dX6_bestPair_67 : decode cX6_bestPair 67 = .ok (.iadd, 1) := by decide +kernel
theorem dX6_bestPair_68 : decode cX6_bestPair 68 = .ok (.istore_n 3, 1) := by decide +kernel
theorem dX6_bestPair_69 : decode cX6_bestPair 69 = .ok (.iinc 6 1, 3) := by decide +kernel
theorem dX6_bestPair_72 : decode cX6_bestPair 72 = .ok (.goto (-47), 3) := by decide +kernel
theorem dX6_bestPair_75 : decode cX6_bestPair 75 = .ok (.iinc 5 1, 3) := by decide +kernel
theorem dX6_bestPair_78 : decode cX6_bestPair 78 = .ok (.goto (-68), 3) := by decide +kernel
theorem dX6_bestPair_81 : decode cX6_bestPair 81 = .ok (.iload_n 3, 1) := by decide +kernel
theorem dX6_bestPair_82 : decode cX6_bestPair 82 = .ok (.ireturn, 1) := by decide +kernel
theorem dX6_bestThird_0 : decode cX6_bestThird 0 = .ok (.bipush (-2), 2) := by decide +kernel
theorem dX6_bestThird_2 : decode cX6_bestThird 2 = .ok (.istore_n 3, 1) := by decide +kernel
theorem dX6_bestThird_3 : decode cX6_bestThird 3 = .ok (.ldc 50, 2) := by decide +kernel
theorem dX6_bestThird_5 : decode cX6_bestThird 5 = .ok (.istore 4, 2) := by decide +kernel
theorem dX6_bestThird_7 : decode cX6_bestThird 7 = .ok (.iconst 0, 1) := by decide +kernel
theorem dX6_bestThird_8 : decode cX6_bestThird 8 = .ok (.istore 5, 2) := by decide +kernel
theorem dX6_bestThird_10 : decode cX6_bestThird 10 = .ok (.iload 5, 2) := by decide +kernel
theorem dX6_bestThird_12 : decode cX6_bestThird 12 = .ok (.aload_n 0, 1) := by decide +kernel
theorem dX6_bestThird_13 : decode cX6_bestThird 13 = .ok (.getfield 32, 3) := by decide +kernel
theorem dX6_bestThird_16 : decode cX6_bestThird 16 = .ok (.getfield 51, 3) := by decide +kernel
theorem dX6_bestThird_19 : decode cX6_bestThird 19 = .ok (.if_icmp .ge 44, 3) := by decide +kernel
theorem dX6_bestThird_22 : decode cX6_bestThird 22 = .ok (.aload_n 0, 1) := by decide +kernel
theorem dX6_bestThird_23 : decode cX6_bestThird 23 = .ok (.getfield 12, 3) := by decide +kernel
theorem dX6_bestThird_26 : decode cX6_bestThird 26 = .ok (.iload_n 2, 1) := by decide +kernel
theorem dX6_bestThird_27 : decode cX6_bestThird 27 = .ok (.aload_n 0, 1) := by decide +kernel
theorem dX6_bestThird_28 : decode cX6_bestThird 28 = .ok (.getfield 36, 3) := by decide +kernel
theorem dX6_bestThird_31 : decode cX6_bestThird 31 = .ok (.aload_n 1, 1) := by decide +kernel
theorem dX6_bestThird_32 : decode cX6_bestThird 32 = .ok (.iload 5, 2) := by decide +kernel
theorem dX6_bestThird_34 : decode cX6_bestThird 34 = .ok (.iload_n 2, 1) := by decide +kernel
theorem dX6_bestThird_35 : decode cX6_bestThird 35 = .ok (.invokevirtual 40, 3) := by decide +kernel
theorem dX6_bestThird_38 : decode cX6_bestThird 38 = .ok (.invokevirtual 46, 3) := by decide +kernel
theorem dX6_bestThird_41 : decode cX6_bestThird 41 = .ok (.istore 6, 2) := by decide +kernel
theorem dX6_bestThird_43 : decode cX6_bestThird 43 = .ok (.iload 6, 2) := by decide +kernel
theorem dX6_bestThird_45 : decode cX6_bestThird 45 = .ok (.iload 4, 2) := by decide +kernel
theorem dX6_bestThird_47 : decode cX6_bestThird 47 = .ok (.if_icmp .ge 10, 3) := by decide +kernel
theorem dX6_bestThird_50 : decode cX6_bestThird 50 = .ok (.iload 6, 2) := by decide +kernel
theorem dX6_bestThird_52 : decode cX6_bestThird 52 = .ok (.istore 4, 2) := by decide +kernel
theorem dX6_bestThird_54 : decode cX6_bestThird 54 = .ok (.iload 5, 2) := by decide +kernel
theorem dX6_bestThird_56 : decode cX6_bestThird 56 = .ok (.istore_n 3, 1) := by decide +kernel
theorem dX6_bestThird_57 : decode cX6_bestThird 57 = .ok (.iinc 5 1, 3) := by decide +kernel
theorem dX6_bestThird_60 : decode cX6_bestThird 60 = .ok (.goto (-50), 3) := by decide +kernel
theorem dX6_bestThird_63 : decode cX6_bestThird 63 = .ok (.iload_n 3, 1) := by decide +kernel
theorem dX6_bestThird_64 : decode cX6_bestThird 64 = .ok (.ireturn, 1) := by decide +kernel
theorem dX6_rowPutAs_0 : decode cX6_rowPutAs 0 = .ok (.iconst 0, 1) := by decide +kernel
theorem dX6_rowPutAs_1 : decode cX6_rowPutAs 1 = .ok (.istore 4, 2) := by decide +kernel
theorem dX6_rowPutAs_3 : decode cX6_rowPutAs 3 = .ok (.iload 4, 2) := by decide +kernel
theorem dX6_rowPutAs_5 : decode cX6_rowPutAs 5 = .ok (.iconst 4, 1) := by decide +kernel
theorem dX6_rowPutAs_6 : decode cX6_rowPutAs 6 = .ok (.if_icmp .ge 51, 3) := by decide +kernel
theorem dX6_rowPutAs_9 : decode cX6_rowPutAs 9 = .ok (.iconst 0, 1) := by decide +kernel
theorem dX6_rowPutAs_10 : decode cX6_rowPutAs 10 = .ok (.istore 5, 2) := by decide +kernel
theorem dX6_rowPutAs_12 : decode cX6_rowPutAs 12 = .ok (.iload 5, 2) := by decide +kernel
theorem dX6_rowPutAs_14 : decode cX6_rowPutAs 14 = .ok (.bipush 8, 2) := by decide +kernel
theorem dX6_rowPutAs_16 : decode cX6_rowPutAs 16 = .ok (.if_icmp .ge 35, 3) := by decide +kernel
theorem dX6_rowPutAs_19 : decode cX6_rowPutAs 19 = .ok (.aload_n 0, 1) := by decide +kernel
theorem dX6_rowPutAs_20 : decode cX6_rowPutAs 20 = .ok (.getfield 18, 3) := by decide +kernel
theorem dX6_rowPutAs_23 : decode cX6_rowPutAs 23 = .ok (.iload 4, 2) := by decide +kernel
theorem dX6_rowPutAs_25 : decode cX6_rowPutAs 25 = .ok (.bipush 8, 2) := by decide +kernel
theorem dX6_rowPutAs_27 : decode cX6_rowPutAs 27 = .ok (.imul, 1) := by decide +kernel
theorem dX6_rowPutAs_28 : decode cX6_rowPutAs 28 = .ok (.iload 5, 2) := by decide +kernel
theorem dX6_rowPutAs_30 : decode cX6_rowPutAs 30 = .ok (.iadd, 1) := by decide +kernel
theorem dX6_rowPutAs_31 : decode cX6_rowPutAs 31 = .ok (.aload_n 0, 1) := by decide +kernel
theorem dX6_rowPutAs_32 : decode cX6_rowPutAs 32 = .ok (.getfield 36, 3) := by decide +kernel
theorem dX6_rowPutAs_35 : decode cX6_rowPutAs 35 = .ok (.aload_n 1, 1) := by decide +kernel
theorem dX6_rowPutAs_36 : decode cX6_rowPutAs 36 = .ok (.iload_n 2, 1) := by decide +kernel
theorem dX6_rowPutAs_37 : decode cX6_rowPutAs 37 = .ok (.iload 5, 2) := by decide +kernel
theorem dX6_rowPutAs_39 : decode cX6_rowPutAs 39 = .ok (.iload 4, 2) := by decide +kernel
theorem dX6_rowPutAs_41 : decode cX6_rowPutAs 41 = .ok (.invokevirtual 61, 3) := by decide +kernel
theorem dX6_rowPutAs_44 : decode cX6_rowPutAs 44 = .ok (.iastore, 1) := by decide +kernel
theorem dX6_rowPutAs_45 : decode cX6_rowPutAs 45 = .ok (.iinc 5 1, 3) := by decide +kernel
theorem dX6_rowPutAs_48 : decode cX6_rowPutAs 48 = .ok (.goto (-36), 3) := by decide +kernel
theorem dX6_rowPutAs_51 : decode cX6_rowPutAs 51 = .ok (.iinc 4 1, 3) := by decide +kernel
theorem dX6_rowPutAs_54 : decode cX6_rowPutAs 54 = .ok (.goto (-51), 3) := by decide +kernel
theorem dX6_rowPutAs_57 : decode cX6_rowPutAs 57 = .ok (.iconst 0, 1) := by decide +kernel
theorem dX6_rowPutAs_58 : decode cX6_rowPutAs 58 = .ok (.istore 4, 2) := by decide +kernel
theorem dX6_rowPutAs_60 : decode cX6_rowPutAs 60 = .ok (.iload 4, 2) := by decide +kernel
theorem dX6_rowPutAs_62 : decode cX6_rowPutAs 62 = .ok (.iconst 4, 1) := by decide +kernel
theorem dX6_rowPutAs_63 : decode cX6_rowPutAs 63 = .ok (.if_icmp .gt 33, 3) := by decide +kernel
theorem dX6_rowPutAs_66 : decode cX6_rowPutAs 66 = .ok (.aload_n 0, 1) := by decide +kernel
theorem dX6_rowPutAs_67 : decode cX6_rowPutAs 67 = .ok (.iload 4, 2) := by decide +kernel
theorem dX6_rowPutAs_69 : decode cX6_rowPutAs 69 = .ok (.iload_n 3, 1) := by decide +kernel
theorem dX6_rowPutAs_70 : decode cX6_rowPutAs 70 = .ok (.invokevirtual 64, 3) := by decide +kernel
theorem dX6_rowPutAs_73 : decode cX6_rowPutAs 73 = .ok (.aload_n 0, 1) := by decide +kernel
theorem dX6_rowPutAs_74 : decode cX6_rowPutAs 74 = .ok (.getfield 22, 3) := by decide +kernel
theorem dX6_rowPutAs_77 : decode cX6_rowPutAs 77 = .ok (.iconst 0, 1) := by decide +kernel
theorem dX6_rowPutAs_78 : decode cX6_rowPutAs 78 = .ok (.baload, 1) := by decide +kernel
theorem dX6_rowPutAs_79 : decode cX6_rowPutAs 79 = .ok (.ifCond .eq 11, 3) := by decide +kernel
theorem dX6_rowPutAs_82 : decode cX6_rowPutAs 82 = .ok (.aload_n 0, 1) := by decide +kernel
theorem dX6_rowPutAs_83 : decode cX6_rowPutAs 83 = .ok (.iload 4, 2) := by decide +kernel
theorem dX6_rowPutAs_85 : decode cX6_rowPutAs 85 = .ok (.iload_n 3, 1) := by decide +kernel
theorem dX6_rowPutAs_86 : decode cX6_rowPutAs 86 = .ok (.invokevirtual 68, 3) := by decide +kernel
theorem dX6_rowPutAs_89 : decode cX6_rowPutAs 89 = .ok (.ireturn, 1) := by decide +kernel
theorem dX6_rowPutAs_90 : decode cX6_rowPutAs 90 = .ok (.iinc 4 1, 3) := by decide +kernel
theorem dX6_rowPutAs_93 : decode cX6_rowPutAs 93 = .ok (.goto (-33), 3) := by decide +kernel
theorem dX6_rowPutAs_96 : decode cX6_rowPutAs 96 = .ok (.bipush (-2), 2) := by decide +kernel
theorem dX6_rowPutAs_98 : decode cX6_rowPutAs 98 = .ok (.ireturn, 1) := by decide +kernel
theorem dX6_markEnds_0 : decode cX6_markEnds 0 = .ok (.iload_n 2, 1) := by decide +kernel
theorem dX6_markEnds_1 : decode cX6_markEnds 1 = .ok (.invokestatic 71, 3) := by decide +kernel
theorem dX6_markEnds_4 : decode cX6_markEnds 4 = .ok (.istore_n 3, 1) := by decide +kernel
theorem dX6_markEnds_5 : decode cX6_markEnds 5 = .ok (.iconst 0, 1) := by decide +kernel
theorem dX6_markEnds_6 : decode cX6_markEnds 6 = .ok (.istore 4, 2) := by decide +kernel
theorem dX6_markEnds_8 : decode cX6_markEnds 8 = .ok (.iload 4, 2) := by decide +kernel
theorem dX6_markEnds_10 : decode cX6_markEnds 10 = .ok (.iconst 5, 1) := by decide +kernel
theorem dX6_markEnds_11 : decode cX6_markEnds 11 = .ok (.if_icmp .gt 31, 3) := by decide +kernel
theorem dX6_markEnds_14 : decode cX6_markEnds 14 = .ok (.aload_n 0, 1) := by decide +kernel
theorem dX6_markEnds_15 : decode cX6_markEnds 15 = .ok (.getfield 22, 3) := by decide +kernel
theorem dX6_markEnds_18 : decode cX6_markEnds 18 = .ok (.iload_n 1, 1) := by decide +kernel
theorem dX6_markEnds_19 : decode cX6_markEnds 19 = .ok (.iload 4, 2) := by decide +kernel
theorem dX6_markEnds_21 : decode cX6_markEnds 21 = .ok (.invokestatic 75, 3) := by decide +kernel
theorem dX6_markEnds_24 : decode cX6_markEnds 24 = .ok (.iload 4, 2) := by decide +kernel
theorem dX6_markEnds_26 : decode cX6_markEnds 26 = .ok (.iload_n 3, 1) := by decide +kernel
theorem dX6_markEnds_27 : decode cX6_markEnds 27 = .ok (.if_icmp .ne 7, 3) := by decide +kernel
theorem dX6_markEnds_30 : decode cX6_markEnds 30 = .ok (.iconst 1, 1) := by decide +kernel
theorem dX6_markEnds_31 : decode cX6_markEnds 31 = .ok (.goto 4, 3) := by decide +kernel
theorem dX6_markEnds_34 : decode cX6_markEnds 34 = .ok (.iconst 0, 1) := by decide +kernel
theorem dX6_markEnds_35 : decode cX6_markEnds 35 = .ok (.bastore, 1) := by decide +kernel
theorem dX6_markEnds_36 : decode cX6_markEnds 36 = .ok (.iinc 4 1, 3) := by decide +kernel
theorem dX6_markEnds_39 : decode cX6_markEnds 39 = .ok (.goto (-31), 3) := by decide +kernel
theorem dX6_markEnds_42 : decode cX6_markEnds 42 = .ok (.iload_n 1, 1) := by decide +kernel
theorem dX6_markEnds_43 : decode cX6_markEnds 43 = .ok (.iconst 1, 1) := by decide +kernel
theorem dX6_markEnds_44 : decode cX6_markEnds 44 = .ok (.isub, 1) := by decide +kernel
theorem dX6_markEnds_45 : decode cX6_markEnds 45 = .ok (.istore 4, 2) := by decide +kernel
theorem dX6_markEnds_47 : decode cX6_markEnds 47 = .ok (.iload 4, 2) := by decide +kernel
theorem dX6_markEnds_49 : decode cX6_markEnds 49 = .ok (.ifCond .lt 54, 3) := by decide +kernel
theorem dX6_markEnds_52 : decode cX6_markEnds 52 = .ok (.iconst 0, 1) := by decide +kernel
theorem dX6_markEnds_53 : decode cX6_markEnds 53 = .ok (.istore 5, 2) := by decide +kernel
theorem dX6_markEnds_55 : decode cX6_markEnds 55 = .ok (.iload 5, 2) := by decide +kernel
theorem dX6_markEnds_57 : decode cX6_markEnds 57 = .ok (.iconst 5, 1) := by decide +kernel
theorem dX6_markEnds_58 : decode cX6_markEnds 58 = .ok (.if_icmp .gt 39, 3) := by decide +kernel
theorem dX6_markEnds_61 : decode cX6_markEnds 61 = .ok (.aload_n 0, 1) := by decide +kernel
theorem dX6_markEnds_62 : decode cX6_markEnds 62 = .ok (.getfield 22, 3) := by decide +kernel
theorem dX6_markEnds_65 : decode cX6_markEnds 65 = .ok (.iload 4, 2) := by decide +kernel
theorem dX6_markEnds_67 : decode cX6_markEnds 67 = .ok (.iload 5, 2) := by decide +kernel
theorem dX6_markEnds_69 : decode cX6_markEnds 69 = .ok (.invokestatic 75, 3) := by decide +kernel
theorem dX6_markEnds_72 : decode cX6_markEnds 72 = .ok (.aload_n 0, 1) := by decide +kernel
theorem dX6_markEnds_73 : decode cX6_markEnds 73 = .ok (.iload 4, 2) := by decide +kernel
theorem dX6_markEnds_75 : decode cX6_markEnds 75 = .ok (.iload 5, 2) := by decide +kernel
theorem dX6_markEnds_77 : decode cX6_markEnds 77 = .ok (.iload_n 2, 1) := by decide +kernel
theorem dX6_markEnds_78 : decode cX6_markEnds 78 = .ok (.invokevirtual 78, 3) := by decide +kernel
theorem dX6_markEnds_81 : decode cX6_markEnds 81 = .ok (.iconst (-1), 1) := by decide +kernel
theorem dX6_markEnds_82 : decode cX6_markEnds 82 = .ok (.if_icmp .eq 7, 3) := by decide +kernel
theorem dX6_markEnds_85 : decode cX6_markEnds 85 = .ok (.iconst 1, 1) := by decide +kernel
theorem dX6_markEnds_86 : decode cX6_markEnds 86 = .ok (.goto 4, 3) := by decide +kernel
theorem dX6_markEnds_89 : decode cX6_markEnds 89 = .ok (.iconst 0, 1) := by decide +kernel
theorem dX6_markEnds_90 : decode cX6_markEnds 90 = .ok (.bastore, 1) := by decide +kernel
theorem dX6_markEnds_91 : decode cX6_markEnds 91 = .ok (.iinc 5 1, 3) := by decide +kernel
theorem dX6_markEnds_94 : decode cX6_markEnds 94 = .ok (.goto (-39), 3) := by decide +kernel
theorem dX6_markEnds_97 : decode cX6_markEnds 97 = .ok (.iinc 4 (-1), 3) := by decide +kernel
theorem dX6_markEnds_100 : decode cX6_markEnds 100 = .ok (.goto (-53), 3) := by decide +kernel
theorem dX6_markEnds_103 : decode cX6_markEnds 103 = .ok (.return_, 1) := by decide +kernel
theorem dX6_endAt_0 : decode cX6_endAt 0 = .ok (.iload_n 0, 1) := by decide +kernel
theorem dX6_endAt_1 : decode cX6_endAt 1 = .ok (.bipush 6, 2) := by decide +kernel
theorem dX6_endAt_3 : decode cX6_endAt 3 = .ok (.imul, 1) := by decide +kernel
theorem dX6_endAt_4 : decode cX6_endAt 4 = .ok (.iload_n 1, 1) := by decide +kernel
theorem dX6_endAt_5 : decode cX6_endAt 5 = .ok (.iadd, 1) := by decide +kernel
theorem dX6_endAt_6 : decode cX6_endAt 6 = .ok (.ireturn, 1) := by decide +kernel
theorem dX6_fittingWord_0 : decode cX6_fittingWord 0 = .ok (.iload_n 3, 1) := by decide +kernel
theorem dX6_fittingWord_1 : decode cX6_fittingWord 1 = .ok (.invokestatic 71, 3) := by decide +kernel
theorem dX6_fittingWord_4 : decode cX6_fittingWord 4 = .ok (.istore 4, 2) := by decide +kernel
theorem dX6_fittingWord_6 : decode cX6_fittingWord 6 = .ok (.iconst 0, 1) := by decide +kernel
theorem dX6_fittingWord_7 : decode cX6_fittingWord 7 = .ok (.istore 5, 2) := by decide +kernel
theorem dX6_fittingWord_9 : decode cX6_fittingWord 9 = .ok (.iload 5, 2) := by decide +kernel
theorem dX6_fittingWord_11 : decode cX6_fittingWord 11 = .ok (.bipush 8, 2) := by decide +kernel
theorem dX6_fittingWord_13 : decode cX6_fittingWord 13 = .ok (.if_icmp .ge 86, 3) := by decide +kernel
theorem dX6_fittingWord_16 : decode cX6_fittingWord 16 = .ok (.aload_n 0, 1) := by decide +kernel
theorem dX6_fittingWord_17 : decode cX6_fittingWord 17 = .ok (.getfield 18, 3) := by decide +kernel
theorem dX6_fittingWord_20 : decode cX6_fittingWord 20 = .ok (.iload_n 1, 1) := by decide +kernel
theorem dX6_fittingWord_21 : decode cX6_fittingWord 21 = .ok (.bipush 8, 2) := by decide +kernel
theorem dX6_fittingWord_23 : decode cX6_fittingWord 23 = .ok (.imul, 1) := by decide +kernel
theorem dX6_fittingWord_24 : decode cX6_fittingWord 24 = .ok (.iload 5, 2) := by decide +kernel
theorem dX6_fittingWord_26 : decode cX6_fittingWord 26 = .ok (.iadd, 1) := by decide +kernel
theorem dX6_fittingWord_27 : decode cX6_fittingWord 27 = .ok (.iaload, 1) := by decide +kernel
theorem dX6_fittingWord_28 : decode cX6_fittingWord 28 = .ok (.istore 6, 2) := by decide +kernel
theorem dX6_fittingWord_30 : decode cX6_fittingWord 30 = .ok (.iload 6, 2) := by decide +kernel
theorem dX6_fittingWord_32 : decode cX6_fittingWord 32 = .ok (.bipush 8, 2) := by decide +kernel
theorem dX6_fittingWord_34 : decode cX6_fittingWord 34 = .ok (.if_icmp .ne 21, 3) := by decide +kernel
theorem dX6_fittingWord_37 : decode cX6_fittingWord 37 = .ok (.aload_n 0, 1) := by decide +kernel
theorem dX6_fittingWord_38 : decode cX6_fittingWord 38 = .ok (.getfield 22, 3) := by decide +kernel
theorem dX6_fittingWord_41 : decode cX6_fittingWord 41 = .ok (.iload_n 1, 1) := by decide +kernel
theorem dX6_fittingWord_42 : decode cX6_fittingWord 42 = .ok (.iconst 1, 1) := by decide +kernel
theorem dX6_fittingWord_43 : decode cX6_fittingWord 43 = .ok (.iadd, 1) := by decide +kernel
theorem dX6_fittingWord_44 : decode cX6_fittingWord 44 = .ok (.iload_n 2, 1) := by decide +kernel
theorem dX6_fittingWord_45 : decode cX6_fittingWord 45 = .ok (.invokestatic 75, 3) := by decide +kernel
theorem dX6_fittingWord_48 : decode cX6_fittingWord 48 = .ok (.baload, 1) := by decide +kernel
theorem dX6_fittingWord_49 : decode cX6_fittingWord 49 = .ok (.ifCond .eq 44, 3) := by decide +kernel
theorem dX6_fittingWord_52 : decode cX6_fittingWord 52 = .ok (.iload 5, 2) := by decide +kernel
theorem dX6_fittingWord_54 : decode cX6_fittingWord 54 = .ok (.ireturn, 1) := by decide +kernel
theorem dX6_fittingWord_55 : decode cX6_fittingWord 55 = .ok (.iload_n 2, 1) := by decide +kernel
theorem dX6_fittingWord_56 : decode cX6_fittingWord 56 = .ok (.iload 4, 2) := by decide +kernel
theorem dX6_fittingWord_58 : decode cX6_fittingWord 58 = .ok (.if_icmp .ge 35, 3) := by decide +kernel
theorem dX6_fittingWord_61 : decode cX6_fittingWord 61 = .ok (.iload 6, 2) := by decide +kernel
theorem dX6_fittingWord_63 : decode cX6_fittingWord 63 = .ok (.iload_n 3, 1) := by decide +kernel
theorem dX6_fittingWord_64 : decode cX6_fittingWord 64 = .ok (.iload 4, 2) := by decide +kernel
theorem dX6_fittingWord_66 : decode cX6_fittingWord 66 = .ok (.iload_n 2, 1) := by decide +kernel
theorem dX6_fittingWord_67 : decode cX6_fittingWord 67 = .ok (.invokestatic 82, 3) := by decide +kernel
theorem dX6_fittingWord_70 : decode cX6_fittingWord 70 = .ok (.if_icmp .ne 23, 3) := by decide +kernel
theorem dX6_fittingWord_73 : decode cX6_fittingWord 73 = .ok (.aload_n 0, 1) := by decide +kernel
theorem dX6_fittingWord_74 : decode cX6_fittingWord 74 = .ok (.getfield 22, 3) := by decide +kernel
theorem dX6_fittingWord_77 : decode cX6_fittingWord 77 = .ok (.iload_n 1, 1) := by decide +kernel
theorem dX6_fittingWord_78 : decode cX6_fittingWord 78 = .ok (.iconst 1, 1) := by decide +kernel
theorem dX6_fittingWord_79 : decode cX6_fittingWord 79 = .ok (.iadd, 1) := by decide +kernel
theorem dX6_fittingWord_80 : decode cX6_fittingWord 80 = .ok (.iload_n 2, 1) := by decide +kernel
theorem dX6_fittingWord_81 : decode cX6_fittingWord 81 = .ok (.iconst 1, 1) := by decide +kernel
theorem dX6_fittingWord_82 : decode cX6_fittingWord 82 = .ok (.iadd, 1) := by decide +kernel
theorem dX6_fittingWord_83 : decode cX6_fittingWord 83 = .ok (.invokestatic 75, 3) := by decide +kernel
theorem dX6_fittingWord_86 : decode cX6_fittingWord 86 = .ok (.baload, 1) := by decide +kernel
theorem dX6_fittingWord_87 : decode cX6_fittingWord 87 = .ok (.ifCond .eq 6, 3) := by decide +kernel
theorem dX6_fittingWord_90 : decode cX6_fittingWord 90 = .ok (.iload 5, 2) := by decide +kernel
theorem dX6_fittingWord_92 : decode cX6_fittingWord 92 = .ok (.ireturn, 1) := by decide +kernel
theorem dX6_fittingWord_93 : decode cX6_fittingWord 93 = .ok (.iinc 5 1, 3) := by decide +kernel
theorem dX6_fittingWord_96 : decode cX6_fittingWord 96 = .ok (.goto (-87), 3) := by decide +kernel
theorem dX6_fittingWord_99 : decode cX6_fittingWord 99 = .ok (.iconst (-1), 1) := by decide +kernel
theorem dX6_fittingWord_100 : decode cX6_fittingWord 100 = .ok (.ireturn, 1) := by decide +kernel
theorem dX6_leastRow_0 : decode cX6_leastRow 0 = .ok (.iconst 1, 1) := by decide +kernel
theorem dX6_leastRow_1 : decode cX6_leastRow 1 = .ok (.istore_n 3, 1) := by decide +kernel
theorem dX6_leastRow_2 : decode cX6_leastRow 2 = .ok (.iconst 0, 1) := by decide +kernel
theorem dX6_leastRow_3 : decode cX6_leastRow 3 = .ok (.istore 4, 2) := by decide +kernel
theorem dX6_leastRow_5 : decode cX6_leastRow 5 = .ok (.iconst 0, 1) := by decide +kernel
theorem dX6_leastRow_6 : decode cX6_leastRow 6 = .ok (.istore 5, 2) := by decide +kernel
theorem dX6_leastRow_8 : decode cX6_leastRow 8 = .ok (.iload 5, 2) := by decide +kernel
theorem dX6_leastRow_10 : decode cX6_leastRow 10 = .ok (.iload_n 1, 1) := by decide +kernel
theorem dX6_leastRow_11 : decode cX6_leastRow 11 = .ok (.if_icmp .ge 70, 3) := by decide +kernel
theorem dX6_leastRow_14 : decode cX6_leastRow 14 = .ok (.iload 4, 2) := by decide +kernel
theorem dX6_leastRow_16 : decode cX6_leastRow 16 = .ok (.iconst 5, 1) := by decide +kernel
theorem dX6_leastRow_17 : decode cX6_leastRow 17 = .ok (.if_icmp .gt 64, 3) := by decide +kernel
theorem dX6_leastRow_20 : decode cX6_leastRow 20 = .ok (.aload_n 0, 1) := by decide +kernel
theorem dX6_leastRow_21 : decode cX6_leastRow 21 = .ok (.iload 5, 2) := by decide +kernel
theorem dX6_leastRow_23 : decode cX6_leastRow 23 = .ok (.iload 4, 2) := by decide +kernel
theorem dX6_leastRow_25 : decode cX6_leastRow 25 = .ok (.iload_n 2, 1) := by decide +kernel
theorem dX6_leastRow_26 : decode cX6_leastRow 26 = .ok (.invokevirtual 78, 3) := by decide +kernel
theorem dX6_leastRow_29 : decode cX6_leastRow 29 = .ok (.istore 6, 2) := by decide +kernel
theorem dX6_leastRow_31 : decode cX6_leastRow 31 = .ok (.iload 6, 2) := by decide +kernel
theorem dX6_leastRow_33 : decode cX6_leastRow 33 = .ok (.iconst (-1), 1) := by decide +kernel
theorem dX6_leastRow_34 : decode cX6_leastRow 34 = .ok (.if_icmp .ne 6, 3) := by decide +kernel
theorem dX6_leastRow_37 : decode cX6_leastRow 37 = .ok (.bipush (-2), 2) := by decide +kernel
theorem dX6_leastRow_39 : decode cX6_leastRow 39 = .ok (.ireturn, 1) := by decide +kernel
theorem dX6_leastRow_40 : decode cX6_leastRow 40 = .ok (.iload 4, 2) := by decide +kernel
theorem dX6_leastRow_42 : decode cX6_leastRow 42 = .ok (.aload_n 0, 1) := by decide +kernel
theorem dX6_leastRow_43 : decode cX6_leastRow 43 = .ok (.getfield 18, 3) := by decide +kernel
theorem dX6_leastRow_46 : decode cX6_leastRow 46 = .ok (.iload 5, 2) := by decide +kernel
theorem dX6_leastRow_48 : decode cX6_leastRow 48 = .ok (.bipush 8, 2) := by decide +kernel
theorem dX6_leastRow_50 : decode cX6_leastRow 50 = .ok (.imul, 1) := by decide +kernel
theorem dX6_leastRow_51 : decode cX6_leastRow 51 = .ok (.iload 6, 2) := by decide +kernel
theorem dX6_leastRow_53 : decode cX6_leastRow 53 = .ok (.iadd, 1) := by decide +kernel
theorem dX6_leastRow_54 : decode cX6_leastRow 54 = .ok (.iaload, 1) := by decide +kernel
theorem dX6_leastRow_55 : decode cX6_leastRow 55 = .ok (.bipush 8, 2) := by decide +kernel
theorem dX6_leastRow_57 : decode cX6_leastRow 57 = .ok (.if_icmp .ne 7, 3) := by decide +kernel
theorem dX6_leastRow_60 : decode cX6_leastRow 60 = .ok (.iconst 0, 1) := by decide +kernel
theorem dX6_leastRow_61 : decode cX6_leastRow 61 = .ok (.goto 4, 3) := by decide +kernel
theorem dX6_leastRow_64 : decode cX6_leastRow 64 = .ok (.iconst 1, 1) := by decide +kernel
theorem dX6_leastRow_65 : decode cX6_leastRow 65 = .ok (.iadd, 1) := by decide +kernel
theorem dX6_leastRow_66 : decode cX6_leastRow 66 = .ok (.istore 4, 2) := by decide +kernel
theorem dX6_leastRow_68 : decode cX6_leastRow 68 = .ok (.iload_n 3, 1) := by decide +kernel
theorem dX6_leastRow_69 : decode cX6_leastRow 69 = .ok (.iload 6, 2) := by decide +kernel
theorem dX6_leastRow_71 : decode cX6_leastRow 71 = .ok (.invokestatic 85, 3) := by decide +kernel
theorem dX6_leastRow_74 : decode cX6_leastRow 74 = .ok (.istore_n 3, 1) := by decide +kernel
theorem dX6_leastRow_75 : decode cX6_leastRow 75 = .ok (.iinc 5 1, 3) := by decide +kernel
theorem dX6_leastRow_78 : decode cX6_leastRow 78 = .ok (.goto (-70), 3) := by decide +kernel
theorem dX6_leastRow_81 : decode cX6_leastRow 81 = .ok (.iload_n 3, 1) := by decide +kernel
theorem dX6_leastRow_82 : decode cX6_leastRow 82 = .ok (.ireturn, 1) := by decide +kernel
theorem dX6_bestHire_0 : decode cX6_bestHire 0 = .ok (.aload_n 0, 1) := by decide +kernel
theorem dX6_bestHire_1 : decode cX6_bestHire 1 = .ok (.aload_n 1, 1) := by decide +kernel
theorem dX6_bestHire_2 : decode cX6_bestHire 2 = .ok (.invokevirtual 88, 3) := by decide +kernel
theorem dX6_bestHire_5 : decode cX6_bestHire 5 = .ok (.istore_n 3, 1) := by decide +kernel
theorem dX6_bestHire_6 : decode cX6_bestHire 6 = .ok (.iload_n 3, 1) := by decide +kernel
theorem dX6_bestHire_7 : decode cX6_bestHire 7 = .ok (.aload_n 0, 1) := by decide +kernel
theorem dX6_bestHire_8 : decode cX6_bestHire 8 = .ok (.getfield 32, 3) := by decide +kernel
theorem dX6_bestHire_11 : decode cX6_bestHire 11 = .ok (.getfield 51, 3) := by decide +kernel
theorem dX6_bestHire_14 : decode cX6_bestHire 14 = .ok (.if_icmp .le 6, 3) := by decide +kernel
theorem dX6_bestHire_17 : decode cX6_bestHire 17 = .ok (.bipush (-2), 2) := by decide +kernel
theorem dX6_bestHire_19 : decode cX6_bestHire 19 = .ok (.ireturn, 1) := by decide +kernel
theorem dX6_bestHire_20 : decode cX6_bestHire 20 = .ok (.iconst 1, 1) := by decide +kernel
theorem dX6_bestHire_21 : decode cX6_bestHire 21 = .ok (.istore 4, 2) := by decide +kernel
theorem dX6_bestHire_23 : decode cX6_bestHire 23 = .ok (.iconst 0, 1) := by decide +kernel
theorem dX6_bestHire_24 : decode cX6_bestHire 24 = .ok (.istore 5, 2) := by decide +kernel
theorem dX6_bestHire_26 : decode cX6_bestHire 26 = .ok (.iload 5, 2) := by decide +kernel
theorem dX6_bestHire_28 : decode cX6_bestHire 28 = .ok (.iload_n 3, 1) := by decide +kernel
theorem dX6_bestHire_29 : decode cX6_bestHire 29 = .ok (.if_icmp .ge 21, 3) := by decide +kernel
theorem dX6_bestHire_32 : decode cX6_bestHire 32 = .ok (.iload 4, 2) := by decide +kernel
theorem dX6_bestHire_34 : decode cX6_bestHire 34 = .ok (.aload_n 0, 1) := by decide +kernel
theorem dX6_bestHire_35 : decode cX6_bestHire 35 = .ok (.getfield 32, 3) := by decide +kernel
theorem dX6_bestHire_38 : decode cX6_bestHire 38 = .ok (.getfield 51, 3) := by decide +kernel
theorem dX6_bestHire_41 : decode cX6_bestHire 41 = .ok (.imul, 1) := by decide +kernel
theorem dX6_bestHire_42 : decode cX6_bestHire 42 = .ok (.istore 4, 2) := by decide +kernel
theorem dX6_bestHire_44 : decode cX6_bestHire 44 = .ok (.iinc 5 1, 3) := by decide +kernel
theorem dX6_bestHire_47 : decode cX6_bestHire 47 = .ok (.goto (-21), 3) := by decide +kernel
theorem dX6_bestHire_50 : decode cX6_bestHire 50 = .ok (.iconst 0, 1) := by decide +kernel
theorem dX6_bestHire_51 : decode cX6_bestHire 51 = .ok (.istore 5, 2) := by decide +kernel
theorem dX6_bestHire_53 : decode cX6_bestHire 53 = .ok (.ldc 50, 2) := by decide +kernel
theorem dX6_bestHire_55 : decode cX6_bestHire 55 = .ok (.istore 6, 2) := by decide +kernel
theorem dX6_bestHire_57 : decode cX6_bestHire 57 = .ok (.iconst 0, 1) := by decide +kernel
theorem dX6_bestHire_58 : decode cX6_bestHire 58 = .ok (.istore 7, 2) := by decide +kernel
theorem dX6_bestHire_60 : decode cX6_bestHire 60 = .ok (.iload 7, 2) := by decide +kernel
theorem dX6_bestHire_62 : decode cX6_bestHire 62 = .ok (.iload 4, 2) := by decide +kernel
theorem dX6_bestHire_64 : decode cX6_bestHire 64 = .ok (.if_icmp .ge 33, 3) := by decide +kernel
theorem dX6_bestHire_67 : decode cX6_bestHire 67 = .ok (.aload_n 0, 1) := by decide +kernel
theorem dX6_bestHire_68 : decode cX6_bestHire 68 = .ok (.iload 7, 2) := by decide +kernel
theorem dX6_bestHire_70 : decode cX6_bestHire 70 = .ok (.iload_n 3, 1) := by decide +kernel
theorem dX6_bestHire_71 : decode cX6_bestHire 71 = .ok (.invokevirtual 92, 3) := by decide +kernel
theorem dX6_bestHire_74 : decode cX6_bestHire 74 = .ok (.istore 8, 2) := by decide +kernel
theorem dX6_bestHire_76 : decode cX6_bestHire 76 = .ok (.iload 8, 2) := by decide +kernel
theorem dX6_bestHire_78 : decode cX6_bestHire 78 = .ok (.iload 6, 2) := by decide +kernel
theorem dX6_bestHire_80 : decode cX6_bestHire 80 = .ok (.if_icmp .ge 11, 3) := by decide +kernel
theorem dX6_bestHire_83 : decode cX6_bestHire 83 = .ok (.iload 8, 2) := by decide +kernel
theorem dX6_bestHire_85 : decode cX6_bestHire 85 = .ok (.istore 6, 2) := by decide +kernel
theorem dX6_bestHire_87 : decode cX6_bestHire 87 = .ok (.iload 7, 2) := by decide +kernel
theorem dX6_bestHire_89 : decode cX6_bestHire 89 = .ok (.istore 5, 2) := by decide +kernel
theorem dX6_bestHire_91 : decode cX6_bestHire 91 = .ok (.iinc 7 1, 3) := by decide +kernel
theorem dX6_bestHire_94 : decode cX6_bestHire 94 = .ok (.goto (-34), 3) := by decide +kernel
theorem dX6_bestHire_97 : decode cX6_bestHire 97 = .ok (.iload_n 2, 1) := by decide +kernel
theorem dX6_bestHire_98 : decode cX6_bestHire 98 = .ok (.iconst (-1), 1) := by decide +kernel
theorem dX6_bestHire_99 : decode cX6_bestHire 99 = .ok (.if_icmp .ne 8, 3) := by decide +kernel
theorem dX6_bestHire_102 : decode cX6_bestHire 102 = .ok (.iload 6, 2) := by decide +kernel
theorem dX6_bestHire_104 : decode cX6_bestHire 104 = .ok (.goto 12, 3) := by decide +kernel
theorem dX6_bestHire_107 : decode cX6_bestHire 107 = .ok (.aload_n 0, 1) := by decide +kernel
theorem dX6_bestHire_108 : decode cX6_bestHire 108 = .ok (.aload_n 1, 1) := by decide +kernel
theorem dX6_bestHire_109 : decode cX6_bestHire 109 = .ok (.iload_n 2, 1) := by decide +kernel
theorem dX6_bestHire_110 : decode cX6_bestHire 110 = .ok (.iload 5, 2) := by decide +kernel
theorem dX6_bestHire_112 : decode cX6_bestHire 112 = .ok (.iload_n 3, 1) := by decide +kernel
theorem dX6_bestHire_113 : decode cX6_bestHire 113 = .ok (.invokevirtual 95, 3) := by decide +kernel
theorem dX6_bestHire_116 : decode cX6_bestHire 116 = .ok (.ireturn, 1) := by decide +kernel
theorem dX6_fillLosses_0 : decode cX6_fillLosses 0 = .ok (.iconst 0, 1) := by decide +kernel
theorem dX6_fillLosses_1 : decode cX6_fillLosses 1 = .ok (.istore_n 2, 1) := by decide +kernel
theorem dX6_fillLosses_2 : decode cX6_fillLosses 2 = .ok (.iconst 0, 1) := by decide +kernel
theorem dX6_fillLosses_3 : decode cX6_fillLosses 3 = .ok (.istore_n 3, 1) := by decide +kernel
theorem dX6_fillLosses_4 : decode cX6_fillLosses 4 = .ok (.iload_n 3, 1) := by decide +kernel
theorem dX6_fillLosses_5 : decode cX6_fillLosses 5 = .ok (.aload_n 0, 1) := by decide +kernel
theorem dX6_fillLosses_6 : decode cX6_fillLosses 6 = .ok (.getfield 32, 3) := by decide +kernel
theorem dX6_fillLosses_9 : decode cX6_fillLosses 9 = .ok (.getfield 98, 3) := by decide +kernel
theorem dX6_fillLosses_12 : decode cX6_fillLosses 12 = .ok (.if_icmp .ge 98, 3) := by decide +kernel
theorem dX6_fillLosses_15 : decode cX6_fillLosses 15 = .ok (.iload_n 3, 1) := by decide +kernel
theorem dX6_fillLosses_16 : decode cX6_fillLosses 16 = .ok (.iconst 3, 1) := by decide +kernel
theorem dX6_fillLosses_17 : decode cX6_fillLosses 17 = .ok (.if_icmp .ge 93, 3) := by decide +kernel
theorem dX6_fillLosses_20 : decode cX6_fillLosses 20 = .ok (.aload_n 1, 1) := by decide +kernel
theorem dX6_fillLosses_21 : decode cX6_fillLosses 21 = .ok (.bipush 19, 2) := by decide +kernel
theorem dX6_fillLosses_23 : decode cX6_fillLosses 23 = .ok (.iload_n 3, 1) := by decide +kernel
theorem dX6_fillLosses_24 : decode cX6_fillLosses 24 = .ok (.iadd, 1) := by decide +kernel
theorem dX6_fillLosses_25 : decode cX6_fillLosses 25 = .ok (.iaload, 1) := by decide +kernel
theorem dX6_fillLosses_26 : decode cX6_fillLosses 26 = .ok (.ifCond .ne 78, 3) := by decide +kernel
theorem dX6_fillLosses_29 : decode cX6_fillLosses 29 = .ok (.aload_n 0, 1) := by decide +kernel
theorem dX6_fillLosses_30 : decode cX6_fillLosses 30 = .ok (.getfield 36, 3) := by decide +kernel
theorem dX6_fillLosses_33 : decode cX6_fillLosses 33 = .ok (.aload_n 1, 1) := by decide +kernel
theorem dX6_fillLosses_34 : decode cX6_fillLosses 34 = .ok (.aload_n 0, 1) := by decide +kernel
theorem dX6_fillLosses_35 : decode cX6_fillLosses 35 = .ok (.getfield 36, 3) := by decide +kernel
theorem dX6_fillLosses_38 : decode cX6_fillLosses 38 = .ok (.aload_n 1, 1) := by decide +kernel
theorem dX6_fillLosses_39 : decode cX6_fillLosses 39 = .ok (.iload_n 3, 1) := by decide +kernel
theorem dX6_fillLosses_40 : decode cX6_fillLosses 40 = .ok (.invokevirtual 101, 3) := by decide +kernel
theorem dX6_fillLosses_43 : decode cX6_fillLosses 43 = .ok (.invokevirtual 105, 3) := by decide +kernel
theorem dX6_fillLosses_46 : decode cX6_fillLosses 46 = .ok (.istore 4, 2) := by decide +kernel
theorem dX6_fillLosses_48 : decode cX6_fillLosses 48 = .ok (.iconst 0, 1) := by decide +kernel
theorem dX6_fillLosses_49 : decode cX6_fillLosses 49 = .ok (.istore 5, 2) := by decide +kernel
theorem dX6_fillLosses_51 : decode cX6_fillLosses 51 = .ok (.iload 5, 2) := by decide +kernel
theorem dX6_fillLosses_53 : decode cX6_fillLosses 53 = .ok (.aload_n 0, 1) := by decide +kernel
theorem dX6_fillLosses_54 : decode cX6_fillLosses 54 = .ok (.getfield 32, 3) := by decide +kernel
theorem dX6_fillLosses_57 : decode cX6_fillLosses 57 = .ok (.getfield 51, 3) := by decide +kernel
theorem dX6_fillLosses_60 : decode cX6_fillLosses 60 = .ok (.if_icmp .ge 41, 3) := by decide +kernel
theorem dX6_fillLosses_63 : decode cX6_fillLosses 63 = .ok (.aload_n 0, 1) := by decide +kernel
theorem dX6_fillLosses_64 : decode cX6_fillLosses 64 = .ok (.getfield 26, 3) := by decide +kernel
theorem dX6_fillLosses_67 : decode cX6_fillLosses 67 = .ok (.iload_n 2, 1) := by decide +kernel
theorem dX6_fillLosses_68 : decode cX6_fillLosses 68 = .ok (.iconst 4, 1) := by decide +kernel
theorem dX6_fillLosses_69 : decode cX6_fillLosses 69 = .ok (.imul, 1) := by decide +kernel
theorem dX6_fillLosses_70 : decode cX6_fillLosses 70 = .ok (.iload 5, 2) := by decide +kernel
theorem dX6_fillLosses_72 : decode cX6_fillLosses 72 = .ok (.iadd, 1) := by decide +kernel
theorem dX6_fillLosses_73 : decode cX6_fillLosses 73 = .ok (.aload_n 0, 1) := by decide +kernel
theorem dX6_fillLosses_74 : decode cX6_fillLosses 74 = .ok (.getfield 12, 3) := by decide +kernel
theorem dX6_fillLosses_77 : decode cX6_fillLosses 77 = .ok (.iload 4, 2) := by decide +kernel
theorem dX6_fillLosses_79 : decode cX6_fillLosses 79 = .ok (.aload_n 0, 1) := by decide +kernel
theorem dX6_fillLosses_80 : decode cX6_fillLosses 80 = .ok (.getfield 36, 3) := by decide +kernel
theorem dX6_fillLosses_83 : decode cX6_fillLosses 83 = .ok (.aload_n 1, 1) := by decide +kernel
theorem dX6_fillLosses_84 : decode cX6_fillLosses 84 = .ok (.iload 5, 2) := by decide +kernel
theorem dX6_fillLosses_86 : decode cX6_fillLosses 86 = .ok (.iload 4, 2) := by decide +kernel
theorem dX6_fillLosses_88 : decode cX6_fillLosses 88 = .ok (.invokevirtual 40, 3) := by decide +kernel
theorem dX6_fillLosses_91 : decode cX6_fillLosses 91 = .ok (.invokevirtual 46, 3) := by decide +kernel
theorem dX6_fillLosses_94 : decode cX6_fillLosses 94 = .ok (.iastore, 1) := by decide +kernel
theorem dX6_fillLosses_95 : decode cX6_fillLosses 95 = .ok (.iinc 5 1, 3) := by decide +kernel
theorem dX6_fillLosses_98 : decode cX6_fillLosses 98 = .ok (.goto (-47), 3) := by decide +kernel
theorem dX6_fillLosses_101 : decode cX6_fillLosses 101 = .ok (.iinc 2 1, 3) := by decide +kernel
theorem dX6_fillLosses_104 : decode cX6_fillLosses 104 = .ok (.iinc 3 1, 3) := by decide +kernel
theorem dX6_fillLosses_107 : decode cX6_fillLosses 107 = .ok (.goto (-103), 3) := by decide +kernel
theorem dX6_fillLosses_110 : decode cX6_fillLosses 110 = .ok (.iload_n 2, 1) := by decide +kernel
theorem dX6_fillLosses_111 : decode cX6_fillLosses 111 = .ok (.ireturn, 1) := by decide +kernel
theorem dX6_choose_0 : decode cX6_choose 0 = .ok (.iload_n 1, 1) := by decide +kernel
theorem dX6_choose_1 : decode cX6_choose 1 = .ok (.istore_n 3, 1) := by decide +kernel
theorem dX6_choose_2 : decode cX6_choose 2 = .ok (.iload_n 2, 1) := by decide +kernel
theorem dX6_choose_3 : decode cX6_choose 3 = .ok (.iconst 1, 1) := by decide +kernel
theorem dX6_choose_4 : decode cX6_choose 4 = .ok (.isub, 1) := by decide +kernel
theorem dX6_choose_5 : decode cX6_choose 5 = .ok (.istore 4, 2) := by decide +kernel
theorem dX6_choose_7 : decode cX6_choose 7 = .ok (.iload 4, 2) := by decide +kernel
theorem dX6_choose_9 : decode cX6_choose 9 = .ok (.ifCond .lt 63, 3) := by decide +kernel
theorem dX6_choose_12 : decode cX6_choose 12 = .ok (.aload_n 0, 1) := by decide +kernel
theorem dX6_choose_13 : decode cX6_choose 13 = .ok (.getfield 29, 3) := by decide +kernel
theorem dX6_choose_16 : decode cX6_choose 16 = .ok (.iload 4, 2) := by decide +kernel
theorem dX6_choose_18 : decode cX6_choose 18 = .ok (.aload_n 0, 1) := by decide +kernel
theorem dX6_choose_19 : decode cX6_choose 19 = .ok (.getfield 32, 3) := by decide +kernel
theorem dX6_choose_22 : decode cX6_choose 22 = .ok (.getfield 51, 3) := by decide +kernel
theorem dX6_choose_25 : decode cX6_choose 25 = .ok (.ifCond .le 15, 3) := by decide +kernel
theorem dX6_choose_28 : decode cX6_choose 28 = .ok (.iload_n 3, 1) := by decide +kernel
theorem dX6_choose_29 : decode cX6_choose 29 = .ok (.aload_n 0, 1) := by decide +kernel
theorem dX6_choose_30 : decode cX6_choose 30 = .ok (.getfield 32, 3) := by decide +kernel
theorem dX6_choose_33 : decode cX6_choose 33 = .ok (.getfield 51, 3) := by decide +kernel
theorem dX6_choose_36 : decode cX6_choose 36 = .ok (.irem, 1) := by decide +kernel
theorem dX6_choose_37 : decode cX6_choose 37 = .ok (.goto 4, 3) := by decide +kernel
theorem dX6_choose_40 : decode cX6_choose 40 = .ok (.iconst 0, 1) := by decide +kernel
theorem dX6_choose_41 : decode cX6_choose 41 = .ok (.iastore, 1) := by decide +kernel
theorem dX6_choose_42 : decode cX6_choose 42 = .ok (.aload_n 0, 1) := by decide +kernel
theorem dX6_choose_43 : decode cX6_choose 43 = .ok (.getfield 32, 3) := by decide +kernel
theorem dX6_choose_46 : decode cX6_choose 46 = .ok (.getfield 51, 3) := by decide +kernel
theorem dX6_choose_49 : decode cX6_choose 49 = .ok (.ifCond .le 15, 3) := by decide +kernel
theorem dX6_choose_52 : decode cX6_choose 52 = .ok (.iload_n 3, 1) := by decide +kernel
theorem dX6_choose_53 : decode cX6_choose 53 = .ok (.aload_n 0, 1) := by decide +kernel
theorem dX6_choose_54 : decode cX6_choose 54 = .ok (.getfield 32, 3) := by decide +kernel
theorem dX6_choose_57 : decode cX6_choose 57 = .ok (.getfield 51, 3) := by decide +kernel
theorem dX6_choose_60 : decode cX6_choose 60 = .ok (.idiv, 1) := by decide +kernel
theorem dX6_choose_61 : decode cX6_choose 61 = .ok (.goto 4, 3) := by decide +kernel
theorem dX6_choose_64 : decode cX6_choose 64 = .ok (.iconst 0, 1) := by decide +kernel
theorem dX6_choose_65 : decode cX6_choose 65 = .ok (.istore_n 3, 1) := by decide +kernel
theorem dX6_choose_66 : decode cX6_choose 66 = .ok (.iinc 4 (-1), 3) := by decide +kernel
theorem dX6_choose_69 : decode cX6_choose 69 = .ok (.goto (-62), 3) := by decide +kernel
theorem dX6_choose_72 : decode cX6_choose 72 = .ok (.return_, 1) := by decide +kernel
theorem dX6_lossOf_0 : decode cX6_lossOf 0 = .ok (.aload_n 0, 1) := by decide +kernel
theorem dX6_lossOf_1 : decode cX6_lossOf 1 = .ok (.iload_n 1, 1) := by decide +kernel
theorem dX6_lossOf_2 : decode cX6_lossOf 2 = .ok (.iload_n 2, 1) := by decide +kernel
theorem dX6_lossOf_3 : decode cX6_lossOf 3 = .ok (.invokevirtual 108, 3) := by decide +kernel
theorem dX6_lossOf_6 : decode cX6_lossOf 6 = .ok (.iconst 0, 1) := by decide +kernel
theorem dX6_lossOf_7 : decode cX6_lossOf 7 = .ok (.istore_n 3, 1) := by decide +kernel
theorem dX6_lossOf_8 : decode cX6_lossOf 8 = .ok (.iconst 0, 1) := by decide +kernel
theorem dX6_lossOf_9 : decode cX6_lossOf 9 = .ok (.istore 4, 2) := by decide +kernel
theorem dX6_lossOf_11 : decode cX6_lossOf 11 = .ok (.iconst 0, 1) := by decide +kernel
theorem dX6_lossOf_12 : decode cX6_lossOf 12 = .ok (.istore 5, 2) := by decide +kernel
theorem dX6_lossOf_14 : decode cX6_lossOf 14 = .ok (.iload 5, 2) := by decide +kernel
theorem dX6_lossOf_16 : decode cX6_lossOf 16 = .ok (.iload_n 2, 1) := by decide +kernel
theorem dX6_lossOf_17 : decode cX6_lossOf 17 = .ok (.if_icmp .ge 57, 3) := by decide +kernel
theorem dX6_lossOf_20 : decode cX6_lossOf 20 = .ok (.iconst 1, 1) := by decide +kernel
theorem dX6_lossOf_21 : decode cX6_lossOf 21 = .ok (.aload_n 0, 1) := by decide +kernel
theorem dX6_lossOf_22 : decode cX6_lossOf 22 = .ok (.getfield 29, 3) := by decide +kernel
theorem dX6_lossOf_25 : decode cX6_lossOf 25 = .ok (.iload 5, 2) := by decide +kernel
theorem dX6_lossOf_27 : decode cX6_lossOf 27 = .ok (.iaload, 1) := by decide +kernel
theorem dX6_lossOf_28 : decode cX6_lossOf 28 = .ok (.ishl, 1) := by decide +kernel
theorem dX6_lossOf_29 : decode cX6_lossOf 29 = .ok (.istore 6, 2) := by decide +kernel
theorem dX6_lossOf_31 : decode cX6_lossOf 31 = .ok (.iload_n 3, 1) := by decide +kernel
theorem dX6_lossOf_32 : decode cX6_lossOf 32 = .ok (.iload 6, 2) := by decide +kernel
theorem dX6_lossOf_34 : decode cX6_lossOf 34 = .ok (.iand, 1) := by decide +kernel
theorem dX6_lossOf_35 : decode cX6_lossOf 35 = .ok (.ifCond .eq 6, 3) := by decide +kernel
theorem dX6_lossOf_38 : decode cX6_lossOf 38 = .ok (.ldc 50, 2) := by decide +kernel
theorem dX6_lossOf_40 : decode cX6_lossOf 40 = .ok (.ireturn, 1) := by decide +kernel
theorem dX6_lossOf_41 : decode cX6_lossOf 41 = .ok (.iload_n 3, 1) := by decide +kernel
theorem dX6_lossOf_42 : decode cX6_lossOf 42 = .ok (.iload 6, 2) := by decide +kernel
theorem dX6_lossOf_44 : decode cX6_lossOf 44 = .ok (.ior, 1) := by decide +kernel
theorem dX6_lossOf_45 : decode cX6_lossOf 45 = .ok (.istore_n 3, 1) := by decide +kernel
theorem dX6_lossOf_46 : decode cX6_lossOf 46 = .ok (.iload 4, 2) := by decide +kernel
theorem dX6_lossOf_48 : decode cX6_lossOf 48 = .ok (.aload_n 0, 1) := by decide +kernel
theorem dX6_lossOf_49 : decode cX6_lossOf 49 = .ok (.getfield 26, 3) := by decide +kernel
theorem dX6_lossOf_52 : decode cX6_lossOf 52 = .ok (.iload 5, 2) := by decide +kernel
theorem dX6_lossOf_54 : decode cX6_lossOf 54 = .ok (.iconst 4, 1) := by decide +kernel
theorem dX6_lossOf_55 : decode cX6_lossOf 55 = .ok (.imul, 1) := by decide +kernel
theorem dX6_lossOf_56 : decode cX6_lossOf 56 = .ok (.aload_n 0, 1) := by decide +kernel
theorem dX6_lossOf_57 : decode cX6_lossOf 57 = .ok (.getfield 29, 3) := by decide +kernel
theorem dX6_lossOf_60 : decode cX6_lossOf 60 = .ok (.iload 5, 2) := by decide +kernel
theorem dX6_lossOf_62 : decode cX6_lossOf 62 = .ok (.iaload, 1) := by decide +kernel
theorem dX6_lossOf_63 : decode cX6_lossOf 63 = .ok (.iadd, 1) := by decide +kernel
theorem dX6_lossOf_64 : decode cX6_lossOf 64 = .ok (.iaload, 1) := by decide +kernel
theorem dX6_lossOf_65 : decode cX6_lossOf 65 = .ok (.iadd, 1) := by decide +kernel
theorem dX6_lossOf_66 : decode cX6_lossOf 66 = .ok (.istore 4, 2) := by decide +kernel
theorem dX6_lossOf_68 : decode cX6_lossOf 68 = .ok (.iinc 5 1, 3) := by decide +kernel
theorem dX6_lossOf_71 : decode cX6_lossOf 71 = .ok (.goto (-57), 3) := by decide +kernel
theorem dX6_lossOf_74 : decode cX6_lossOf 74 = .ok (.iload 4, 2) := by decide +kernel
theorem dX6_lossOf_76 : decode cX6_lossOf 76 = .ok (.ireturn, 1) := by decide +kernel
theorem dX6_thirdFor_0 : decode cX6_thirdFor 0 = .ok (.aload_n 1, 1) := by decide +kernel
theorem dX6_thirdFor_1 : decode cX6_thirdFor 1 = .ok (.bipush 19, 2) := by decide +kernel
theorem dX6_thirdFor_3 : decode cX6_thirdFor 3 = .ok (.iload_n 2, 1) := by decide +kernel
theorem dX6_thirdFor_4 : decode cX6_thirdFor 4 = .ok (.iadd, 1) := by decide +kernel
theorem dX6_thirdFor_5 : decode cX6_thirdFor 5 = .ok (.iaload, 1) := by decide +kernel
theorem dX6_thirdFor_6 : decode cX6_thirdFor 6 = .ok (.ifCond .eq 6, 3) := by decide +kernel
theorem dX6_thirdFor_9 : decode cX6_thirdFor 9 = .ok (.bipush (-2), 2) := by decide +kernel
theorem dX6_thirdFor_11 : decode cX6_thirdFor 11 = .ok (.ireturn, 1) := by decide +kernel
theorem dX6_thirdFor_12 : decode cX6_thirdFor 12 = .ok (.aload_n 0, 1) := by decide +kernel
theorem dX6_thirdFor_13 : decode cX6_thirdFor 13 = .ok (.iload_n 3, 1) := by decide +kernel
theorem dX6_thirdFor_14 : decode cX6_thirdFor 14 = .ok (.iload 4, 2) := by decide +kernel
theorem dX6_thirdFor_16 : decode cX6_thirdFor 16 = .ok (.invokevirtual 108, 3) := by decide +kernel
theorem dX6_thirdFor_19 : decode cX6_thirdFor 19 = .ok (.iconst 0, 1) := by decide +kernel
theorem dX6_thirdFor_20 : decode cX6_thirdFor 20 = .ok (.istore 5, 2) := by decide +kernel
theorem dX6_thirdFor_22 : decode cX6_thirdFor 22 = .ok (.iconst 0, 1) := by decide +kernel
theorem dX6_thirdFor_23 : decode cX6_thirdFor 23 = .ok (.istore 6, 2) := by decide +kernel
theorem dX6_thirdFor_25 : decode cX6_thirdFor 25 = .ok (.iload 6, 2) := by decide +kernel
theorem dX6_thirdFor_27 : decode cX6_thirdFor 27 = .ok (.iload_n 2, 1) := by decide +kernel
theorem dX6_thirdFor_28 : decode cX6_thirdFor 28 = .ok (.if_icmp .ge 29, 3) := by decide +kernel
theorem dX6_thirdFor_31 : decode cX6_thirdFor 31 = .ok (.iload 5, 2) := by decide +kernel
theorem dX6_thirdFor_33 : decode cX6_thirdFor 33 = .ok (.aload_n 1, 1) := by decide +kernel
theorem dX6_thirdFor_34 : decode cX6_thirdFor 34 = .ok (.bipush 19, 2) := by decide +kernel
theorem dX6_thirdFor_36 : decode cX6_thirdFor 36 = .ok (.iload 6, 2) := by decide +kernel
theorem dX6_thirdFor_38 : decode cX6_thirdFor 38 = .ok (.iadd, 1) := by decide +kernel
theorem dX6_thirdFor_39 : decode cX6_thirdFor 39 = .ok (.iaload, 1) := by decide +kernel
theorem dX6_thirdFor_40 : decode cX6_thirdFor 40 = .ok (.ifCond .ne 7, 3) := by decide +kernel
theorem dX6_thirdFor_43 : decode cX6_thirdFor 43 = .ok (.iconst 1, 1) := by decide +kernel
theorem dX6_thirdFor_44 : decode cX6_thirdFor 44 = .ok (.goto 4, 3) := by decide +kernel
theorem dX6_thirdFor_47 : decode cX6_thirdFor 47 = .ok (.iconst 0, 1) := by decide +kernel
theorem dX6_thirdFor_48 : decode cX6_thirdFor 48 = .ok (.iadd, 1) := by decide +kernel
theorem dX6_thirdFor_49 : decode cX6_thirdFor 49 = .ok (.istore 5, 2) := by decide +kernel
theorem dX6_thirdFor_51 : decode cX6_thirdFor 51 = .ok (.iinc 6 1, 3) := by decide +kernel
theorem dX6_thirdFor_54 : decode cX6_thirdFor 54 = .ok (.goto (-29), 3) := by decide +kernel
theorem dX6_thirdFor_57 : decode cX6_thirdFor 57 = .ok (.iload 5, 2) := by decide +kernel
theorem dX6_thirdFor_59 : decode cX6_thirdFor 59 = .ok (.iload 4, 2) := by decide +kernel
theorem dX6_thirdFor_61 : decode cX6_thirdFor 61 = .ok (.if_icmp .ge 13, 3) := by decide +kernel
theorem dX6_thirdFor_64 : decode cX6_thirdFor 64 = .ok (.aload_n 0, 1) := by decide +kernel
theorem dX6_thirdFor_65 : decode cX6_thirdFor 65 = .ok (.getfield 29, 3) := by decide +kernel
theorem dX6_thirdFor_68 : decode cX6_thirdFor 68 = .ok (.iload 5, 2) := by decide +kernel
theorem dX6_thirdFor_70 : decode cX6_thirdFor 70 = .ok (.iaload, 1) := by decide +kernel
theorem dX6_thirdFor_71 : decode cX6_thirdFor 71 = .ok (.goto 5, 3) := by decide +kernel
theorem dX6_thirdFor_74 : decode cX6_thirdFor 74 = .ok (.bipush (-2), 2) := by decide +kernel
theorem dX6_thirdFor_76 : decode cX6_thirdFor 76 = .ok (.ireturn, 1) := by decide +kernel

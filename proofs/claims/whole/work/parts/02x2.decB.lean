theorem dX4_init_0 : decode cX4_init 0 = .ok (.aload_n 0, 1) := by decide +kernel
theorem dX4_init_1 : decode cX4_init 1 = .ok (.invokespecial 3, 3) := by decide +kernel
theorem dX4_init_4 : decode cX4_init 4 = .ok (.aload_n 0, 1) := by decide +kernel
theorem dX4_init_5 : decode cX4_init 5 = .ok (.new 9, 3) := by decide +kernel
theorem dX4_init_8 : decode cX4_init 8 = .ok (.dup, 1) := by decide +kernel
theorem dX4_init_9 : decode cX4_init 9 = .ok (.invokespecial 11, 3) := by decide +kernel
theorem dX4_init_12 : decode cX4_init 12 = .ok (.putfield 12, 3) := by decide +kernel
theorem dX4_init_15 : decode cX4_init 15 = .ok (.aload_n 0, 1) := by decide +kernel
theorem dX4_init_16 : decode cX4_init 16 = .ok (.new 18, 3) := by decide +kernel
theorem dX4_init_19 : decode cX4_init 19 = .ok (.dup, 1) := by decide +kernel
theorem dX4_init_20 : decode cX4_init 20 = .ok (.invokespecial 20, 3) := by decide +kernel
theorem dX4_init_23 : decode cX4_init 23 = .ok (.putfield 21, 3) := by decide +kernel
theorem dX4_init_26 : decode cX4_init 26 = .ok (.aload_n 0, 1) := by decide +kernel
theorem dX4_init_27 : decode cX4_init 27 = .ok (.bipush 10, 2) := by decide +kernel
theorem dX4_init_29 : decode cX4_init 29 = .ok (.newarray .long, 2) := by decide +kernel
theorem dX4_init_31 : decode cX4_init 31 = .ok (.putfield 25, 3) := by decide +kernel
theorem dX4_init_34 : decode cX4_init 34 = .ok (.aload_n 0, 1) := by decide +kernel
theorem dX4_init_35 : decode cX4_init 35 = .ok (.bipush 10, 2) := by decide +kernel
theorem dX4_init_37 : decode cX4_init 37 = .ok (.newarray .int, 2) := by decide +kernel
theorem dX4_init_39 : decode cX4_init 39 = .ok (.putfield 29, 3) := by decide +kernel
theorem dX4_init_42 : decode cX4_init 42 = .ok (.return_, 1) := by decide +kernel
theorem dX4_readTape_0 : decode cX4_readTape 0 = .ok (.aload_n 0, 1) := by decide +kernel
theorem dX4_readTape_1 : decode cX4_readTape 1 = .ok (.getfield 12, 3) := by decide +kernel
theorem dX4_readTape_4 : decode cX4_readTape 4 = .ok (.aload_n 1, 1) := by decide +kernel
theorem dX4_readTape_5 : decode cX4_readTape 5 = .ok (.iload_n 2, 1) := by decide +kernel
theorem dX4_readTape_6 : decode cX4_readTape 6 = .ok (.invokevirtual 33, 3) := by decide +kernel
theorem dX4_readTape_9 : decode cX4_readTape 9 = .ok (.aload_n 0, 1) := by decide +kernel
theorem dX4_readTape_10 : decode cX4_readTape 10 = .ok (.getfield 21, 3) := by decide +kernel
theorem dX4_readTape_13 : decode cX4_readTape 13 = .ok (.invokevirtual 37, 3) := by decide +kernel
theorem dX4_readTape_16 : decode cX4_readTape 16 = .ok (.aload_n 0, 1) := by decide +kernel
theorem dX4_readTape_17 : decode cX4_readTape 17 = .ok (.iconst 0, 1) := by decide +kernel
theorem dX4_readTape_18 : decode cX4_readTape 18 = .ok (.putfield 40, 3) := by decide +kernel
theorem dX4_readTape_21 : decode cX4_readTape 21 = .ok (.aload_n 0, 1) := by decide +kernel
theorem dX4_readTape_22 : decode cX4_readTape 22 = .ok (.iconst 0, 1) := by decide +kernel
theorem dX4_readTape_23 : decode cX4_readTape 23 = .ok (.putfield 44, 3) := by decide +kernel
theorem dX4_readTape_26 : decode cX4_readTape 26 = .ok (.aload_n 0, 1) := by decide +kernel
theorem dX4_readTape_27 : decode cX4_readTape 27 = .ok (.iconst 0, 1) := by decide +kernel
theorem dX4_readTape_28 : decode cX4_readTape 28 = .ok (.putfield 47, 3) := by decide +kernel
theorem dX4_readTape_31 : decode cX4_readTape 31 = .ok (.aload_n 0, 1) := by decide +kernel
theorem dX4_readTape_32 : decode cX4_readTape 32 = .ok (.iconst 0, 1) := by decide +kernel
theorem dX4_readTape_33 : decode cX4_readTape 33 = .ok (.putfield 50, 3) := by decide +kernel
theorem dX4_readTape_36 : decode cX4_readTape 36 = .ok (.aload_n 0, 1) := by decide +kernel
theorem dX4_readTape_37 : decode cX4_readTape 37 = .ok (.iconst (-1), 1) := by decide +kernel
theorem dX4_readTape_38 : decode cX4_readTape 38 = .ok (.putfield 53, 3) := by decide +kernel
theorem dX4_readTape_41 : decode cX4_readTape 41 = .ok (.iconst 1, 1) := by decide +kernel
theorem dX4_readTape_42 : decode cX4_readTape 42 = .ok (.istore_n 3, 1) := by decide +kernel
theorem dX4_readTape_43 : decode cX4_readTape 43 = .ok (.iconst 0, 1) := by decide +kernel
theorem dX4_readTape_44 : decode cX4_readTape 44 = .ok (.istore 4, 2) := by decide +kernel
theorem dX4_readTape_46 : decode cX4_readTape 46 = .ok (.iload_n 3, 1) := by decide +kernel
theorem dX4_readTape_47 : decode cX4_readTape 47 = .ok (.ifCond .eq 76, 3) := by decide +kernel
theorem dX4_readTape_50 : decode cX4_readTape 50 = .ok (.iload 4, 2) := by decide +kernel
theorem dX4_readTape_52 : decode cX4_readTape 52 = .ok (.sipush 400, 3) := by decide +kernel
theorem dX4_readTape_55 : decode cX4_readTape 55 = .ok (.if_icmp .gt 68, 3) := by decide +kernel
theorem dX4_readTape_58 : decode cX4_readTape 58 = .ok (.aload_n 0, 1) := by decide +kernel
theorem dX4_readTape_59 : decode cX4_readTape 59 = .ok (.getfield 12, 3) := by decide +kernel
theorem dX4_readTape_62 : decode cX4_readTape 62 = .ok (.aload_n 0, 1) := by decide +kernel
theorem dX4_readTape_63 : decode cX4_readTape 63 = .ok (.getfield 44, 3) := by decide +kernel
theorem dX4_readTape_66 : decode cX4_readTape 66 = .ok (.invokevirtual 56, 3) := by decide +kernel
theorem dX4_readTape_69 : decode cX4_readTape 69 = .ok (.istore 5, 2) := by decide +kernel
theorem dX4_readTape_71 : decode cX4_readTape 71 = .ok (.iload 5, 2) := by decide +kernel
theorem dX4_readTape_73 : decode cX4_readTape 73 = .ok (.sipush 131, 3) := by decide +kernel
theorem dX4_readTape_76 : decode cX4_readTape 76 = .ok (.if_icmp .lt 21, 3) := by decide +kernel
theorem dX4_readTape_79 : decode cX4_readTape 79 = .ok (.iload 5, 2) := by decide +kernel
theorem dX4_readTape_81 : decode cX4_readTape 81 = .ok (.sipush 138, 3) := by decide +kernel
theorem dX4_readTape_84 : decode cX4_readTape 84 = .ok (.if_icmp .ge 13, 3) := by decide +kernel
theorem dX4_readTape_87 : decode cX4_readTape 87 = .ok (.aload_n 0, 1) := by decide +kernel
theorem dX4_readTape_88 : decode cX4_readTape 88 = .ok (.iload 5, 2) := by decide +kernel
theorem dX4_readTape_90 : decode cX4_readTape 90 = .ok (.invokevirtual 60, 3) := by decide +kernel
theorem dX4_readTape_93 : decode cX4_readTape 93 = .ok (.istore_n 3, 1) := by decide +kernel
theorem dX4_readTape_94 : decode cX4_readTape 94 = .ok (.goto 23, 3) := by decide +kernel
theorem dX4_readTape_97 : decode cX4_readTape 97 = .ok (.iload 5, 2) := by decide +kernel
theorem dX4_readTape_99 : decode cX4_readTape 99 = .ok (.ifCond .eq 16, 3) := by decide +kernel
theorem dX4_readTape_102 : decode cX4_readTape 102 = .ok (.aload_n 0, 1) := by decide +kernel
theorem dX4_readTape_103 : decode cX4_readTape 103 = .ok (.iload 5, 2) := by decide +kernel
theorem dX4_readTape_105 : decode cX4_readTape 105 = .ok (.invokevirtual 64, 3) := by decide +kernel
theorem dX4_readTape_108 : decode cX4_readTape 108 = .ok (.ifCond .eq 7, 3) := by decide +kernel
theorem dX4_readTape_111 : decode cX4_readTape 111 = .ok (.iconst 1, 1) := by decide +kernel
theorem dX4_readTape_112 : decode cX4_readTape 112 = .ok (.goto 4, 3) := by decide +kernel
theorem dX4_readTape_115 : decode cX4_readTape 115 = .ok (.iconst 0, 1) := by decide +kernel
theorem dX4_readTape_116 : decode cX4_readTape 116 = .ok (.istore_n 3, 1) := by decide +kernel
theorem dX4_readTape_117 : decode cX4_readTape 117 = .ok (.iinc 4 1, 3) := by decide +kernel
theorem dX4_readTape_120 : decode cX4_readTape 120 = .ok (.goto (-74), 3) := by decide +kernel
theorem dX4_readTape_123 : decode cX4_readTape 123 = .ok (.aload_n 0, 1) := by decide +kernel
theorem dX4_readTape_124 : decode cX4_readTape 124 = .ok (.aload_n 0, 1) := by decide +kernel
theorem dX4_readTape_125 : decode cX4_readTape 125 = .ok (.getfield 47, 3) := by decide +kernel
theorem dX4_readTape_128 : decode cX4_readTape 128 = .ok (.ifCond .ne 10, 3) := by decide +kernel
theorem dX4_readTape_131 : decode cX4_readTape 131 = .ok (.aload_n 0, 1) := by decide +kernel
theorem dX4_readTape_132 : decode cX4_readTape 132 = .ok (.getfield 53, 3) := by decide +kernel
theorem dX4_readTape_135 : decode cX4_readTape 135 = .ok (.goto 14, 3) := by decide +kernel
theorem dX4_readTape_138 : decode cX4_readTape 138 = .ok (.aload_n 0, 1) := by decide +kernel
theorem dX4_readTape_139 : decode cX4_readTape 139 = .ok (.getfield 12, 3) := by decide +kernel
theorem dX4_readTape_142 : decode cX4_readTape 142 = .ok (.aload_n 0, 1) := by decide +kernel
theorem dX4_readTape_143 : decode cX4_readTape 143 = .ok (.getfield 44, 3) := by decide +kernel
theorem dX4_readTape_146 : decode cX4_readTape 146 = .ok (.invokevirtual 67, 3) := by decide +kernel
theorem dX4_readTape_149 : decode cX4_readTape 149 = .ok (.putfield 70, 3) := by decide +kernel
theorem dX4_readTape_152 : decode cX4_readTape 152 = .ok (.aload_n 0, 1) := by decide +kernel
theorem dX4_readTape_153 : decode cX4_readTape 153 = .ok (.aload_n 0, 1) := by decide +kernel
theorem dX4_readTape_154 : decode cX4_readTape 154 = .ok (.getfield 47, 3) := by decide +kernel
theorem dX4_readTape_157 : decode cX4_readTape 157 = .ok (.ifCond .ne 10, 3) := by decide +kernel
theorem dX4_readTape_160 : decode cX4_readTape 160 = .ok (.aload_n 0, 1) := by decide +kernel
theorem dX4_readTape_161 : decode cX4_readTape 161 = .ok (.getfield 50, 3) := by decide +kernel
theorem dX4_readTape_164 : decode cX4_readTape 164 = .ok (.goto 7, 3) := by decide +kernel
theorem dX4_readTape_167 : decode cX4_readTape 167 = .ok (.aload_n 0, 1) := by decide +kernel
theorem dX4_readTape_168 : decode cX4_readTape 168 = .ok (.getfield 47, 3) := by decide +kernel
theorem dX4_readTape_171 : decode cX4_readTape 171 = .ok (.putfield 47, 3) := by decide +kernel
theorem dX4_readTape_174 : decode cX4_readTape 174 = .ok (.aload_n 0, 1) := by decide +kernel
theorem dX4_readTape_175 : decode cX4_readTape 175 = .ok (.getfield 47, 3) := by decide +kernel
theorem dX4_readTape_178 : decode cX4_readTape 178 = .ok (.ireturn, 1) := by decide +kernel
theorem dX4_refuse_0 : decode cX4_refuse 0 = .ok (.aload_n 0, 1) := by decide +kernel
theorem dX4_refuse_1 : decode cX4_refuse 1 = .ok (.iload_n 1, 1) := by decide +kernel
theorem dX4_refuse_2 : decode cX4_refuse 2 = .ok (.putfield 47, 3) := by decide +kernel
theorem dX4_refuse_5 : decode cX4_refuse 5 = .ok (.iconst 0, 1) := by decide +kernel
theorem dX4_refuse_6 : decode cX4_refuse 6 = .ok (.ireturn, 1) := by decide +kernel
theorem dX4_blame_0 : decode cX4_blame 0 = .ok (.aload_n 0, 1) := by decide +kernel
theorem dX4_blame_1 : decode cX4_blame 1 = .ok (.getfield 50, 3) := by decide +kernel
theorem dX4_blame_4 : decode cX4_blame 4 = .ok (.ifCond .ne 25, 3) := by decide +kernel
theorem dX4_blame_7 : decode cX4_blame 7 = .ok (.aload_n 0, 1) := by decide +kernel
theorem dX4_blame_8 : decode cX4_blame 8 = .ok (.iload_n 1, 1) := by decide +kernel
theorem dX4_blame_9 : decode cX4_blame 9 = .ok (.putfield 50, 3) := by decide +kernel
theorem dX4_blame_12 : decode cX4_blame 12 = .ok (.aload_n 0, 1) := by decide +kernel
theorem dX4_blame_13 : decode cX4_blame 13 = .ok (.aload_n 0, 1) := by decide +kernel
theorem dX4_blame_14 : decode cX4_blame 14 = .ok (.getfield 12, 3) := by decide +kernel
theorem dX4_blame_17 : decode cX4_blame 17 = .ok (.aload_n 0, 1) := by decide +kernel
theorem dX4_blame_18 : decode cX4_blame 18 = .ok (.getfield 44, 3) := by decide +kernel
theorem dX4_blame_21 : decode cX4_blame 21 = .ok (.iconst 1, 1) := by decide +kernel
theorem dX4_blame_22 : decode cX4_blame 22 = .ok (.isub, 1) := by decide +kernel
theorem dX4_blame_23 : decode cX4_blame 23 = .ok (.invokevirtual 67, 3) := by decide +kernel
theorem dX4_blame_26 : decode cX4_blame 26 = .ok (.putfield 53, 3) := by decide +kernel
theorem dX4_blame_29 : decode cX4_blame 29 = .ok (.return_, 1) := by decide +kernel
theorem dX4_take_0 : decode cX4_take 0 = .ok (.aload_n 0, 1) := by decide +kernel
theorem dX4_take_1 : decode cX4_take 1 = .ok (.getfield 12, 3) := by decide +kernel
theorem dX4_take_4 : decode cX4_take 4 = .ok (.aload_n 0, 1) := by decide +kernel
theorem dX4_take_5 : decode cX4_take 5 = .ok (.getfield 44, 3) := by decide +kernel
theorem dX4_take_8 : decode cX4_take 8 = .ok (.invokevirtual 56, 3) := by decide +kernel
theorem dX4_take_11 : decode cX4_take 11 = .ok (.iload_n 1, 1) := by decide +kernel
theorem dX4_take_12 : decode cX4_take 12 = .ok (.if_icmp .eq 10, 3) := by decide +kernel
theorem dX4_take_15 : decode cX4_take 15 = .ok (.aload_n 0, 1) := by decide +kernel
theorem dX4_take_16 : decode cX4_take 16 = .ok (.iconst 1, 1) := by decide +kernel
theorem dX4_take_17 : decode cX4_take 17 = .ok (.putfield 47, 3) := by decide +kernel
theorem dX4_take_20 : decode cX4_take 20 = .ok (.iconst 0, 1) := by decide +kernel
theorem dX4_take_21 : decode cX4_take 21 = .ok (.ireturn, 1) := by decide +kernel
theorem dX4_take_22 : decode cX4_take 22 = .ok (.aload_n 0, 1) := by decide +kernel
theorem dX4_take_23 : decode cX4_take 23 = .ok (.getfield 44, 3) := by decide +kernel
theorem dX4_take_26 : decode cX4_take 26 = .ok (.sipush 400, 3) := by decide +kernel
theorem dX4_take_29 : decode cX4_take 29 = .ok (.if_icmp .lt 10, 3) := by decide +kernel
theorem dX4_take_32 : decode cX4_take 32 = .ok (.aload_n 0, 1) := by decide +kernel
theorem dX4_take_33 : decode cX4_take 33 = .ok (.iconst 2, 1) := by decide +kernel
theorem dX4_take_34 : decode cX4_take 34 = .ok (.putfield 47, 3) := by decide +kernel
theorem dX4_take_37 : decode cX4_take 37 = .ok (.iconst 0, 1) := by decide +kernel
theorem dX4_take_38 : decode cX4_take 38 = .ok (.ireturn, 1) := by decide +kernel
theorem dX4_take_39 : decode cX4_take 39 = .ok (.aload_n 0, 1) := by decide +kernel
theorem dX4_take_40 : decode cX4_take 40 = .ok (.dup, 1) := by decide +kernel
theorem dX4_take_41 : decode cX4_take 41 = .ok (.getfield 44, 3) := by decide +kernel
theorem dX4_take_44 : decode cX4_take 44 = .ok (.iconst 1, 1) := by decide +kernel
theorem dX4_take_45 : decode cX4_take 45 = .ok (.iadd, 1) := by decide +kernel
theorem dX4_take_46 : decode cX4_take 46 = .ok (.putfield 44, 3) := by decide +kernel
theorem dX4_take_49 : decode cX4_take 49 = .ok (.iconst 1, 1) := by decide +kernel
theorem dX4_take_50 : decode cX4_take 50 = .ok (.ireturn, 1) := by decide +kernel
theorem dX4_takeNumber_0 : decode cX4_takeNumber 0 = .ok (.aload_n 0, 1) := by decide +kernel
theorem dX4_takeNumber_1 : decode cX4_takeNumber 1 = .ok (.iconst 3, 1) := by decide +kernel
theorem dX4_takeNumber_2 : decode cX4_takeNumber 2 = .ok (.invokevirtual 73, 3) := by decide +kernel
theorem dX4_takeNumber_5 : decode cX4_takeNumber 5 = .ok (.ifCond .ne 5, 3) := by decide +kernel
theorem dX4_takeNumber_8 : decode cX4_takeNumber 8 = .ok (.iconst 0, 1) := by decide +kernel
theorem dX4_takeNumber_9 : decode cX4_takeNumber 9 = .ok (.ireturn, 1) := by decide +kernel
theorem dX4_takeNumber_10 : decode cX4_takeNumber 10 = .ok (.aload_n 0, 1) := by decide +kernel
theorem dX4_takeNumber_11 : decode cX4_takeNumber 11 = .ok (.invokevirtual 76, 3) := by decide +kernel
theorem dX4_takeNumber_14 : decode cX4_takeNumber 14 = .ok (.iload_n 1, 1) := by decide +kernel
theorem dX4_takeNumber_15 : decode cX4_takeNumber 15 = .ok (.if_icmp .le 8, 3) := by decide +kernel
theorem dX4_takeNumber_18 : decode cX4_takeNumber 18 = .ok (.aload_n 0, 1) := by decide +kernel
theorem dX4_takeNumber_19 : decode cX4_takeNumber 19 = .ok (.iconst 5, 1) := by decide +kernel
theorem dX4_takeNumber_20 : decode cX4_takeNumber 20 = .ok (.invokevirtual 80, 3) := by decide +kernel
theorem dX4_takeNumber_23 : decode cX4_takeNumber 23 = .ok (.iconst 1, 1) := by decide +kernel
theorem dX4_takeNumber_24 : decode cX4_takeNumber 24 = .ok (.ireturn, 1) := by decide +kernel
theorem dX4_taken_0 : decode cX4_taken 0 = .ok (.aload_n 0, 1) := by decide +kernel
theorem dX4_taken_1 : decode cX4_taken 1 = .ok (.getfield 12, 3) := by decide +kernel
theorem dX4_taken_4 : decode cX4_taken 4 = .ok (.aload_n 0, 1) := by decide +kernel
theorem dX4_taken_5 : decode cX4_taken 5 = .ok (.getfield 44, 3) := by decide +kernel
theorem dX4_taken_8 : decode cX4_taken 8 = .ok (.iconst 1, 1) := by decide +kernel
theorem dX4_taken_9 : decode cX4_taken 9 = .ok (.isub, 1) := by decide +kernel
theorem dX4_taken_10 : decode cX4_taken 10 = .ok (.invokevirtual 84, 3) := by decide +kernel
theorem dX4_taken_13 : decode cX4_taken 13 = .ok (.l2i, 1) := by decide +kernel
theorem dX4_taken_14 : decode cX4_taken 14 = .ok (.ireturn, 1) := by decide +kernel
theorem dX4_readFact_0 : decode cX4_readFact 0 = .ok (.iload_n 1, 1) := by decide +kernel
theorem dX4_readFact_1 : decode cX4_readFact 1 = .ok (.tableswitch 88 128 139 #[63, 68, 73, 88, 88, 88, 88, 88, 88, 88, 78, 83], 63) := by decide +kernel
theorem dX4_readFact_64 : decode cX4_readFact 64 = .ok (.aload_n 0, 1) := by decide +kernel
theorem dX4_readFact_65 : decode cX4_readFact 65 = .ok (.invokevirtual 88, 3) := by decide +kernel
theorem dX4_readFact_68 : decode cX4_readFact 68 = .ok (.ireturn, 1) := by decide +kernel
theorem dX4_readFact_69 : decode cX4_readFact 69 = .ok (.aload_n 0, 1) := by decide +kernel
theorem dX4_readFact_70 : decode cX4_readFact 70 = .ok (.invokevirtual 92, 3) := by decide +kernel
theorem dX4_readFact_73 : decode cX4_readFact 73 = .ok (.ireturn, 1) := by decide +kernel
theorem dX4_readFact_74 : decode cX4_readFact 74 = .ok (.aload_n 0, 1) := by decide +kernel
theorem dX4_readFact_75 : decode cX4_readFact 75 = .ok (.invokevirtual 95, 3) := by decide +kernel
theorem dX4_readFact_78 : decode cX4_readFact 78 = .ok (.ireturn, 1) := by decide +kernel
theorem dX4_readFact_79 : decode cX4_readFact 79 = .ok (.aload_n 0, 1) := by decide +kernel
theorem dX4_readFact_80 : decode cX4_readFact 80 = .ok (.invokevirtual 98, 3) := by decide +kernel
theorem dX4_readFact_83 : decode cX4_readFact 83 = .ok (.ireturn, 1) := by decide +kernel
theorem dX4_readFact_84 : decode cX4_readFact 84 = .ok (.aload_n 0, 1) := by decide +kernel
theorem dX4_readFact_85 : decode cX4_readFact 85 = .ok (.invokevirtual 101, 3) := by decide +kernel
theorem dX4_readFact_88 : decode cX4_readFact 88 = .ok (.ireturn, 1) := by decide +kernel
theorem dX4_readFact_89 : decode cX4_readFact 89 = .ok (.aload_n 0, 1) := by decide +kernel
theorem dX4_readFact_90 : decode cX4_readFact 90 = .ok (.iconst 1, 1) := by decide +kernel
theorem dX4_readFact_91 : decode cX4_readFact 91 = .ok (.invokevirtual 104, 3) := by decide +kernel
theorem dX4_readFact_94 : decode cX4_readFact 94 = .ok (.ireturn, 1) := by decide +kernel
theorem dX4_readSpouse_0 : decode cX4_readSpouse 0 = .ok (.aload_n 0, 1) := by decide +kernel
theorem dX4_readSpouse_1 : decode cX4_readSpouse 1 = .ok (.getfield 21, 3) := by decide +kernel
theorem dX4_readSpouse_4 : decode cX4_readSpouse 4 = .ok (.getfield 107, 3) := by decide +kernel
theorem dX4_readSpouse_7 : decode cX4_readSpouse 7 = .ok (.bipush 6, 2) := by decide +kernel
theorem dX4_readSpouse_9 : decode cX4_readSpouse 9 = .ok (.if_icmp .lt 9, 3) := by decide +kernel
theorem dX4_readSpouse_12 : decode cX4_readSpouse 12 = .ok (.aload_n 0, 1) := by decide +kernel
theorem dX4_readSpouse_13 : decode cX4_readSpouse 13 = .ok (.iconst 2, 1) := by decide +kernel
theorem dX4_readSpouse_14 : decode cX4_readSpouse 14 = .ok (.invokevirtual 104, 3) := by decide +kernel
theorem dX4_readSpouse_17 : decode cX4_readSpouse 17 = .ok (.ireturn, 1) := by decide +kernel
theorem dX4_readSpouse_18 : decode cX4_readSpouse 18 = .ok (.aload_n 0, 1) := by decide +kernel
theorem dX4_readSpouse_19 : decode cX4_readSpouse 19 = .ok (.sipush 128, 3) := by decide +kernel
theorem dX4_readSpouse_22 : decode cX4_readSpouse 22 = .ok (.invokevirtual 73, 3) := by decide +kernel
theorem dX4_readSpouse_25 : decode cX4_readSpouse 25 = .ok (.ifCond .eq 26, 3) := by decide +kernel
theorem dX4_readSpouse_28 : decode cX4_readSpouse 28 = .ok (.aload_n 0, 1) := by decide +kernel
theorem dX4_readSpouse_29 : decode cX4_readSpouse 29 = .ok (.aload_n 0, 1) := by decide +kernel
theorem dX4_readSpouse_30 : decode cX4_readSpouse 30 = .ok (.getfield 21, 3) := by decide +kernel
theorem dX4_readSpouse_33 : decode cX4_readSpouse 33 = .ok (.getfield 107, 3) := by decide +kernel
theorem dX4_readSpouse_36 : decode cX4_readSpouse 36 = .ok (.invokevirtual 110, 3) := by decide +kernel
theorem dX4_readSpouse_39 : decode cX4_readSpouse 39 = .ok (.ifCond .eq 12, 3) := by decide +kernel
theorem dX4_readSpouse_42 : decode cX4_readSpouse 42 = .ok (.aload_n 0, 1) := by decide +kernel
theorem dX4_readSpouse_43 : decode cX4_readSpouse 43 = .ok (.bipush 99, 2) := by decide +kernel
theorem dX4_readSpouse_45 : decode cX4_readSpouse 45 = .ok (.invokevirtual 113, 3) := by decide +kernel
theorem dX4_readSpouse_48 : decode cX4_readSpouse 48 = .ok (.ifCond .ne 5, 3) := by decide +kernel
theorem dX4_readSpouse_51 : decode cX4_readSpouse 51 = .ok (.iconst 0, 1) := by decide +kernel
theorem dX4_readSpouse_52 : decode cX4_readSpouse 52 = .ok (.ireturn, 1) := by decide +kernel
theorem dX4_readSpouse_53 : decode cX4_readSpouse 53 = .ok (.aload_n 0, 1) := by decide +kernel
theorem dX4_readSpouse_54 : decode cX4_readSpouse 54 = .ok (.getfield 21, 3) := by decide +kernel
theorem dX4_readSpouse_57 : decode cX4_readSpouse 57 = .ok (.aload_n 0, 1) := by decide +kernel
theorem dX4_readSpouse_58 : decode cX4_readSpouse 58 = .ok (.invokevirtual 76, 3) := by decide +kernel
theorem dX4_readSpouse_61 : decode cX4_readSpouse 61 = .ok (.invokevirtual 116, 3) := by decide +kernel
theorem dX4_readSpouse_64 : decode cX4_readSpouse 64 = .ok (.aload_n 0, 1) := by decide +kernel
theorem dX4_readSpouse_65 : decode cX4_readSpouse 65 = .ok (.bipush 59, 2) := by decide +kernel
theorem dX4_readSpouse_67 : decode cX4_readSpouse 67 = .ok (.invokevirtual 73, 3) := by decide +kernel
theorem dX4_readSpouse_70 : decode cX4_readSpouse 70 = .ok (.ireturn, 1) := by decide +kernel
theorem dX4_readThird_0 : decode cX4_readThird 0 = .ok (.aload_n 0, 1) := by decide +kernel
theorem dX4_readThird_1 : decode cX4_readThird 1 = .ok (.getfield 21, 3) := by decide +kernel
theorem dX4_readThird_4 : decode cX4_readThird 4 = .ok (.getfield 119, 3) := by decide +kernel
theorem dX4_readThird_7 : decode cX4_readThird 7 = .ok (.iconst 4, 1) := by decide +kernel
theorem dX4_readThird_8 : decode cX4_readThird 8 = .ok (.if_icmp .lt 9, 3) := by decide +kernel
theorem dX4_readThird_11 : decode cX4_readThird 11 = .ok (.aload_n 0, 1) := by decide +kernel
theorem dX4_readThird_12 : decode cX4_readThird 12 = .ok (.iconst 2, 1) := by decide +kernel
theorem dX4_readThird_13 : decode cX4_readThird 13 = .ok (.invokevirtual 104, 3) := by decide +kernel
theorem dX4_readThird_16 : decode cX4_readThird 16 = .ok (.ireturn, 1) := by decide +kernel
theorem dX4_readThird_17 : decode cX4_readThird 17 = .ok (.aload_n 0, 1) := by decide +kernel
theorem dX4_readThird_18 : decode cX4_readThird 18 = .ok (.sipush 130, 3) := by decide +kernel
theorem dX4_readThird_21 : decode cX4_readThird 21 = .ok (.invokevirtual 73, 3) := by decide +kernel
theorem dX4_readThird_24 : decode cX4_readThird 24 = .ok (.ifCond .eq 20, 3) := by decide +kernel
theorem dX4_readThird_27 : decode cX4_readThird 27 = .ok (.aload_n 0, 1) := by decide +kernel
theorem dX4_readThird_28 : decode cX4_readThird 28 = .ok (.iconst (-1), 1) := by decide +kernel
theorem dX4_readThird_29 : decode cX4_readThird 29 = .ok (.invokevirtual 110, 3) := by decide +kernel
theorem dX4_readThird_32 : decode cX4_readThird 32 = .ok (.ifCond .eq 12, 3) := by decide +kernel
theorem dX4_readThird_35 : decode cX4_readThird 35 = .ok (.aload_n 0, 1) := by decide +kernel
theorem dX4_readThird_36 : decode cX4_readThird 36 = .ok (.bipush 9, 2) := by decide +kernel
theorem dX4_readThird_38 : decode cX4_readThird 38 = .ok (.invokevirtual 113, 3) := by decide +kernel
theorem dX4_readThird_41 : decode cX4_readThird 41 = .ok (.ifCond .ne 5, 3) := by decide +kernel
theorem dX4_readThird_44 : decode cX4_readThird 44 = .ok (.iconst 0, 1) := by decide +kernel
theorem dX4_readThird_45 : decode cX4_readThird 45 = .ok (.ireturn, 1) := by decide +kernel
theorem dX4_readThird_46 : decode cX4_readThird 46 = .ok (.aload_n 0, 1) := by decide +kernel
theorem dX4_readThird_47 : decode cX4_readThird 47 = .ok (.invokevirtual 76, 3) := by decide +kernel
theorem dX4_readThird_50 : decode cX4_readThird 50 = .ok (.istore_n 1, 1) := by decide +kernel
theorem dX4_readThird_51 : decode cX4_readThird 51 = .ok (.aload_n 0, 1) := by decide +kernel
theorem dX4_readThird_52 : decode cX4_readThird 52 = .ok (.bipush 99, 2) := by decide +kernel
theorem dX4_readThird_54 : decode cX4_readThird 54 = .ok (.invokevirtual 113, 3) := by decide +kernel
theorem dX4_readThird_57 : decode cX4_readThird 57 = .ok (.ifCond .ne 5, 3) := by decide +kernel
theorem dX4_readThird_60 : decode cX4_readThird 60 = .ok (.iconst 0, 1) := by decide +kernel
theorem dX4_readThird_61 : decode cX4_readThird 61 = .ok (.ireturn, 1) := by decide +kernel
theorem dX4_readThird_62 : decode cX4_readThird 62 = .ok (.aload_n 0, 1) := by decide +kernel
theorem dX4_readThird_63 : decode cX4_readThird 63 = .ok (.getfield 21, 3) := by decide +kernel
theorem dX4_readThird_66 : decode cX4_readThird 66 = .ok (.iload_n 1, 1) := by decide +kernel
theorem dX4_readThird_67 : decode cX4_readThird 67 = .ok (.aload_n 0, 1) := by decide +kernel
theorem dX4_readThird_68 : decode cX4_readThird 68 = .ok (.invokevirtual 76, 3) := by decide +kernel
theorem dX4_readThird_71 : decode cX4_readThird 71 = .ok (.invokevirtual 122, 3) := by decide +kernel
theorem dX4_readThird_74 : decode cX4_readThird 74 = .ok (.aload_n 0, 1) := by decide +kernel
theorem dX4_readThird_75 : decode cX4_readThird 75 = .ok (.bipush 59, 2) := by decide +kernel
theorem dX4_readThird_77 : decode cX4_readThird 77 = .ok (.invokevirtual 73, 3) := by decide +kernel
theorem dX4_readThird_80 : decode cX4_readThird 80 = .ok (.ireturn, 1) := by decide +kernel
theorem dX4_takeNewName_0 : decode cX4_takeNewName 0 = .ok (.aload_n 0, 1) := by decide +kernel
theorem dX4_takeNewName_1 : decode cX4_takeNewName 1 = .ok (.iconst 2, 1) := by decide +kernel
theorem dX4_takeNewName_2 : decode cX4_takeNewName 2 = .ok (.invokevirtual 73, 3) := by decide +kernel
theorem dX4_takeNewName_5 : decode cX4_takeNewName 5 = .ok (.ifCond .ne 5, 3) := by decide +kernel
theorem dX4_takeNewName_8 : decode cX4_takeNewName 8 = .ok (.iconst 0, 1) := by decide +kernel
theorem dX4_takeNewName_9 : decode cX4_takeNewName 9 = .ok (.ireturn, 1) := by decide +kernel
theorem dX4_takeNewName_10 : decode cX4_takeNewName 10 = .ok (.aload_n 0, 1) := by decide +kernel
theorem dX4_takeNewName_11 : decode cX4_takeNewName 11 = .ok (.getfield 12, 3) := by decide +kernel
theorem dX4_takeNewName_14 : decode cX4_takeNewName 14 = .ok (.aload_n 0, 1) := by decide +kernel
theorem dX4_takeNewName_15 : decode cX4_takeNewName 15 = .ok (.getfield 44, 3) := by decide +kernel
theorem dX4_takeNewName_18 : decode cX4_takeNewName 18 = .ok (.iconst 1, 1) := by decide +kernel
theorem dX4_takeNewName_19 : decode cX4_takeNewName 19 = .ok (.isub, 1) := by decide +kernel
theorem dX4_takeNewName_20 : decode cX4_takeNewName 20 = .ok (.invokevirtual 84, 3) := by decide +kernel
theorem dX4_takeNewName_23 : decode cX4_takeNewName 23 = .ok (.lstore_n 2, 1) := by decide +kernel
theorem dX4_takeNewName_24 : decode cX4_takeNewName 24 = .ok (.aload_n 0, 1) := by decide +kernel
theorem dX4_takeNewName_25 : decode cX4_takeNewName 25 = .ok (.lload_n 2, 1) := by decide +kernel
theorem dX4_takeNewName_26 : decode cX4_takeNewName 26 = .ok (.invokevirtual 126, 3) := by decide +kernel
theorem dX4_takeNewName_29 : decode cX4_takeNewName 29 = .ok (.iconst (-1), 1) := by decide +kernel
theorem dX4_takeNewName_30 : decode cX4_takeNewName 30 = .ok (.if_icmp .eq 11, 3) := by decide +kernel
theorem dX4_takeNewName_33 : decode cX4_takeNewName 33 = .ok (.aload_n 0, 1) := by decide +kernel
theorem dX4_takeNewName_34 : decode cX4_takeNewName 34 = .ok (.iconst 3, 1) := by decide +kernel
theorem dX4_takeNewName_35 : decode cX4_takeNewName 35 = .ok (.invokevirtual 80, 3) := by decide +kernel
theorem dX4_takeNewName_38 : decode cX4_takeNewName 38 = .ok (.goto 57, 3) := by decide +kernel
theorem dX4_takeNewName_41 : decode cX4_takeNewName 41 = .ok (.aload_n 0, 1) := by decide +kernel
theorem dX4_takeNewName_42 : decode cX4_takeNewName 42 = .ok (.getfield 40, 3) := by decide +kernel
theorem dX4_takeNewName_45 : decode cX4_takeNewName 45 = .ok (.aload_n 0, 1) := by decide +kernel
theorem dX4_takeNewName_46 : decode cX4_takeNewName 46 = .ok (.getfield 25, 3) := by decide +kernel
theorem dX4_takeNewName_49 : decode cX4_takeNewName 49 = .ok (.arraylength, 1) := by decide +kernel
theorem dX4_takeNewName_50 : decode cX4_takeNewName 50 = .ok (.if_icmp .ge 45, 3) := by decide +kernel
theorem dX4_takeNewName_53 : decode cX4_takeNewName 53 = .ok (.aload_n 0, 1) := by decide +kernel
theorem dX4_takeNewName_54 : decode cX4_takeNewName 54 = .ok (.getfield 40, 3) := by decide +kernel
theorem dX4_takeNewName_57 : decode cX4_takeNewName 57 = .ok (.aload_n 0, 1) := by decide +kernel
theorem dX4_takeNewName_58 : decode cX4_takeNewName 58 = .ok (.getfield 29, 3) := by decide +kernel
theorem dX4_takeNewName_61 : decode cX4_takeNewName 61 = .ok (.arraylength, 1) := by decide +kernel
theorem dX4_takeNewName_62 : decode cX4_takeNewName 62 = .ok (.if_icmp .ge 33, 3) := by decide +kernel
theorem dX4_takeNewName_65 : decode cX4_takeNewName 65 = .ok (.aload_n 0, 1) := by decide +kernel
theorem dX4_takeNewName_66 : decode cX4_takeNewName 66 = .ok (.getfield 25, 3) := by decide +kernel
theorem dX4_takeNewName_69 : decode cX4_takeNewName 69 = .ok (.aload_n 0, 1) := by decide +kernel
theorem dX4_takeNewName_70 : decode cX4_takeNewName 70 = .ok (.getfield 40, 3) := by decide +kernel
theorem dX4_takeNewName_73 : decode cX4_takeNewName 73 = .ok (.lload_n 2, 1) := by decide +kernel
theorem dX4_takeNewName_74 : decode cX4_takeNewName 74 = .ok (.lastore, 1) := by decide +kernel
theorem dX4_takeNewName_75 : decode cX4_takeNewName 75 = .ok (.aload_n 0, 1) := by decide +kernel
theorem dX4_takeNewName_76 : decode cX4_takeNewName 76 = .ok (.getfield 29, 3) := by decide +kernel
theorem dX4_takeNewName_79 : decode cX4_takeNewName 79 = .ok (.aload_n 0, 1) := by decide +kernel
theorem dX4_takeNewName_80 : decode cX4_takeNewName 80 = .ok (.getfield 40, 3) := by decide +kernel
theorem dX4_takeNewName_83 : decode cX4_takeNewName 83 = .ok (.iload_n 1, 1) := by decide +kernel
theorem dX4_takeNewName_84 : decode cX4_takeNewName 84 = .ok (.iastore, 1) := by decide +kernel
theorem dX4_takeNewName_85 : decode cX4_takeNewName 85 = .ok (.aload_n 0, 1) := by decide +kernel
theorem dX4_takeNewName_86 : decode cX4_takeNewName 86 = .ok (.dup, 1) := by decide +kernel
theorem dX4_takeNewName_87 : decode cX4_takeNewName 87 = .ok (.getfield 40, 3) := by decide +kernel
theorem dX4_takeNewName_90 : decode cX4_takeNewName 90 = .ok (.iconst 1, 1) := by decide +kernel
theorem dX4_takeNewName_91 : decode cX4_takeNewName 91 = .ok (.iadd, 1) := by decide +kernel
theorem dX4_takeNewName_92 : decode cX4_takeNewName 92 = .ok (.putfield 40, 3) := by decide +kernel
theorem dX4_takeNewName_95 : decode cX4_takeNewName 95 = .ok (.iconst 1, 1) := by decide +kernel
theorem dX4_takeNewName_96 : decode cX4_takeNewName 96 = .ok (.ireturn, 1) := by decide +kernel
theorem dX4_findName_0 : decode cX4_findName 0 = .ok (.iconst 0, 1) := by decide +kernel
theorem dX4_findName_1 : decode cX4_findName 1 = .ok (.istore_n 3, 1) := by decide +kernel
theorem dX4_findName_2 : decode cX4_findName 2 = .ok (.iload_n 3, 1) := by decide +kernel
theorem dX4_findName_3 : decode cX4_findName 3 = .ok (.aload_n 0, 1) := by decide +kernel
theorem dX4_findName_4 : decode cX4_findName 4 = .ok (.getfield 40, 3) := by decide +kernel
theorem dX4_findName_7 : decode cX4_findName 7 = .ok (.if_icmp .ge 31, 3) := by decide +kernel
theorem dX4_findName_10 : decode cX4_findName 10 = .ok (.iload_n 3, 1) := by decide +kernel
theorem dX4_findName_11 : decode cX4_findName 11 = .ok (.aload_n 0, 1) := by decide +kernel
theorem dX4_findName_12 : decode cX4_findName 12 = .ok (.getfield 25, 3) := by decide +kernel
theorem dX4_findName_15 : decode cX4_findName 15 = .ok (.arraylength, 1) := by decide +kernel
theorem dX4_findName_16 : decode cX4_findName 16 = .ok (.if_icmp .ge 22, 3) := by decide +kernel
theorem dX4_findName_19 : decode cX4_findName 19 = .ok (.aload_n 0, 1) := by decide +kernel
theorem dX4_findName_20 : decode cX4_findName 20 = .ok (.getfield 25, 3) := by decide +kernel
theorem dX4_findName_23 : decode cX4_findName 23 = .ok (.iload_n 3, 1) := by decide +kernel
theorem dX4_findName_24 : decode cX4_findName 24 = .ok (.laload, 1) := by decide +kernel
theorem dX4_findName_25 : decode cX4_findName 25 = .ok (.lload_n 1, 1) := by decide +kernel
theorem dX4_findName_26 : decode cX4_findName 26 = .ok (.lcmp, 1) := by decide +kernel
theorem dX4_findName_27 : decode cX4_findName 27 = .ok (.ifCond .ne 5, 3) := by decide +kernel
theorem dX4_findName_30 : decode cX4_findName 30 = .ok (.iload_n 3, 1) := by decide +kernel
theorem dX4_findName_31 : decode cX4_findName 31 = .ok (.ireturn, 1) := by decide +kernel
theorem dX4_findName_32 : decode cX4_findName 32 = .ok (.iinc 3 1, 3) := by decide +kernel
theorem dX4_findName_35 : decode cX4_findName 35 = .ok (.goto (-33), 3) := by decide +kernel
theorem dX4_findName_38 : decode cX4_findName 38 = .ok (.iconst (-1), 1) := by decide +kernel
theorem dX4_findName_39 : decode cX4_findName 39 = .ok (.ireturn, 1) := by decide +kernel
theorem dX4_readCouple_0 : decode cX4_readCouple 0 = .ok (.aload_n 0, 1) := by decide +kernel
theorem dX4_readCouple_1 : decode cX4_readCouple 1 = .ok (.getfield 21, 3) := by decide +kernel
theorem dX4_readCouple_4 : decode cX4_readCouple 4 = .ok (.getfield 130, 3) := by decide +kernel
theorem dX4_readCouple_7 : decode cX4_readCouple 7 = .ok (.iconst 3, 1) := by decide +kernel
theorem dX4_readCouple_8 : decode cX4_readCouple 8 = .ok (.if_icmp .lt 9, 3) := by decide +kernel
theorem dX4_readCouple_11 : decode cX4_readCouple 11 = .ok (.aload_n 0, 1) := by decide +kernel
theorem dX4_readCouple_12 : decode cX4_readCouple 12 = .ok (.iconst 2, 1) := by decide +kernel
theorem dX4_readCouple_13 : decode cX4_readCouple 13 = .ok (.invokevirtual 104, 3) := by decide +kernel
theorem dX4_readCouple_16 : decode cX4_readCouple 16 = .ok (.ireturn, 1) := by decide +kernel
theorem dX4_readCouple_17 : decode cX4_readCouple 17 = .ok (.aload_n 0, 1) := by decide +kernel
theorem dX4_readCouple_18 : decode cX4_readCouple 18 = .ok (.sipush 129, 3) := by decide +kernel
theorem dX4_readCouple_21 : decode cX4_readCouple 21 = .ok (.invokevirtual 73, 3) := by decide +kernel
theorem dX4_readCouple_24 : decode cX4_readCouple 24 = .ok (.ifCond .eq 11, 3) := by decide +kernel
theorem dX4_readCouple_27 : decode cX4_readCouple 27 = .ok (.aload_n 0, 1) := by decide +kernel
theorem dX4_readCouple_28 : decode cX4_readCouple 28 = .ok (.iconst 2, 1) := by decide +kernel
theorem dX4_readCouple_29 : decode cX4_readCouple 29 = .ok (.invokevirtual 73, 3) := by decide +kernel
theorem dX4_readCouple_32 : decode cX4_readCouple 32 = .ok (.ifCond .ne 5, 3) := by decide +kernel
theorem dX4_readCouple_35 : decode cX4_readCouple 35 = .ok (.iconst 0, 1) := by decide +kernel
theorem dX4_readCouple_36 : decode cX4_readCouple 36 = .ok (.ireturn, 1) := by decide +kernel
theorem dX4_readCouple_37 : decode cX4_readCouple 37 = .ok (.aload_n 0, 1) := by decide +kernel
theorem dX4_readCouple_38 : decode cX4_readCouple 38 = .ok (.invokevirtual 133, 3) := by decide +kernel
theorem dX4_readCouple_41 : decode cX4_readCouple 41 = .ok (.istore_n 1, 1) := by decide +kernel
theorem dX4_readCouple_42 : decode cX4_readCouple 42 = .ok (.aload_n 0, 1) := by decide +kernel
theorem dX4_readCouple_43 : decode cX4_readCouple 43 = .ok (.iconst 2, 1) := by decide +kernel
theorem dX4_readCouple_44 : decode cX4_readCouple 44 = .ok (.invokevirtual 73, 3) := by decide +kernel
theorem dX4_readCouple_47 : decode cX4_readCouple 47 = .ok (.ifCond .ne 5, 3) := by decide +kernel
theorem dX4_readCouple_50 : decode cX4_readCouple 50 = .ok (.iconst 0, 1) := by decide +kernel
theorem dX4_readCouple_51 : decode cX4_readCouple 51 = .ok (.ireturn, 1) := by decide +kernel
theorem dX4_readCouple_52 : decode cX4_readCouple 52 = .ok (.aload_n 0, 1) := by decide +kernel
theorem dX4_readCouple_53 : decode cX4_readCouple 53 = .ok (.invokevirtual 133, 3) := by decide +kernel
theorem dX4_readCouple_56 : decode cX4_readCouple 56 = .ok (.istore_n 2, 1) := by decide +kernel
theorem dX4_readCouple_57 : decode cX4_readCouple 57 = .ok (.iload_n 1, 1) := by decide +kernel
theorem dX4_readCouple_58 : decode cX4_readCouple 58 = .ok (.iconst (-1), 1) := by decide +kernel
theorem dX4_readCouple_59 : decode cX4_readCouple 59 = .ok (.if_icmp .eq 13, 3) := by decide +kernel
theorem dX4_readCouple_62 : decode cX4_readCouple 62 = .ok (.iload_n 1, 1) := by decide +kernel
theorem dX4_readCouple_63 : decode cX4_readCouple 63 = .ok (.iload_n 2, 1) := by decide +kernel
theorem dX4_readCouple_64 : decode cX4_readCouple 64 = .ok (.if_icmp .ne 8, 3) := by decide +kernel
theorem dX4_readCouple_67 : decode cX4_readCouple 67 = .ok (.aload_n 0, 1) := by decide +kernel
theorem dX4_readCouple_68 : decode cX4_readCouple 68 = .ok (.iconst 3, 1) := by decide +kernel
theorem dX4_readCouple_69 : decode cX4_readCouple 69 = .ok (.invokevirtual 80, 3) := by decide +kernel
theorem dX4_readCouple_72 : decode cX4_readCouple 72 = .ok (.aload_n 0, 1) := by decide +kernel
theorem dX4_readCouple_73 : decode cX4_readCouple 73 = .ok (.getfield 21, 3) := by decide +kernel
theorem dX4_readCouple_76 : decode cX4_readCouple 76 = .ok (.iload_n 1, 1) := by decide +kernel
theorem dX4_readCouple_77 : decode cX4_readCouple 77 = .ok (.iload_n 2, 1) := by decide +kernel
theorem dX4_readCouple_78 : decode cX4_readCouple 78 = .ok (.invokevirtual 136, 3) := by decide +kernel
theorem dX4_readCouple_81 : decode cX4_readCouple 81 = .ok (.aload_n 0, 1) := by decide +kernel
theorem dX4_readCouple_82 : decode cX4_readCouple 82 = .ok (.bipush 59, 2) := by decide +kernel
theorem dX4_readCouple_84 : decode cX4_readCouple 84 = .ok (.invokevirtual 73, 3) := by decide +kernel
theorem dX4_readCouple_87 : decode cX4_readCouple 87 = .ok (.ireturn, 1) := by decide +kernel
theorem dX4_namedSpouse_0 : decode cX4_namedSpouse 0 = .ok (.aload_n 0, 1) := by decide +kernel
theorem dX4_namedSpouse_1 : decode cX4_namedSpouse 1 = .ok (.aload_n 0, 1) := by decide +kernel
theorem dX4_namedSpouse_2 : decode cX4_namedSpouse 2 = .ok (.getfield 12, 3) := by decide +kernel
theorem dX4_namedSpouse_5 : decode cX4_namedSpouse 5 = .ok (.aload_n 0, 1) := by decide +kernel
theorem dX4_namedSpouse_6 : decode cX4_namedSpouse 6 = .ok (.getfield 44, 3) := by decide +kernel
theorem dX4_namedSpouse_9 : decode cX4_namedSpouse 9 = .ok (.iconst 1, 1) := by decide +kernel
theorem dX4_namedSpouse_10 : decode cX4_namedSpouse 10 = .ok (.isub, 1) := by decide +kernel
theorem dX4_namedSpouse_11 : decode cX4_namedSpouse 11 = .ok (.invokevirtual 84, 3) := by decide +kernel
theorem dX4_namedSpouse_14 : decode cX4_namedSpouse 14 = .ok (.invokevirtual 126, 3) := by decide +kernel
theorem dX4_namedSpouse_17 : decode cX4_namedSpouse 17 = .ok (.istore_n 1, 1) := by decide +kernel
theorem dX4_namedSpouse_18 : decode cX4_namedSpouse 18 = .ok (.iload_n 1, 1) := by decide +kernel
theorem dX4_namedSpouse_19 : decode cX4_namedSpouse 19 = .ok (.ifCond .lt 21, 3) := by decide +kernel
theorem dX4_namedSpouse_22 : decode cX4_namedSpouse 22 = .ok (.iload_n 1, 1) := by decide +kernel
theorem dX4_namedSpouse_23 : decode cX4_namedSpouse 23 = .ok (.aload_n 0, 1) := by decide +kernel
theorem dX4_namedSpouse_24 : decode cX4_namedSpouse 24 = .ok (.getfield 29, 3) := by decide +kernel
theorem dX4_namedSpouse_27 : decode cX4_namedSpouse 27 = .ok (.arraylength, 1) := by decide +kernel
theorem dX4_namedSpouse_28 : decode cX4_namedSpouse 28 = .ok (.if_icmp .ge 12, 3) := by decide +kernel
theorem dX4_namedSpouse_31 : decode cX4_namedSpouse 31 = .ok (.aload_n 0, 1) := by decide +kernel
theorem dX4_namedSpouse_32 : decode cX4_namedSpouse 32 = .ok (.getfield 29, 3) := by decide +kernel
theorem dX4_namedSpouse_35 : decode cX4_namedSpouse 35 = .ok (.iload_n 1, 1) := by decide +kernel
theorem dX4_namedSpouse_36 : decode cX4_namedSpouse 36 = .ok (.iaload, 1) := by decide +kernel
theorem dX4_namedSpouse_37 : decode cX4_namedSpouse 37 = .ok (.goto 4, 3) := by decide +kernel
theorem dX4_namedSpouse_40 : decode cX4_namedSpouse 40 = .ok (.iconst (-1), 1) := by decide +kernel
theorem dX4_namedSpouse_41 : decode cX4_namedSpouse 41 = .ok (.istore_n 2, 1) := by decide +kernel
theorem dX4_namedSpouse_42 : decode cX4_namedSpouse 42 = .ok (.aload_n 0, 1) := by decide +kernel
theorem dX4_namedSpouse_43 : decode cX4_namedSpouse 43 = .ok (.getfield 21, 3) := by decide +kernel
theorem dX4_namedSpouse_46 : decode cX4_namedSpouse 46 = .ok (.iload_n 2, 1) := by decide +kernel
theorem dX4_namedSpouse_47 : decode cX4_namedSpouse 47 = .ok (.invokevirtual 139, 3) := by decide +kernel
theorem dX4_namedSpouse_50 : decode cX4_namedSpouse 50 = .ok (.ifCond .ne 10, 3) := by decide +kernel
theorem dX4_namedSpouse_53 : decode cX4_namedSpouse 53 = .ok (.aload_n 0, 1) := by decide +kernel
theorem dX4_namedSpouse_54 : decode cX4_namedSpouse 54 = .ok (.iconst 4, 1) := by decide +kernel
theorem dX4_namedSpouse_55 : decode cX4_namedSpouse 55 = .ok (.invokevirtual 80, 3) := by decide +kernel
theorem dX4_namedSpouse_58 : decode cX4_namedSpouse 58 = .ok (.iconst (-1), 1) := by decide +kernel
theorem dX4_namedSpouse_59 : decode cX4_namedSpouse 59 = .ok (.ireturn, 1) := by decide +kernel
theorem dX4_namedSpouse_60 : decode cX4_namedSpouse 60 = .ok (.aload_n 0, 1) := by decide +kernel
theorem dX4_namedSpouse_61 : decode cX4_namedSpouse 61 = .ok (.getfield 21, 3) := by decide +kernel
theorem dX4_namedSpouse_64 : decode cX4_namedSpouse 64 = .ok (.getfield 142, 3) := by decide +kernel
theorem dX4_namedSpouse_67 : decode cX4_namedSpouse 67 = .ok (.iload_n 2, 1) := by decide +kernel
theorem dX4_namedSpouse_68 : decode cX4_namedSpouse 68 = .ok (.iaload, 1) := by decide +kernel
theorem dX4_namedSpouse_69 : decode cX4_namedSpouse 69 = .ok (.bipush (-2), 2) := by decide +kernel
theorem dX4_namedSpouse_71 : decode cX4_namedSpouse 71 = .ok (.if_icmp .eq 8, 3) := by decide +kernel
theorem dX4_namedSpouse_74 : decode cX4_namedSpouse 74 = .ok (.aload_n 0, 1) := by decide +kernel
theorem dX4_namedSpouse_75 : decode cX4_namedSpouse 75 = .ok (.iconst 3, 1) := by decide +kernel
theorem dX4_namedSpouse_76 : decode cX4_namedSpouse 76 = .ok (.invokevirtual 80, 3) := by decide +kernel
theorem dX4_namedSpouse_79 : decode cX4_namedSpouse 79 = .ok (.iload_n 2, 1) := by decide +kernel
theorem dX4_namedSpouse_80 : decode cX4_namedSpouse 80 = .ok (.ireturn, 1) := by decide +kernel
theorem dX4_readFine_0 : decode cX4_readFine 0 = .ok (.aload_n 0, 1) := by decide +kernel
theorem dX4_readFine_1 : decode cX4_readFine 1 = .ok (.sipush 138, 3) := by decide +kernel
theorem dX4_readFine_4 : decode cX4_readFine 4 = .ok (.invokevirtual 73, 3) := by decide +kernel
theorem dX4_readFine_7 : decode cX4_readFine 7 = .ok (.ifCond .eq 12, 3) := by decide +kernel
theorem dX4_readFine_10 : decode cX4_readFine 10 = .ok (.aload_n 0, 1) := by decide +kernel
theorem dX4_readFine_11 : decode cX4_readFine 11 = .ok (.bipush 99, 2) := by decide +kernel
theorem dX4_readFine_13 : decode cX4_readFine 13 = .ok (.invokevirtual 113, 3) := by decide +kernel
theorem dX4_readFine_16 : decode cX4_readFine 16 = .ok (.ifCond .ne 5, 3) := by decide +kernel
theorem dX4_readFine_19 : decode cX4_readFine 19 = .ok (.iconst 0, 1) := by decide +kernel
theorem dX4_readFine_20 : decode cX4_readFine 20 = .ok (.ireturn, 1) := by decide +kernel
theorem dX4_readFine_21 : decode cX4_readFine 21 = .ok (.aload_n 0, 1) := by decide +kernel
theorem dX4_readFine_22 : decode cX4_readFine 22 = .ok (.getfield 21, 3) := by decide +kernel
theorem dX4_readFine_25 : decode cX4_readFine 25 = .ok (.aload_n 0, 1) := by decide +kernel
theorem dX4_readFine_26 : decode cX4_readFine 26 = .ok (.invokevirtual 76, 3) := by decide +kernel
theorem dX4_readFine_29 : decode cX4_readFine 29 = .ok (.putfield 145, 3) := by decide +kernel
theorem dX4_readFine_32 : decode cX4_readFine 32 = .ok (.aload_n 0, 1) := by decide +kernel
theorem dX4_readFine_33 : decode cX4_readFine 33 = .ok (.bipush 59, 2) := by decide +kernel
theorem dX4_readFine_35 : decode cX4_readFine 35 = .ok (.invokevirtual 73, 3) := by decide +kernel
theorem dX4_readFine_38 : decode cX4_readFine 38 = .ok (.ireturn, 1) := by decide +kernel
theorem dX4_readSeed_0 : decode cX4_readSeed 0 = .ok (.aload_n 0, 1) := by decide +kernel
theorem dX4_readSeed_1 : decode cX4_readSeed 1 = .ok (.sipush 139, 3) := by decide +kernel
theorem dX4_readSeed_4 : decode cX4_readSeed 4 = .ok (.invokevirtual 73, 3) := by decide +kernel
theorem dX4_readSeed_7 : decode cX4_readSeed 7 = .ok (.ifCond .eq 13, 3) := by decide +kernel
theorem dX4_readSeed_10 : decode cX4_readSeed 10 = .ok (.aload_n 0, 1) := by decide +kernel
theorem dX4_readSeed_11 : decode cX4_readSeed 11 = .ok (.sipush 9999, 3) := by decide +kernel
theorem dX4_readSeed_14 : decode cX4_readSeed 14 = .ok (.invokevirtual 113, 3) := by decide +kernel
theorem dX4_readSeed_17 : decode cX4_readSeed 17 = .ok (.ifCond .ne 5, 3) := by decide +kernel
theorem dX4_readSeed_20 : decode cX4_readSeed 20 = .ok (.iconst 0, 1) := by decide +kernel
theorem dX4_readSeed_21 : decode cX4_readSeed 21 = .ok (.ireturn, 1) := by decide +kernel
theorem dX4_readSeed_22 : decode cX4_readSeed 22 = .ok (.aload_n 0, 1) := by decide +kernel
theorem dX4_readSeed_23 : decode cX4_readSeed 23 = .ok (.getfield 21, 3) := by decide +kernel
theorem dX4_readSeed_26 : decode cX4_readSeed 26 = .ok (.aload_n 0, 1) := by decide +kernel
theorem dX4_readSeed_27 : decode cX4_readSeed 27 = .ok (.invokevirtual 76, 3) := by decide +kernel
theorem dX4_readSeed_30 : decode cX4_readSeed 30 = .ok (.putfield 148, 3) := by decide +kernel
theorem dX4_readSeed_33 : decode cX4_readSeed 33 = .ok (.aload_n 0, 1) := by decide +kernel
theorem dX4_readSeed_34 : decode cX4_readSeed 34 = .ok (.bipush 59, 2) := by decide +kernel
theorem dX4_readSeed_36 : decode cX4_readSeed 36 = .ok (.invokevirtual 73, 3) := by decide +kernel
theorem dX4_readSeed_39 : decode cX4_readSeed 39 = .ok (.ireturn, 1) := by decide +kernel
theorem dX4_readLaw_0 : decode cX4_readLaw 0 = .ok (.aload_n 0, 1) := by decide +kernel
theorem dX4_readLaw_1 : decode cX4_readLaw 1 = .ok (.iload_n 1, 1) := by decide +kernel
theorem dX4_readLaw_2 : decode cX4_readLaw 2 = .ok (.invokevirtual 73, 3) := by decide +kernel
theorem dX4_readLaw_5 : decode cX4_readLaw 5 = .ok (.ifCond .eq 12, 3) := by decide +kernel
theorem dX4_readLaw_8 : decode cX4_readLaw 8 = .ok (.aload_n 0, 1) := by decide +kernel
theorem dX4_readLaw_9 : decode cX4_readLaw 9 = .ok (.bipush 61, 2) := by decide +kernel
theorem dX4_readLaw_11 : decode cX4_readLaw 11 = .ok (.invokevirtual 73, 3) := by decide +kernel
theorem dX4_readLaw_14 : decode cX4_readLaw 14 = .ok (.ifCond .ne 5, 3) := by decide +kernel
theorem dX4_readLaw_17 : decode cX4_readLaw 17 = .ok (.iconst 0, 1) := by decide +kernel
theorem dX4_readLaw_18 : decode cX4_readLaw 18 = .ok (.ireturn, 1) := by decide +kernel
theorem dX4_readLaw_19 : decode cX4_readLaw 19 = .ok (.aload_n 0, 1) := by decide +kernel
theorem dX4_readLaw_20 : decode cX4_readLaw 20 = .ok (.getfield 21, 3) := by decide +kernel
theorem dX4_readLaw_23 : decode cX4_readLaw 23 = .ok (.getfield 151, 3) := by decide +kernel
theorem dX4_readLaw_26 : decode cX4_readLaw 26 = .ok (.iload_n 1, 1) := by decide +kernel
theorem dX4_readLaw_27 : decode cX4_readLaw 27 = .ok (.sipush 131, 3) := by decide +kernel
theorem dX4_readLaw_30 : decode cX4_readLaw 30 = .ok (.isub, 1) := by decide +kernel
theorem dX4_readLaw_31 : decode cX4_readLaw 31 = .ok (.invokevirtual 155, 3) := by decide +kernel
theorem dX4_readLaw_34 : decode cX4_readLaw 34 = .ok (.iconst 0, 1) := by decide +kernel
theorem dX4_readLaw_35 : decode cX4_readLaw 35 = .ok (.istore_n 2, 1) := by decide +kernel
theorem dX4_readLaw_36 : decode cX4_readLaw 36 = .ok (.iload_n 2, 1) := by decide +kernel
theorem dX4_readLaw_37 : decode cX4_readLaw 37 = .ok (.iconst 4, 1) := by decide +kernel
theorem dX4_readLaw_38 : decode cX4_readLaw 38 = .ok (.if_icmp .gt 141, 3) := by decide +kernel
theorem dX4_readLaw_41 : decode cX4_readLaw 41 = .ok (.aload_n 0, 1) := by decide +kernel
theorem dX4_readLaw_42 : decode cX4_readLaw 42 = .ok (.getfield 12, 3) := by decide +kernel
theorem dX4_readLaw_45 : decode cX4_readLaw 45 = .ok (.aload_n 0, 1) := by decide +kernel
theorem dX4_readLaw_46 : decode cX4_readLaw 46 = .ok (.getfield 44, 3) := by decide +kernel
theorem dX4_readLaw_49 : decode cX4_readLaw 49 = .ok (.invokevirtual 56, 3) := by decide +kernel
theorem dX4_readLaw_52 : decode cX4_readLaw 52 = .ok (.sipush 140, 3) := by decide +kernel
theorem dX4_readLaw_55 : decode cX4_readLaw 55 = .ok (.if_icmp .ne 124, 3) := by decide +kernel
theorem dX4_readLaw_58 : decode cX4_readLaw 58 = .ok (.iload_n 2, 1) := by decide +kernel
theorem dX4_readLaw_59 : decode cX4_readLaw 59 = .ok (.iconst 4, 1) := by decide +kernel
theorem dX4_readLaw_60 : decode cX4_readLaw 60 = .ok (.if_icmp .ne 9, 3) := by decide +kernel
theorem dX4_readLaw_63 : decode cX4_readLaw 63 = .ok (.aload_n 0, 1) := by decide +kernel
theorem dX4_readLaw_64 : decode cX4_readLaw 64 = .ok (.iconst 2, 1) := by decide +kernel
theorem dX4_readLaw_65 : decode cX4_readLaw 65 = .ok (.invokevirtual 104, 3) := by decide +kernel
theorem dX4_readLaw_68 : decode cX4_readLaw 68 = .ok (.ireturn, 1) := by decide +kernel
theorem dX4_readLaw_69 : decode cX4_readLaw 69 = .ok (.aload_n 0, 1) := by decide +kernel
theorem dX4_readLaw_70 : decode cX4_readLaw 70 = .ok (.sipush 140, 3) := by decide +kernel
theorem dX4_readLaw_73 : decode cX4_readLaw 73 = .ok (.invokevirtual 73, 3) := by decide +kernel
theorem dX4_readLaw_76 : decode cX4_readLaw 76 = .ok (.ifCond .eq 38, 3) := by decide +kernel
theorem dX4_readLaw_79 : decode cX4_readLaw 79 = .ok (.aload_n 0, 1) := by decide +kernel
theorem dX4_readLaw_80 : decode cX4_readLaw 80 = .ok (.iconst 0, 1) := by decide +kernel
theorem dX4_readLaw_81 : decode cX4_readLaw 81 = .ok (.invokevirtual 160, 3) := by decide +kernel
theorem dX4_readLaw_84 : decode cX4_readLaw 84 = .ok (.ifCond .eq 30, 3) := by decide +kernel
theorem dX4_readLaw_87 : decode cX4_readLaw 87 = .ok (.aload_n 0, 1) := by decide +kernel
theorem dX4_readLaw_88 : decode cX4_readLaw 88 = .ok (.bipush 60, 2) := by decide +kernel
theorem dX4_readLaw_90 : decode cX4_readLaw 90 = .ok (.invokevirtual 73, 3) := by decide +kernel
theorem dX4_readLaw_93 : decode cX4_readLaw 93 = .ok (.ifCond .eq 21, 3) := by decide +kernel
theorem dX4_readLaw_96 : decode cX4_readLaw 96 = .ok (.aload_n 0, 1) := by decide +kernel
theorem dX4_readLaw_97 : decode cX4_readLaw 97 = .ok (.iconst 0, 1) := by decide +kernel
theorem dX4_readLaw_98 : decode cX4_readLaw 98 = .ok (.invokevirtual 160, 3) := by decide +kernel
theorem dX4_readLaw_101 : decode cX4_readLaw 101 = .ok (.ifCond .eq 13, 3) := by decide +kernel
theorem dX4_readLaw_104 : decode cX4_readLaw 104 = .ok (.aload_n 0, 1) := by decide +kernel
theorem dX4_readLaw_105 : decode cX4_readLaw 105 = .ok (.sipush 141, 3) := by decide +kernel
theorem dX4_readLaw_108 : decode cX4_readLaw 108 = .ok (.invokevirtual 73, 3) := by decide +kernel
theorem dX4_readLaw_111 : decode cX4_readLaw 111 = .ok (.ifCond .ne 5, 3) := by decide +kernel
theorem dX4_readLaw_114 : decode cX4_readLaw 114 = .ok (.iconst 0, 1) := by decide +kernel
theorem dX4_readLaw_115 : decode cX4_readLaw 115 = .ok (.ireturn, 1) := by decide +kernel
theorem dX4_readLaw_116 : decode cX4_readLaw 116 = .ok (.aload_n 0, 1) := by decide +kernel
theorem dX4_readLaw_117 : decode cX4_readLaw 117 = .ok (.getfield 21, 3) := by decide +kernel
theorem dX4_readLaw_120 : decode cX4_readLaw 120 = .ok (.getfield 151, 3) := by decide +kernel
theorem dX4_readLaw_123 : decode cX4_readLaw 123 = .ok (.bipush (-100), 2) := by decide +kernel
theorem dX4_readLaw_125 : decode cX4_readLaw 125 = .ok (.invokevirtual 163, 3) := by decide +kernel
theorem dX4_readLaw_128 : decode cX4_readLaw 128 = .ok (.istore_n 3, 1) := by decide +kernel
theorem dX4_readLaw_129 : decode cX4_readLaw 129 = .ok (.aload_n 0, 1) := by decide +kernel
theorem dX4_readLaw_130 : decode cX4_readLaw 130 = .ok (.iconst 0, 1) := by decide +kernel
theorem dX4_readLaw_131 : decode cX4_readLaw 131 = .ok (.invokevirtual 160, 3) := by decide +kernel
theorem dX4_readLaw_134 : decode cX4_readLaw 134 = .ok (.ifCond .eq 13, 3) := by decide +kernel
theorem dX4_readLaw_137 : decode cX4_readLaw 137 = .ok (.aload_n 0, 1) := by decide +kernel
theorem dX4_readLaw_138 : decode cX4_readLaw 138 = .ok (.sipush 142, 3) := by decide +kernel
theorem dX4_readLaw_141 : decode cX4_readLaw 141 = .ok (.invokevirtual 73, 3) := by decide +kernel
theorem dX4_readLaw_144 : decode cX4_readLaw 144 = .ok (.ifCond .ne 5, 3) := by decide +kernel
theorem dX4_readLaw_147 : decode cX4_readLaw 147 = .ok (.iconst 0, 1) := by decide +kernel
theorem dX4_readLaw_148 : decode cX4_readLaw 148 = .ok (.ireturn, 1) := by decide +kernel
theorem dX4_readLaw_149 : decode cX4_readLaw 149 = .ok (.aload_n 0, 1) := by decide +kernel
theorem dX4_readLaw_150 : decode cX4_readLaw 150 = .ok (.getfield 21, 3) := by decide +kernel
theorem dX4_readLaw_153 : decode cX4_readLaw 153 = .ok (.getfield 151, 3) := by decide +kernel
theorem dX4_readLaw_156 : decode cX4_readLaw 156 = .ok (.bipush (-14), 2) := by decide +kernel
theorem dX4_readLaw_158 : decode cX4_readLaw 158 = .ok (.invokevirtual 163, 3) := by decide +kernel
theorem dX4_readLaw_161 : decode cX4_readLaw 161 = .ok (.pop, 1) := by decide +kernel
theorem dX4_readLaw_162 : decode cX4_readLaw 162 = .ok (.aload_n 0, 1) := by decide +kernel
theorem dX4_readLaw_163 : decode cX4_readLaw 163 = .ok (.getfield 21, 3) := by decide +kernel
theorem dX4_readLaw_166 : decode cX4_readLaw 166 = .ok (.getfield 151, 3) := by decide +kernel
theorem dX4_readLaw_169 : decode cX4_readLaw 169 = .ok (.iload_n 3, 1) := by decide +kernel
theorem dX4_readLaw_170 : decode cX4_readLaw 170 = .ok (.invokevirtual 166, 3) := by decide +kernel
theorem dX4_readLaw_173 : decode cX4_readLaw 173 = .ok (.iinc 2 1, 3) := by decide +kernel
theorem dX4_readLaw_176 : decode cX4_readLaw 176 = .ok (.goto (-140), 3) := by decide +kernel
theorem dX4_readLaw_179 : decode cX4_readLaw 179 = .ok (.aload_n 0, 1) := by decide +kernel
theorem dX4_readLaw_180 : decode cX4_readLaw 180 = .ok (.iconst 0, 1) := by decide +kernel
theorem dX4_readLaw_181 : decode cX4_readLaw 181 = .ok (.invokevirtual 160, 3) := by decide +kernel
theorem dX4_readLaw_184 : decode cX4_readLaw 184 = .ok (.ifCond .ne 5, 3) := by decide +kernel
theorem dX4_readLaw_187 : decode cX4_readLaw 187 = .ok (.iconst 0, 1) := by decide +kernel
theorem dX4_readLaw_188 : decode cX4_readLaw 188 = .ok (.ireturn, 1) := by decide +kernel
theorem dX4_readLaw_189 : decode cX4_readLaw 189 = .ok (.aload_n 0, 1) := by decide +kernel
theorem dX4_readLaw_190 : decode cX4_readLaw 190 = .ok (.getfield 21, 3) := by decide +kernel
theorem dX4_readLaw_193 : decode cX4_readLaw 193 = .ok (.getfield 151, 3) := by decide +kernel
theorem dX4_readLaw_196 : decode cX4_readLaw 196 = .ok (.bipush (-14), 2) := by decide +kernel
theorem dX4_readLaw_198 : decode cX4_readLaw 198 = .ok (.invokevirtual 163, 3) := by decide +kernel
theorem dX4_readLaw_201 : decode cX4_readLaw 201 = .ok (.pop, 1) := by decide +kernel
theorem dX4_readLaw_202 : decode cX4_readLaw 202 = .ok (.aload_n 0, 1) := by decide +kernel
theorem dX4_readLaw_203 : decode cX4_readLaw 203 = .ok (.bipush 59, 2) := by decide +kernel
theorem dX4_readLaw_205 : decode cX4_readLaw 205 = .ok (.invokevirtual 73, 3) := by decide +kernel
theorem dX4_readLaw_208 : decode cX4_readLaw 208 = .ok (.ireturn, 1) := by decide +kernel
theorem dX4_readSum_0 : decode cX4_readSum 0 = .ok (.aload_n 0, 1) := by decide +kernel
theorem dX4_readSum_1 : decode cX4_readSum 1 = .ok (.iload_n 1, 1) := by decide +kernel
theorem dX4_readSum_2 : decode cX4_readSum 2 = .ok (.invokevirtual 169, 3) := by decide +kernel
theorem dX4_readSum_5 : decode cX4_readSum 5 = .ok (.ifCond .ne 5, 3) := by decide +kernel
theorem dX4_readSum_8 : decode cX4_readSum 8 = .ok (.iconst 0, 1) := by decide +kernel
theorem dX4_readSum_9 : decode cX4_readSum 9 = .ok (.ireturn, 1) := by decide +kernel
theorem dX4_readSum_10 : decode cX4_readSum 10 = .ok (.iconst 0, 1) := by decide +kernel
theorem dX4_readSum_11 : decode cX4_readSum 11 = .ok (.istore_n 2, 1) := by decide +kernel
theorem dX4_readSum_12 : decode cX4_readSum 12 = .ok (.iload_n 2, 1) := by decide +kernel
theorem dX4_readSum_13 : decode cX4_readSum 13 = .ok (.sipush 400, 3) := by decide +kernel
theorem dX4_readSum_16 : decode cX4_readSum 16 = .ok (.if_icmp .gt 77, 3) := by decide +kernel
theorem dX4_readSum_19 : decode cX4_readSum 19 = .ok (.aload_n 0, 1) := by decide +kernel
theorem dX4_readSum_20 : decode cX4_readSum 20 = .ok (.getfield 12, 3) := by decide +kernel
theorem dX4_readSum_23 : decode cX4_readSum 23 = .ok (.aload_n 0, 1) := by decide +kernel
theorem dX4_readSum_24 : decode cX4_readSum 24 = .ok (.getfield 44, 3) := by decide +kernel
theorem dX4_readSum_27 : decode cX4_readSum 27 = .ok (.invokevirtual 56, 3) := by decide +kernel
theorem dX4_readSum_30 : decode cX4_readSum 30 = .ok (.istore_n 3, 1) := by decide +kernel
theorem dX4_readSum_31 : decode cX4_readSum 31 = .ok (.iload_n 3, 1) := by decide +kernel
theorem dX4_readSum_32 : decode cX4_readSum 32 = .ok (.bipush 43, 2) := by decide +kernel
theorem dX4_readSum_34 : decode cX4_readSum 34 = .ok (.if_icmp .eq 11, 3) := by decide +kernel
theorem dX4_readSum_37 : decode cX4_readSum 37 = .ok (.iload_n 3, 1) := by decide +kernel
theorem dX4_readSum_38 : decode cX4_readSum 38 = .ok (.bipush 45, 2) := by decide +kernel
theorem dX4_readSum_40 : decode cX4_readSum 40 = .ok (.if_icmp .eq 5, 3) := by decide +kernel
theorem dX4_readSum_43 : decode cX4_readSum 43 = .ok (.iconst 1, 1) := by decide +kernel
theorem dX4_readSum_44 : decode cX4_readSum 44 = .ok (.ireturn, 1) := by decide +kernel
theorem dX4_readSum_45 : decode cX4_readSum 45 = .ok (.aload_n 0, 1) := by decide +kernel
theorem dX4_readSum_46 : decode cX4_readSum 46 = .ok (.iload_n 3, 1) := by decide +kernel
theorem dX4_readSum_47 : decode cX4_readSum 47 = .ok (.invokevirtual 73, 3) := by decide +kernel
theorem dX4_readSum_50 : decode cX4_readSum 50 = .ok (.ifCond .eq 11, 3) := by decide +kernel
theorem dX4_readSum_53 : decode cX4_readSum 53 = .ok (.aload_n 0, 1) := by decide +kernel
theorem dX4_readSum_54 : decode cX4_readSum 54 = .ok (.iload_n 1, 1) := by decide +kernel
theorem dX4_readSum_55 : decode cX4_readSum 55 = .ok (.invokevirtual 169, 3) := by decide +kernel
theorem dX4_readSum_58 : decode cX4_readSum 58 = .ok (.ifCond .ne 5, 3) := by decide +kernel
theorem dX4_readSum_61 : decode cX4_readSum 61 = .ok (.iconst 0, 1) := by decide +kernel
theorem dX4_readSum_62 : decode cX4_readSum 62 = .ok (.ireturn, 1) := by decide +kernel
theorem dX4_readSum_63 : decode cX4_readSum 63 = .ok (.aload_n 0, 1) := by decide +kernel
theorem dX4_readSum_64 : decode cX4_readSum 64 = .ok (.getfield 21, 3) := by decide +kernel
theorem dX4_readSum_67 : decode cX4_readSum 67 = .ok (.getfield 151, 3) := by decide +kernel
theorem dX4_readSum_70 : decode cX4_readSum 70 = .ok (.iload_n 3, 1) := by decide +kernel
theorem dX4_readSum_71 : decode cX4_readSum 71 = .ok (.bipush 43, 2) := by decide +kernel
theorem dX4_readSum_73 : decode cX4_readSum 73 = .ok (.if_icmp .ne 8, 3) := by decide +kernel
theorem dX4_readSum_76 : decode cX4_readSum 76 = .ok (.bipush (-10), 2) := by decide +kernel
theorem dX4_readSum_78 : decode cX4_readSum 78 = .ok (.goto 5, 3) := by decide +kernel
theorem dX4_readSum_81 : decode cX4_readSum 81 = .ok (.bipush (-11), 2) := by decide +kernel
theorem dX4_readSum_83 : decode cX4_readSum 83 = .ok (.invokevirtual 163, 3) := by decide +kernel
theorem dX4_readSum_86 : decode cX4_readSum 86 = .ok (.pop, 1) := by decide +kernel
theorem dX4_readSum_87 : decode cX4_readSum 87 = .ok (.iinc 2 1, 3) := by decide +kernel
theorem dX4_readSum_90 : decode cX4_readSum 90 = .ok (.goto (-78), 3) := by decide +kernel
theorem dX4_readSum_93 : decode cX4_readSum 93 = .ok (.iconst 0, 1) := by decide +kernel
theorem dX4_readSum_94 : decode cX4_readSum 94 = .ok (.ireturn, 1) := by decide +kernel
theorem dX4_readProduct_0 : decode cX4_readProduct 0 = .ok (.aload_n 0, 1) := by decide +kernel
theorem dX4_readProduct_1 : decode cX4_readProduct 1 = .ok (.iload_n 1, 1) := by decide +kernel
theorem dX4_readProduct_2 : decode cX4_readProduct 2 = .ok (.invokevirtual 172, 3) := by decide +kernel
theorem dX4_readProduct_5 : decode cX4_readProduct 5 = .ok (.ifCond .ne 5, 3) := by decide +kernel
theorem dX4_readProduct_8 : decode cX4_readProduct 8 = .ok (.iconst 0, 1) := by decide +kernel
theorem dX4_readProduct_9 : decode cX4_readProduct 9 = .ok (.ireturn, 1) := by decide +kernel
theorem dX4_readProduct_10 : decode cX4_readProduct 10 = .ok (.iconst 0, 1) := by decide +kernel
theorem dX4_readProduct_11 : decode cX4_readProduct 11 = .ok (.istore_n 2, 1) := by decide +kernel
theorem dX4_readProduct_12 : decode cX4_readProduct 12 = .ok (.iload_n 2, 1) := by decide +kernel
theorem dX4_readProduct_13 : decode cX4_readProduct 13 = .ok (.sipush 400, 3) := by decide +kernel
theorem dX4_readProduct_16 : decode cX4_readProduct 16 = .ok (.if_icmp .gt 77, 3) := by decide +kernel
theorem dX4_readProduct_19 : decode cX4_readProduct 19 = .ok (.aload_n 0, 1) := by decide +kernel
theorem dX4_readProduct_20 : decode cX4_readProduct 20 = .ok (.getfield 12, 3) := by decide +kernel
theorem dX4_readProduct_23 : decode cX4_readProduct 23 = .ok (.aload_n 0, 1) := by decide +kernel
theorem dX4_readProduct_24 : decode cX4_readProduct 24 = .ok (.getfield 44, 3) := by decide +kernel
theorem dX4_readProduct_27 : decode cX4_readProduct 27 = .ok (.invokevirtual 56, 3) := by decide +kernel
theorem dX4_readProduct_30 : decode cX4_readProduct 30 = .ok (.istore_n 3, 1) := by decide +kernel
theorem dX4_readProduct_31 : decode cX4_readProduct 31 = .ok (.iload_n 3, 1) := by decide +kernel
theorem dX4_readProduct_32 : decode cX4_readProduct 32 = .ok (.bipush 42, 2) := by decide +kernel
theorem dX4_readProduct_34 : decode cX4_readProduct 34 = .ok (.if_icmp .eq 11, 3) := by decide +kernel
theorem dX4_readProduct_37 : decode cX4_readProduct 37 = .ok (.iload_n 3, 1) := by decide +kernel
theorem dX4_readProduct_38 : decode cX4_readProduct 38 = .ok (.bipush 47, 2) := by decide +kernel
theorem dX4_readProduct_40 : decode cX4_readProduct 40 = .ok (.if_icmp .eq 5, 3) := by decide +kernel
theorem dX4_readProduct_43 : decode cX4_readProduct 43 = .ok (.iconst 1, 1) := by decide +kernel
theorem dX4_readProduct_44 : decode cX4_readProduct 44 = .ok (.ireturn, 1) := by decide +kernel
theorem dX4_readProduct_45 : decode cX4_readProduct 45 = .ok (.aload_n 0, 1) := by decide +kernel
theorem dX4_readProduct_46 : decode cX4_readProduct 46 = .ok (.iload_n 3, 1) := by decide +kernel
theorem dX4_readProduct_47 : decode cX4_readProduct 47 = .ok (.invokevirtual 73, 3) := by decide +kernel
theorem dX4_readProduct_50 : decode cX4_readProduct 50 = .ok (.ifCond .eq 11, 3) := by decide +kernel
theorem dX4_readProduct_53 : decode cX4_readProduct 53 = .ok (.aload_n 0, 1) := by decide +kernel
theorem dX4_readProduct_54 : decode cX4_readProduct 54 = .ok (.iload_n 1, 1) := by decide +kernel
theorem dX4_readProduct_55 : decode cX4_readProduct 55 = .ok (.invokevirtual 172, 3) := by decide +kernel
theorem dX4_readProduct_58 : decode cX4_readProduct 58 = .ok (.ifCond .ne 5, 3) := by decide +kernel
theorem dX4_readProduct_61 : decode cX4_readProduct 61 = .ok (.iconst 0, 1) := by decide +kernel
theorem dX4_readProduct_62 : decode cX4_readProduct 62 = .ok (.ireturn, 1) := by decide +kernel
theorem dX4_readProduct_63 : decode cX4_readProduct 63 = .ok (.aload_n 0, 1) := by decide +kernel
theorem dX4_readProduct_64 : decode cX4_readProduct 64 = .ok (.getfield 21, 3) := by decide +kernel
theorem dX4_readProduct_67 : decode cX4_readProduct 67 = .ok (.getfield 151, 3) := by decide +kernel
theorem dX4_readProduct_70 : decode cX4_readProduct 70 = .ok (.iload_n 3, 1) := by decide +kernel
theorem dX4_readProduct_71 : decode cX4_readProduct 71 = .ok (.bipush 42, 2) := by decide +kernel
theorem dX4_readProduct_73 : decode cX4_readProduct 73 = .ok (.if_icmp .ne 8, 3) := by decide +kernel
theorem dX4_readProduct_76 : decode cX4_readProduct 76 = .ok (.bipush (-12), 2) := by decide +kernel
theorem dX4_readProduct_78 : decode cX4_readProduct 78 = .ok (.goto 5, 3) := by decide +kernel
theorem dX4_readProduct_81 : decode cX4_readProduct 81 = .ok (.bipush (-13), 2) := by decide +kernel
theorem dX4_readProduct_83 : decode cX4_readProduct 83 = .ok (.invokevirtual 163, 3) := by decide +kernel
theorem dX4_readProduct_86 : decode cX4_readProduct 86 = .ok (.pop, 1) := by decide +kernel
theorem dX4_readProduct_87 : decode cX4_readProduct 87 = .ok (.iinc 2 1, 3) := by decide +kernel
theorem dX4_readProduct_90 : decode cX4_readProduct 90 = .ok (.goto (-78), 3) := by decide +kernel
theorem dX4_readProduct_93 : decode cX4_readProduct 93 = .ok (.iconst 0, 1) := by decide +kernel
theorem dX4_readProduct_94 : decode cX4_readProduct 94 = .ok (.ireturn, 1) := by decide +kernel
theorem dX4_readUnit_0 : decode cX4_readUnit 0 = .ok (.aload_n 0, 1) := by decide +kernel
theorem dX4_readUnit_1 : decode cX4_readUnit 1 = .ok (.getfield 12, 3) := by decide +kernel
theorem dX4_readUnit_4 : decode cX4_readUnit 4 = .ok (.aload_n 0, 1) := by decide +kernel
theorem dX4_readUnit_5 : decode cX4_readUnit 5 = .ok (.getfield 44, 3) := by decide +kernel
theorem dX4_readUnit_8 : decode cX4_readUnit 8 = .ok (.invokevirtual 56, 3) := by decide +kernel
theorem dX4_readUnit_11 : decode cX4_readUnit 11 = .ok (.istore_n 2, 1) := by decide +kernel
theorem dX4_readUnit_12 : decode cX4_readUnit 12 = .ok (.iload_n 2, 1) := by decide +kernel
theorem dX4_readUnit_13 : decode cX4_readUnit 13 = .ok (.bipush 40, 2) := by decide +kernel
theorem dX4_readUnit_15 : decode cX4_readUnit 15 = .ok (.if_icmp .ne 49, 3) := by decide +kernel
theorem dX4_readUnit_18 : decode cX4_readUnit 18 = .ok (.iload_n 1, 1) := by decide +kernel
theorem dX4_readUnit_19 : decode cX4_readUnit 19 = .ok (.bipush 6, 2) := by decide +kernel
theorem dX4_readUnit_21 : decode cX4_readUnit 21 = .ok (.if_icmp .lt 9, 3) := by decide +kernel
theorem dX4_readUnit_24 : decode cX4_readUnit 24 = .ok (.aload_n 0, 1) := by decide +kernel
theorem dX4_readUnit_25 : decode cX4_readUnit 25 = .ok (.iconst 2, 1) := by decide +kernel
theorem dX4_readUnit_26 : decode cX4_readUnit 26 = .ok (.invokevirtual 104, 3) := by decide +kernel
theorem dX4_readUnit_29 : decode cX4_readUnit 29 = .ok (.ireturn, 1) := by decide +kernel
theorem dX4_readUnit_30 : decode cX4_readUnit 30 = .ok (.aload_n 0, 1) := by decide +kernel
theorem dX4_readUnit_31 : decode cX4_readUnit 31 = .ok (.bipush 40, 2) := by decide +kernel
theorem dX4_readUnit_33 : decode cX4_readUnit 33 = .ok (.invokevirtual 73, 3) := by decide +kernel
theorem dX4_readUnit_36 : decode cX4_readUnit 36 = .ok (.ifCond .eq 26, 3) := by decide +kernel
theorem dX4_readUnit_39 : decode cX4_readUnit 39 = .ok (.aload_n 0, 1) := by decide +kernel
theorem dX4_readUnit_40 : decode cX4_readUnit 40 = .ok (.iload_n 1, 1) := by decide +kernel
theorem dX4_readUnit_41 : decode cX4_readUnit 41 = .ok (.iconst 1, 1) := by decide +kernel
theorem dX4_readUnit_42 : decode cX4_readUnit 42 = .ok (.iadd, 1) := by decide +kernel
theorem dX4_readUnit_43 : decode cX4_readUnit 43 = .ok (.invokevirtual 160, 3) := by decide +kernel
theorem dX4_readUnit_46 : decode cX4_readUnit 46 = .ok (.ifCond .eq 16, 3) := by decide +kernel
theorem dX4_readUnit_49 : decode cX4_readUnit 49 = .ok (.aload_n 0, 1) := by decide +kernel
theorem dX4_readUnit_50 : decode cX4_readUnit 50 = .ok (.bipush 41, 2) := by decide +kernel
theorem dX4_readUnit_52 : decode cX4_readUnit 52 = .ok (.invokevirtual 73, 3) := by decide +kernel
theorem dX4_readUnit_55 : decode cX4_readUnit 55 = .ok (.ifCond .eq 7, 3) := by decide +kernel
theorem dX4_readUnit_58 : decode cX4_readUnit 58 = .ok (.iconst 1, 1) := by decide +kernel
theorem dX4_readUnit_59 : decode cX4_readUnit 59 = .ok (.goto 4, 3) := by decide +kernel
theorem dX4_readUnit_62 : decode cX4_readUnit 62 = .ok (.iconst 0, 1) := by decide +kernel
theorem dX4_readUnit_63 : decode cX4_readUnit 63 = .ok (.ireturn, 1) := by decide +kernel
theorem dX4_readUnit_64 : decode cX4_readUnit 64 = .ok (.iload_n 2, 1) := by decide +kernel
theorem dX4_readUnit_65 : decode cX4_readUnit 65 = .ok (.sipush 143, 3) := by decide +kernel
theorem dX4_readUnit_68 : decode cX4_readUnit 68 = .ok (.if_icmp .lt 14, 3) := by decide +kernel
theorem dX4_readUnit_71 : decode cX4_readUnit 71 = .ok (.iload_n 2, 1) := by decide +kernel
theorem dX4_readUnit_72 : decode cX4_readUnit 72 = .ok (.sipush 152, 3) := by decide +kernel
theorem dX4_readUnit_75 : decode cX4_readUnit 75 = .ok (.if_icmp .ge 7, 3) := by decide +kernel
theorem dX4_readUnit_78 : decode cX4_readUnit 78 = .ok (.iconst 1, 1) := by decide +kernel
theorem dX4_readUnit_79 : decode cX4_readUnit 79 = .ok (.goto 4, 3) := by decide +kernel
theorem dX4_readUnit_82 : decode cX4_readUnit 82 = .ok (.iconst 0, 1) := by decide +kernel
theorem dX4_readUnit_83 : decode cX4_readUnit 83 = .ok (.istore_n 3, 1) := by decide +kernel
theorem dX4_readUnit_84 : decode cX4_readUnit 84 = .ok (.aload_n 0, 1) := by decide +kernel
theorem dX4_readUnit_85 : decode cX4_readUnit 85 = .ok (.iload_n 3, 1) := by decide +kernel
theorem dX4_readUnit_86 : decode cX4_readUnit 86 = .ok (.ifCond .eq 7, 3) := by decide +kernel
theorem dX4_readUnit_89 : decode cX4_readUnit 89 = .ok (.iload_n 2, 1) := by decide +kernel
theorem dX4_readUnit_90 : decode cX4_readUnit 90 = .ok (.goto 4, 3) := by decide +kernel
theorem dX4_readUnit_93 : decode cX4_readUnit 93 = .ok (.iconst 3, 1) := by decide +kernel
theorem dX4_readUnit_94 : decode cX4_readUnit 94 = .ok (.invokevirtual 73, 3) := by decide +kernel
theorem dX4_readUnit_97 : decode cX4_readUnit 97 = .ok (.ifCond .ne 5, 3) := by decide +kernel
theorem dX4_readUnit_100 : decode cX4_readUnit 100 = .ok (.iconst 0, 1) := by decide +kernel
theorem dX4_readUnit_101 : decode cX4_readUnit 101 = .ok (.ireturn, 1) := by decide +kernel
theorem dX4_readUnit_102 : decode cX4_readUnit 102 = .ok (.aload_n 0, 1) := by decide +kernel
theorem dX4_readUnit_103 : decode cX4_readUnit 103 = .ok (.getfield 21, 3) := by decide +kernel
theorem dX4_readUnit_106 : decode cX4_readUnit 106 = .ok (.getfield 151, 3) := by decide +kernel
theorem dX4_readUnit_109 : decode cX4_readUnit 109 = .ok (.iload_n 3, 1) := by decide +kernel
theorem dX4_readUnit_110 : decode cX4_readUnit 110 = .ok (.ifCond .eq 13, 3) := by decide +kernel
theorem dX4_readUnit_113 : decode cX4_readUnit 113 = .ok (.iconst (-1), 1) := by decide +kernel
theorem dX4_readUnit_114 : decode cX4_readUnit 114 = .ok (.iload_n 2, 1) := by decide +kernel
theorem dX4_readUnit_115 : decode cX4_readUnit 115 = .ok (.sipush 143, 3) := by decide +kernel
theorem dX4_readUnit_118 : decode cX4_readUnit 118 = .ok (.isub, 1) := by decide +kernel
theorem dX4_readUnit_119 : decode cX4_readUnit 119 = .ok (.isub, 1) := by decide +kernel
theorem dX4_readUnit_120 : decode cX4_readUnit 120 = .ok (.goto 7, 3) := by decide +kernel
theorem dX4_readUnit_123 : decode cX4_readUnit 123 = .ok (.aload_n 0, 1) := by decide +kernel
theorem dX4_readUnit_124 : decode cX4_readUnit 124 = .ok (.invokevirtual 76, 3) := by decide +kernel
theorem dX4_readUnit_127 : decode cX4_readUnit 127 = .ok (.invokevirtual 163, 3) := by decide +kernel
theorem dX4_readUnit_130 : decode cX4_readUnit 130 = .ok (.pop, 1) := by decide +kernel
theorem dX4_readUnit_131 : decode cX4_readUnit 131 = .ok (.iconst 1, 1) := by decide +kernel
theorem dX4_readUnit_132 : decode cX4_readUnit 132 = .ok (.ireturn, 1) := by decide +kernel
theorem dX7_init_0 : decode cX7_init 0 = .ok (.aload_n 0, 1) := by decide +kernel
theorem dX7_init_1 : decode cX7_init 1 = .ok (.invokespecial 3, 3) := by decide +kernel
theorem dX7_init_4 : decode cX7_init 4 = .ok (.aload_n 0, 1) := by decide +kernel
theorem dX7_init_5 : decode cX7_init 5 = .ok (.aload_n 1, 1) := by decide +kernel
theorem dX7_init_6 : decode cX7_init 6 = .ok (.putfield 9, 3) := by decide +kernel
theorem dX7_init_9 : decode cX7_init 9 = .ok (.aload_n 0, 1) := by decide +kernel
theorem dX7_init_10 : decode cX7_init 10 = .ok (.aload_n 1, 1) := by decide +kernel
theorem dX7_init_11 : decode cX7_init 11 = .ok (.getfield 15, 3) := by decide +kernel
theorem dX7_init_14 : decode cX7_init 14 = .ok (.putfield 21, 3) := by decide +kernel
theorem dX7_init_17 : decode cX7_init 17 = .ok (.return_, 1) := by decide +kernel
theorem dX7_rowOf_0 : decode cX7_rowOf 0 = .ok (.aload_n 0, 1) := by decide +kernel
theorem dX7_rowOf_1 : decode cX7_rowOf 1 = .ok (.getfield 21, 3) := by decide +kernel
theorem dX7_rowOf_4 : decode cX7_rowOf 4 = .ok (.aload_n 1, 1) := by decide +kernel
theorem dX7_rowOf_5 : decode cX7_rowOf 5 = .ok (.iconst 0, 1) := by decide +kernel
theorem dX7_rowOf_6 : decode cX7_rowOf 6 = .ok (.iaload, 1) := by decide +kernel
theorem dX7_rowOf_7 : decode cX7_rowOf 7 = .ok (.invokevirtual 22, 3) := by decide +kernel
theorem dX7_rowOf_10 : decode cX7_rowOf 10 = .ok (.aload_n 0, 1) := by decide +kernel
theorem dX7_rowOf_11 : decode cX7_rowOf 11 = .ok (.getfield 21, 3) := by decide +kernel
theorem dX7_rowOf_14 : decode cX7_rowOf 14 = .ok (.iconst 2, 1) := by decide +kernel
theorem dX7_rowOf_15 : decode cX7_rowOf 15 = .ok (.aload_n 1, 1) := by decide +kernel
theorem dX7_rowOf_16 : decode cX7_rowOf 16 = .ok (.iconst 4, 1) := by decide +kernel
theorem dX7_rowOf_17 : decode cX7_rowOf 17 = .ok (.iload_n 2, 1) := by decide +kernel
theorem dX7_rowOf_18 : decode cX7_rowOf 18 = .ok (.iadd, 1) := by decide +kernel
theorem dX7_rowOf_19 : decode cX7_rowOf 19 = .ok (.iaload, 1) := by decide +kernel
theorem dX7_rowOf_20 : decode cX7_rowOf 20 = .ok (.invokevirtual 28, 3) := by decide +kernel
theorem dX7_rowOf_23 : decode cX7_rowOf 23 = .ok (.aload_n 0, 1) := by decide +kernel
theorem dX7_rowOf_24 : decode cX7_rowOf 24 = .ok (.getfield 21, 3) := by decide +kernel
theorem dX7_rowOf_27 : decode cX7_rowOf 27 = .ok (.iconst 5, 1) := by decide +kernel
theorem dX7_rowOf_28 : decode cX7_rowOf 28 = .ok (.iload_n 2, 1) := by decide +kernel
theorem dX7_rowOf_29 : decode cX7_rowOf 29 = .ok (.invokevirtual 28, 3) := by decide +kernel
theorem dX7_rowOf_32 : decode cX7_rowOf 32 = .ok (.aload_n 0, 1) := by decide +kernel
theorem dX7_rowOf_33 : decode cX7_rowOf 33 = .ok (.getfield 21, 3) := by decide +kernel
theorem dX7_rowOf_36 : decode cX7_rowOf 36 = .ok (.iconst 0, 1) := by decide +kernel
theorem dX7_rowOf_37 : decode cX7_rowOf 37 = .ok (.invokevirtual 32, 3) := by decide +kernel
theorem dX7_rowOf_40 : decode cX7_rowOf 40 = .ok (.iconst 0, 1) := by decide +kernel
theorem dX7_rowOf_41 : decode cX7_rowOf 41 = .ok (.iconst 5, 1) := by decide +kernel
theorem dX7_rowOf_42 : decode cX7_rowOf 42 = .ok (.invokestatic 36, 3) := by decide +kernel
theorem dX7_rowOf_45 : decode cX7_rowOf 45 = .ok (.istore_n 3, 1) := by decide +kernel
theorem dX7_rowOf_46 : decode cX7_rowOf 46 = .ok (.iconst 1, 1) := by decide +kernel
theorem dX7_rowOf_47 : decode cX7_rowOf 47 = .ok (.istore 4, 2) := by decide +kernel
theorem dX7_rowOf_49 : decode cX7_rowOf 49 = .ok (.iconst 0, 1) := by decide +kernel
theorem dX7_rowOf_50 : decode cX7_rowOf 50 = .ok (.istore 5, 2) := by decide +kernel
theorem dX7_rowOf_52 : decode cX7_rowOf 52 = .ok (.iload 5, 2) := by decide +kernel
theorem dX7_rowOf_54 : decode cX7_rowOf 54 = .ok (.iload_n 3, 1) := by decide +kernel
theorem dX7_rowOf_55 : decode cX7_rowOf 55 = .ok (.if_icmp .ge 39, 3) := by decide +kernel
theorem dX7_rowOf_58 : decode cX7_rowOf 58 = .ok (.aload_n 0, 1) := by decide +kernel
theorem dX7_rowOf_59 : decode cX7_rowOf 59 = .ok (.getfield 21, 3) := by decide +kernel
theorem dX7_rowOf_62 : decode cX7_rowOf 62 = .ok (.iconst 1, 1) := by decide +kernel
theorem dX7_rowOf_63 : decode cX7_rowOf 63 = .ok (.iload 5, 2) := by decide +kernel
theorem dX7_rowOf_65 : decode cX7_rowOf 65 = .ok (.invokevirtual 28, 3) := by decide +kernel
theorem dX7_rowOf_68 : decode cX7_rowOf 68 = .ok (.iload 4, 2) := by decide +kernel
theorem dX7_rowOf_70 : decode cX7_rowOf 70 = .ok (.aload_n 0, 1) := by decide +kernel
theorem dX7_rowOf_71 : decode cX7_rowOf 71 = .ok (.getfield 21, 3) := by decide +kernel
theorem dX7_rowOf_74 : decode cX7_rowOf 74 = .ok (.iconst 1, 1) := by decide +kernel
theorem dX7_rowOf_75 : decode cX7_rowOf 75 = .ok (.invokevirtual 32, 3) := by decide +kernel
theorem dX7_rowOf_78 : decode cX7_rowOf 78 = .ok (.bipush 8, 2) := by decide +kernel
theorem dX7_rowOf_80 : decode cX7_rowOf 80 = .ok (.invokestatic 40, 3) := by decide +kernel
theorem dX7_rowOf_83 : decode cX7_rowOf 83 = .ok (.invokestatic 44, 3) := by decide +kernel
theorem dX7_rowOf_86 : decode cX7_rowOf 86 = .ok (.istore 4, 2) := by decide +kernel
theorem dX7_rowOf_88 : decode cX7_rowOf 88 = .ok (.iinc 5 1, 3) := by decide +kernel
theorem dX7_rowOf_91 : decode cX7_rowOf 91 = .ok (.goto (-39), 3) := by decide +kernel
theorem dX7_rowOf_94 : decode cX7_rowOf 94 = .ok (.iload 4, 2) := by decide +kernel
theorem dX7_rowOf_96 : decode cX7_rowOf 96 = .ok (.ireturn, 1) := by decide +kernel
theorem dX7_restOf_0 : decode cX7_restOf 0 = .ok (.iload_n 0, 1) := by decide +kernel
theorem dX7_restOf_1 : decode cX7_restOf 1 = .ok (.ifCond .lt 7, 3) := by decide +kernel
theorem dX7_restOf_4 : decode cX7_restOf 4 = .ok (.iload_n 1, 1) := by decide +kernel
theorem dX7_restOf_5 : decode cX7_restOf 5 = .ok (.ifCond .gt 7, 3) := by decide +kernel
theorem dX7_restOf_8 : decode cX7_restOf 8 = .ok (.iconst 0, 1) := by decide +kernel
theorem dX7_restOf_9 : decode cX7_restOf 9 = .ok (.goto 6, 3) := by decide +kernel
theorem dX7_restOf_12 : decode cX7_restOf 12 = .ok (.iload_n 0, 1) := by decide +kernel
theorem dX7_restOf_13 : decode cX7_restOf 13 = .ok (.iload_n 1, 1) := by decide +kernel
theorem dX7_restOf_14 : decode cX7_restOf 14 = .ok (.irem, 1) := by decide +kernel
theorem dX7_restOf_15 : decode cX7_restOf 15 = .ok (.ireturn, 1) := by decide +kernel
theorem dX7_askAboutThird_0 : decode cX7_askAboutThird 0 = .ok (.aload_n 0, 1) := by decide +kernel
theorem dX7_askAboutThird_1 : decode cX7_askAboutThird 1 = .ok (.getfield 21, 3) := by decide +kernel
theorem dX7_askAboutThird_4 : decode cX7_askAboutThird 4 = .ok (.aload_n 1, 1) := by decide +kernel
theorem dX7_askAboutThird_5 : decode cX7_askAboutThird 5 = .ok (.iconst 0, 1) := by decide +kernel
theorem dX7_askAboutThird_6 : decode cX7_askAboutThird 6 = .ok (.iaload, 1) := by decide +kernel
theorem dX7_askAboutThird_7 : decode cX7_askAboutThird 7 = .ok (.invokevirtual 22, 3) := by decide +kernel
theorem dX7_askAboutThird_10 : decode cX7_askAboutThird 10 = .ok (.aload_n 0, 1) := by decide +kernel
theorem dX7_askAboutThird_11 : decode cX7_askAboutThird 11 = .ok (.getfield 21, 3) := by decide +kernel
theorem dX7_askAboutThird_14 : decode cX7_askAboutThird 14 = .ok (.iconst 3, 1) := by decide +kernel
theorem dX7_askAboutThird_15 : decode cX7_askAboutThird 15 = .ok (.aload_n 1, 1) := by decide +kernel
theorem dX7_askAboutThird_16 : decode cX7_askAboutThird 16 = .ok (.bipush 28, 2) := by decide +kernel
theorem dX7_askAboutThird_18 : decode cX7_askAboutThird 18 = .ok (.iload_n 2, 1) := by decide +kernel
theorem dX7_askAboutThird_19 : decode cX7_askAboutThird 19 = .ok (.iadd, 1) := by decide +kernel
theorem dX7_askAboutThird_20 : decode cX7_askAboutThird 20 = .ok (.iaload, 1) := by decide +kernel
theorem dX7_askAboutThird_21 : decode cX7_askAboutThird 21 = .ok (.invokevirtual 28, 3) := by decide +kernel
theorem dX7_askAboutThird_24 : decode cX7_askAboutThird 24 = .ok (.aload_n 0, 1) := by decide +kernel
theorem dX7_askAboutThird_25 : decode cX7_askAboutThird 25 = .ok (.getfield 21, 3) := by decide +kernel
theorem dX7_askAboutThird_28 : decode cX7_askAboutThird 28 = .ok (.iconst 4, 1) := by decide +kernel
theorem dX7_askAboutThird_29 : decode cX7_askAboutThird 29 = .ok (.aload_n 1, 1) := by decide +kernel
theorem dX7_askAboutThird_30 : decode cX7_askAboutThird 30 = .ok (.bipush 32, 2) := by decide +kernel
theorem dX7_askAboutThird_32 : decode cX7_askAboutThird 32 = .ok (.iload_n 2, 1) := by decide +kernel
theorem dX7_askAboutThird_33 : decode cX7_askAboutThird 33 = .ok (.iadd, 1) := by decide +kernel
theorem dX7_askAboutThird_34 : decode cX7_askAboutThird 34 = .ok (.iaload, 1) := by decide +kernel
theorem dX7_askAboutThird_35 : decode cX7_askAboutThird 35 = .ok (.invokevirtual 28, 3) := by decide +kernel
theorem dX7_askAboutThird_38 : decode cX7_askAboutThird 38 = .ok (.aload_n 0, 1) := by decide +kernel
theorem dX7_askAboutThird_39 : decode cX7_askAboutThird 39 = .ok (.getfield 21, 3) := by decide +kernel
theorem dX7_askAboutThird_42 : decode cX7_askAboutThird 42 = .ok (.iconst 5, 1) := by decide +kernel
theorem dX7_askAboutThird_43 : decode cX7_askAboutThird 43 = .ok (.iload_n 2, 1) := by decide +kernel
theorem dX7_askAboutThird_44 : decode cX7_askAboutThird 44 = .ok (.invokevirtual 28, 3) := by decide +kernel
theorem dX7_askAboutThird_47 : decode cX7_askAboutThird 47 = .ok (.return_, 1) := by decide +kernel
theorem dX7_isDaring_0 : decode cX7_isDaring 0 = .ok (.aload_n 0, 1) := by decide +kernel
theorem dX7_isDaring_1 : decode cX7_isDaring 1 = .ok (.aload_n 1, 1) := by decide +kernel
theorem dX7_isDaring_2 : decode cX7_isDaring 2 = .ok (.iload_n 2, 1) := by decide +kernel
theorem dX7_isDaring_3 : decode cX7_isDaring 3 = .ok (.invokevirtual 49, 3) := by decide +kernel
theorem dX7_isDaring_6 : decode cX7_isDaring 6 = .ok (.aload_n 0, 1) := by decide +kernel
theorem dX7_isDaring_7 : decode cX7_isDaring 7 = .ok (.getfield 21, 3) := by decide +kernel
theorem dX7_isDaring_10 : decode cX7_isDaring 10 = .ok (.bipush 8, 2) := by decide +kernel
theorem dX7_isDaring_12 : decode cX7_isDaring 12 = .ok (.aload_n 1, 1) := by decide +kernel
theorem dX7_isDaring_13 : decode cX7_isDaring 13 = .ok (.bipush 44, 2) := by decide +kernel
theorem dX7_isDaring_15 : decode cX7_isDaring 15 = .ok (.iload_n 2, 1) := by decide +kernel
theorem dX7_isDaring_16 : decode cX7_isDaring 16 = .ok (.iadd, 1) := by decide +kernel
theorem dX7_isDaring_17 : decode cX7_isDaring 17 = .ok (.iaload, 1) := by decide +kernel
theorem dX7_isDaring_18 : decode cX7_isDaring 18 = .ok (.invokevirtual 28, 3) := by decide +kernel
theorem dX7_isDaring_21 : decode cX7_isDaring 21 = .ok (.aload_n 0, 1) := by decide +kernel
theorem dX7_isDaring_22 : decode cX7_isDaring 22 = .ok (.getfield 21, 3) := by decide +kernel
theorem dX7_isDaring_25 : decode cX7_isDaring 25 = .ok (.bipush 6, 2) := by decide +kernel
theorem dX7_isDaring_27 : decode cX7_isDaring 27 = .ok (.invokevirtual 32, 3) := by decide +kernel
theorem dX7_isDaring_30 : decode cX7_isDaring 30 = .ok (.ifCond .le 7, 3) := by decide +kernel
theorem dX7_isDaring_33 : decode cX7_isDaring 33 = .ok (.iconst 1, 1) := by decide +kernel
theorem dX7_isDaring_34 : decode cX7_isDaring 34 = .ok (.goto 4, 3) := by decide +kernel
theorem dX7_isDaring_37 : decode cX7_isDaring 37 = .ok (.iconst 0, 1) := by decide +kernel
theorem dX7_isDaring_38 : decode cX7_isDaring 38 = .ok (.ireturn, 1) := by decide +kernel
theorem dX7_dropsOf_0 : decode cX7_dropsOf 0 = .ok (.aload_n 0, 1) := by decide +kernel
theorem dX7_dropsOf_1 : decode cX7_dropsOf 1 = .ok (.aload_n 1, 1) := by decide +kernel
theorem dX7_dropsOf_2 : decode cX7_dropsOf 2 = .ok (.iload_n 2, 1) := by decide +kernel
theorem dX7_dropsOf_3 : decode cX7_dropsOf 3 = .ok (.invokevirtual 49, 3) := by decide +kernel
theorem dX7_dropsOf_6 : decode cX7_dropsOf 6 = .ok (.aload_n 0, 1) := by decide +kernel
theorem dX7_dropsOf_7 : decode cX7_dropsOf 7 = .ok (.getfield 21, 3) := by decide +kernel
theorem dX7_dropsOf_10 : decode cX7_dropsOf 10 = .ok (.iconst 3, 1) := by decide +kernel
theorem dX7_dropsOf_11 : decode cX7_dropsOf 11 = .ok (.invokevirtual 32, 3) := by decide +kernel
theorem dX7_dropsOf_14 : decode cX7_dropsOf 14 = .ok (.iconst 0, 1) := by decide +kernel
theorem dX7_dropsOf_15 : decode cX7_dropsOf 15 = .ok (.bipush 100, 2) := by decide +kernel
theorem dX7_dropsOf_17 : decode cX7_dropsOf 17 = .ok (.invokestatic 36, 3) := by decide +kernel
theorem dX7_dropsOf_20 : decode cX7_dropsOf 20 = .ok (.ireturn, 1) := by decide +kernel
theorem dX7_askToBend_0 : decode cX7_askToBend 0 = .ok (.aload_n 0, 1) := by decide +kernel
theorem dX7_askToBend_1 : decode cX7_askToBend 1 = .ok (.aload_n 1, 1) := by decide +kernel
theorem dX7_askToBend_2 : decode cX7_askToBend 2 = .ok (.iload_n 2, 1) := by decide +kernel
theorem dX7_askToBend_3 : decode cX7_askToBend 3 = .ok (.invokevirtual 49, 3) := by decide +kernel
theorem dX7_askToBend_6 : decode cX7_askToBend 6 = .ok (.aload_n 0, 1) := by decide +kernel
theorem dX7_askToBend_7 : decode cX7_askToBend 7 = .ok (.getfield 21, 3) := by decide +kernel
theorem dX7_askToBend_10 : decode cX7_askToBend 10 = .ok (.bipush 7, 2) := by decide +kernel
theorem dX7_askToBend_12 : decode cX7_askToBend 12 = .ok (.aload_n 0, 1) := by decide +kernel
theorem dX7_askToBend_13 : decode cX7_askToBend 13 = .ok (.getfield 9, 3) := by decide +kernel
theorem dX7_askToBend_16 : decode cX7_askToBend 16 = .ok (.getfield 53, 3) := by decide +kernel
theorem dX7_askToBend_19 : decode cX7_askToBend 19 = .ok (.iload_n 2, 1) := by decide +kernel
theorem dX7_askToBend_20 : decode cX7_askToBend 20 = .ok (.iaload, 1) := by decide +kernel
theorem dX7_askToBend_21 : decode cX7_askToBend 21 = .ok (.invokevirtual 28, 3) := by decide +kernel
theorem dX7_askToBend_24 : decode cX7_askToBend 24 = .ok (.return_, 1) := by decide +kernel
theorem dX7_bentWord_0 : decode cX7_bentWord 0 = .ok (.aload_n 0, 1) := by decide +kernel
theorem dX7_bentWord_1 : decode cX7_bentWord 1 = .ok (.getfield 21, 3) := by decide +kernel
theorem dX7_bentWord_4 : decode cX7_bentWord 4 = .ok (.iconst 0, 1) := by decide +kernel
theorem dX7_bentWord_5 : decode cX7_bentWord 5 = .ok (.iload_n 1, 1) := by decide +kernel
theorem dX7_bentWord_6 : decode cX7_bentWord 6 = .ok (.invokevirtual 28, 3) := by decide +kernel
theorem dX7_bentWord_9 : decode cX7_bentWord 9 = .ok (.aload_n 0, 1) := by decide +kernel
theorem dX7_bentWord_10 : decode cX7_bentWord 10 = .ok (.getfield 21, 3) := by decide +kernel
theorem dX7_bentWord_13 : decode cX7_bentWord 13 = .ok (.iconst 1, 1) := by decide +kernel
theorem dX7_bentWord_14 : decode cX7_bentWord 14 = .ok (.iload_n 2, 1) := by decide +kernel
theorem dX7_bentWord_15 : decode cX7_bentWord 15 = .ok (.invokevirtual 28, 3) := by decide +kernel
theorem dX7_bentWord_18 : decode cX7_bentWord 18 = .ok (.aload_n 0, 1) := by decide +kernel
theorem dX7_bentWord_19 : decode cX7_bentWord 19 = .ok (.getfield 21, 3) := by decide +kernel
theorem dX7_bentWord_22 : decode cX7_bentWord 22 = .ok (.iconst 2, 1) := by decide +kernel
theorem dX7_bentWord_23 : decode cX7_bentWord 23 = .ok (.invokevirtual 32, 3) := by decide +kernel
theorem dX7_bentWord_26 : decode cX7_bentWord 26 = .ok (.bipush 9, 2) := by decide +kernel
theorem dX7_bentWord_28 : decode cX7_bentWord 28 = .ok (.invokestatic 40, 3) := by decide +kernel
theorem dX7_bentWord_31 : decode cX7_bentWord 31 = .ok (.ireturn, 1) := by decide +kernel
theorem dX7_putWord_0 : decode cX7_putWord 0 = .ok (.aload_n 1, 1) := by decide +kernel
theorem dX7_putWord_1 : decode cX7_putWord 1 = .ok (.bipush 36, 2) := by decide +kernel
theorem dX7_putWord_3 : decode cX7_putWord 3 = .ok (.iload_n 2, 1) := by decide +kernel
theorem dX7_putWord_4 : decode cX7_putWord 4 = .ok (.iadd, 1) := by decide +kernel
theorem dX7_putWord_5 : decode cX7_putWord 5 = .ok (.iaload, 1) := by decide +kernel
theorem dX7_putWord_6 : decode cX7_putWord 6 = .ok (.ifCond .eq 14, 3) := by decide +kernel
theorem dX7_putWord_9 : decode cX7_putWord 9 = .ok (.aload_n 0, 1) := by decide +kernel
theorem dX7_putWord_10 : decode cX7_putWord 10 = .ok (.aload_n 1, 1) := by decide +kernel
theorem dX7_putWord_11 : decode cX7_putWord 11 = .ok (.iload_n 2, 1) := by decide +kernel
theorem dX7_putWord_12 : decode cX7_putWord 12 = .ok (.invokevirtual 57, 3) := by decide +kernel
theorem dX7_putWord_15 : decode cX7_putWord 15 = .ok (.ifCond .ne 5, 3) := by decide +kernel
theorem dX7_putWord_18 : decode cX7_putWord 18 = .ok (.iload_n 3, 1) := by decide +kernel
theorem dX7_putWord_19 : decode cX7_putWord 19 = .ok (.ireturn, 1) := by decide +kernel
theorem dX7_putWord_20 : decode cX7_putWord 20 = .ok (.aload_n 0, 1) := by decide +kernel
theorem dX7_putWord_21 : decode cX7_putWord 21 = .ok (.aload_n 1, 1) := by decide +kernel
theorem dX7_putWord_22 : decode cX7_putWord 22 = .ok (.iload_n 2, 1) := by decide +kernel
theorem dX7_putWord_23 : decode cX7_putWord 23 = .ok (.invokevirtual 61, 3) := by decide +kernel
theorem dX7_putWord_26 : decode cX7_putWord 26 = .ok (.aload_n 0, 1) := by decide +kernel
theorem dX7_putWord_27 : decode cX7_putWord 27 = .ok (.iload_n 3, 1) := by decide +kernel
theorem dX7_putWord_28 : decode cX7_putWord 28 = .ok (.iload 4, 2) := by decide +kernel
theorem dX7_putWord_30 : decode cX7_putWord 30 = .ok (.invokevirtual 64, 3) := by decide +kernel
theorem dX7_putWord_33 : decode cX7_putWord 33 = .ok (.ireturn, 1) := by decide +kernel
theorem dX7_putRow_0 : decode cX7_putRow 0 = .ok (.aload_n 0, 1) := by decide +kernel
theorem dX7_putRow_1 : decode cX7_putRow 1 = .ok (.aload_n 1, 1) := by decide +kernel
theorem dX7_putRow_2 : decode cX7_putRow 2 = .ok (.iload_n 2, 1) := by decide +kernel
theorem dX7_putRow_3 : decode cX7_putRow 3 = .ok (.iload_n 3, 1) := by decide +kernel
theorem dX7_putRow_4 : decode cX7_putRow 4 = .ok (.iconst 0, 1) := by decide +kernel
theorem dX7_putRow_5 : decode cX7_putRow 5 = .ok (.iconst 0, 1) := by decide +kernel
theorem dX7_putRow_6 : decode cX7_putRow 6 = .ok (.iconst 0, 1) := by decide +kernel
theorem dX7_putRow_7 : decode cX7_putRow 7 = .ok (.invokevirtual 67, 3) := by decide +kernel
theorem dX7_putRow_10 : decode cX7_putRow 10 = .ok (.ireturn, 1) := by decide +kernel
theorem dX7_carriedRow_0 : decode cX7_carriedRow 0 = .ok (.aload_n 1, 1) := by decide +kernel
theorem dX7_carriedRow_1 : decode cX7_carriedRow 1 = .ok (.bipush 36, 2) := by decide +kernel
theorem dX7_carriedRow_3 : decode cX7_carriedRow 3 = .ok (.iload_n 2, 1) := by decide +kernel
theorem dX7_carriedRow_4 : decode cX7_carriedRow 4 = .ok (.iadd, 1) := by decide +kernel
theorem dX7_carriedRow_5 : decode cX7_carriedRow 5 = .ok (.iaload, 1) := by decide +kernel
theorem dX7_carriedRow_6 : decode cX7_carriedRow 6 = .ok (.ifCond .eq 16, 3) := by decide +kernel
theorem dX7_carriedRow_9 : decode cX7_carriedRow 9 = .ok (.aload_n 0, 1) := by decide +kernel
theorem dX7_carriedRow_10 : decode cX7_carriedRow 10 = .ok (.aload_n 1, 1) := by decide +kernel
theorem dX7_carriedRow_11 : decode cX7_carriedRow 11 = .ok (.iload_n 2, 1) := by decide +kernel
theorem dX7_carriedRow_12 : decode cX7_carriedRow 12 = .ok (.invokevirtual 57, 3) := by decide +kernel
theorem dX7_carriedRow_15 : decode cX7_carriedRow 15 = .ok (.ifCond .ne 7, 3) := by decide +kernel
theorem dX7_carriedRow_18 : decode cX7_carriedRow 18 = .ok (.iconst 1, 1) := by decide +kernel
theorem dX7_carriedRow_19 : decode cX7_carriedRow 19 = .ok (.goto 4, 3) := by decide +kernel
theorem dX7_carriedRow_22 : decode cX7_carriedRow 22 = .ok (.iconst 0, 1) := by decide +kernel
theorem dX7_carriedRow_23 : decode cX7_carriedRow 23 = .ok (.istore 7, 2) := by decide +kernel
theorem dX7_carriedRow_25 : decode cX7_carriedRow 25 = .ok (.aload_n 0, 1) := by decide +kernel
theorem dX7_carriedRow_26 : decode cX7_carriedRow 26 = .ok (.aload_n 1, 1) := by decide +kernel
theorem dX7_carriedRow_27 : decode cX7_carriedRow 27 = .ok (.iload_n 2, 1) := by decide +kernel
theorem dX7_carriedRow_28 : decode cX7_carriedRow 28 = .ok (.invokevirtual 61, 3) := by decide +kernel
theorem dX7_carriedRow_31 : decode cX7_carriedRow 31 = .ok (.iload_n 3, 1) := by decide +kernel
theorem dX7_carriedRow_32 : decode cX7_carriedRow 32 = .ok (.invokestatic 71, 3) := by decide +kernel
theorem dX7_carriedRow_35 : decode cX7_carriedRow 35 = .ok (.istore 8, 2) := by decide +kernel
theorem dX7_carriedRow_37 : decode cX7_carriedRow 37 = .ok (.iconst 1, 1) := by decide +kernel
theorem dX7_carriedRow_38 : decode cX7_carriedRow 38 = .ok (.istore 9, 2) := by decide +kernel
theorem dX7_carriedRow_40 : decode cX7_carriedRow 40 = .ok (.iconst 0, 1) := by decide +kernel
theorem dX7_carriedRow_41 : decode cX7_carriedRow 41 = .ok (.istore 10, 2) := by decide +kernel
theorem dX7_carriedRow_43 : decode cX7_carriedRow 43 = .ok (.iload 10, 2) := by decide +kernel
theorem dX7_carriedRow_45 : decode cX7_carriedRow 45 = .ok (.iload 8, 2) := by decide +kernel
theorem dX7_carriedRow_47 : decode cX7_carriedRow 47 = .ok (.if_icmp .ge 87, 3) := by decide +kernel
theorem dX7_carriedRow_50 : decode cX7_carriedRow 50 = .ok (.iload_n 3, 1) := by decide +kernel
theorem dX7_carriedRow_51 : decode cX7_carriedRow 51 = .ok (.iload 8, 2) := by decide +kernel
theorem dX7_carriedRow_53 : decode cX7_carriedRow 53 = .ok (.iload 10, 2) := by decide +kernel
theorem dX7_carriedRow_55 : decode cX7_carriedRow 55 = .ok (.invokestatic 74, 3) := by decide +kernel
theorem dX7_carriedRow_58 : decode cX7_carriedRow 58 = .ok (.istore 11, 2) := by decide +kernel
theorem dX7_carriedRow_60 : decode cX7_carriedRow 60 = .ok (.iload 7, 2) := by decide +kernel
theorem dX7_carriedRow_62 : decode cX7_carriedRow 62 = .ok (.ifCond .eq 8, 3) := by decide +kernel
theorem dX7_carriedRow_65 : decode cX7_carriedRow 65 = .ok (.iload 11, 2) := by decide +kernel
theorem dX7_carriedRow_67 : decode cX7_carriedRow 67 = .ok (.goto 11, 3) := by decide +kernel
theorem dX7_carriedRow_70 : decode cX7_carriedRow 70 = .ok (.aload_n 0, 1) := by decide +kernel
theorem dX7_carriedRow_71 : decode cX7_carriedRow 71 = .ok (.iload 11, 2) := by decide +kernel
theorem dX7_carriedRow_73 : decode cX7_carriedRow 73 = .ok (.iload 10, 2) := by decide +kernel
theorem dX7_carriedRow_75 : decode cX7_carriedRow 75 = .ok (.invokevirtual 64, 3) := by decide +kernel
theorem dX7_carriedRow_78 : decode cX7_carriedRow 78 = .ok (.istore 12, 2) := by decide +kernel
theorem dX7_carriedRow_80 : decode cX7_carriedRow 80 = .ok (.iload 4, 2) := by decide +kernel
theorem dX7_carriedRow_82 : decode cX7_carriedRow 82 = .ok (.ifCond .le 22, 3) := by decide +kernel
theorem dX7_carriedRow_85 : decode cX7_carriedRow 85 = .ok (.iload 5, 2) := by decide +kernel
theorem dX7_carriedRow_87 : decode cX7_carriedRow 87 = .ok (.iload 6, 2) := by decide +kernel
theorem dX7_carriedRow_89 : decode cX7_carriedRow 89 = .ok (.iload 10, 2) := by decide +kernel
theorem dX7_carriedRow_91 : decode cX7_carriedRow 91 = .ok (.iadd, 1) := by decide +kernel
theorem dX7_carriedRow_92 : decode cX7_carriedRow 92 = .ok (.invokestatic 77, 3) := by decide +kernel
theorem dX7_carriedRow_95 : decode cX7_carriedRow 95 = .ok (.iload 4, 2) := by decide +kernel
theorem dX7_carriedRow_97 : decode cX7_carriedRow 97 = .ok (.if_icmp .ge 7, 3) := by decide +kernel
theorem dX7_carriedRow_100 : decode cX7_carriedRow 100 = .ok (.iconst 1, 1) := by decide +kernel
theorem dX7_carriedRow_101 : decode cX7_carriedRow 101 = .ok (.goto 4, 3) := by decide +kernel
theorem dX7_carriedRow_104 : decode cX7_carriedRow 104 = .ok (.iconst 0, 1) := by decide +kernel
theorem dX7_carriedRow_105 : decode cX7_carriedRow 105 = .ok (.istore 13, 2) := by decide +kernel
theorem dX7_carriedRow_107 : decode cX7_carriedRow 107 = .ok (.iload 12, 2) := by decide +kernel
theorem dX7_carriedRow_109 : decode cX7_carriedRow 109 = .ok (.bipush 8, 2) := by decide +kernel
theorem dX7_carriedRow_111 : decode cX7_carriedRow 111 = .ok (.if_icmp .eq 17, 3) := by decide +kernel
theorem dX7_carriedRow_114 : decode cX7_carriedRow 114 = .ok (.iload 13, 2) := by decide +kernel
theorem dX7_carriedRow_116 : decode cX7_carriedRow 116 = .ok (.ifCond .ne 12, 3) := by decide +kernel
theorem dX7_carriedRow_119 : decode cX7_carriedRow 119 = .ok (.iload 9, 2) := by decide +kernel
theorem dX7_carriedRow_121 : decode cX7_carriedRow 121 = .ok (.iload 12, 2) := by decide +kernel
theorem dX7_carriedRow_123 : decode cX7_carriedRow 123 = .ok (.invokestatic 44, 3) := by decide +kernel
theorem dX7_carriedRow_126 : decode cX7_carriedRow 126 = .ok (.istore 9, 2) := by decide +kernel
theorem dX7_carriedRow_128 : decode cX7_carriedRow 128 = .ok (.iinc 10 1, 3) := by decide +kernel
theorem dX7_carriedRow_131 : decode cX7_carriedRow 131 = .ok (.goto (-88), 3) := by decide +kernel
theorem dX7_carriedRow_134 : decode cX7_carriedRow 134 = .ok (.iload 9, 2) := by decide +kernel
theorem dX7_carriedRow_136 : decode cX7_carriedRow 136 = .ok (.ireturn, 1) := by decide +kernel
theorem dX7_lotOfHundred_0 : decode cX7_lotOfHundred 0 = .ok (.iload_n 0, 1) := by decide +kernel
theorem dX7_lotOfHundred_1 : decode cX7_lotOfHundred 1 = .ok (.bipush 91, 2) := by decide +kernel
theorem dX7_lotOfHundred_3 : decode cX7_lotOfHundred 3 = .ok (.invokestatic 80, 3) := by decide +kernel
theorem dX7_lotOfHundred_6 : decode cX7_lotOfHundred 6 = .ok (.iload_n 1, 1) := by decide +kernel
theorem dX7_lotOfHundred_7 : decode cX7_lotOfHundred 7 = .ok (.invokestatic 80, 3) := by decide +kernel
theorem dX7_lotOfHundred_10 : decode cX7_lotOfHundred 10 = .ok (.istore_n 2, 1) := by decide +kernel
theorem dX7_lotOfHundred_11 : decode cX7_lotOfHundred 11 = .ok (.iload_n 2, 1) := by decide +kernel
theorem dX7_lotOfHundred_12 : decode cX7_lotOfHundred 12 = .ok (.iconst 1, 1) := by decide +kernel
theorem dX7_lotOfHundred_13 : decode cX7_lotOfHundred 13 = .ok (.iushr, 1) := by decide +kernel
theorem dX7_lotOfHundred_14 : decode cX7_lotOfHundred 14 = .ok (.bipush 100, 2) := by decide +kernel
theorem dX7_lotOfHundred_16 : decode cX7_lotOfHundred 16 = .ok (.irem, 1) := by decide +kernel
theorem dX7_lotOfHundred_17 : decode cX7_lotOfHundred 17 = .ok (.ireturn, 1) := by decide +kernel
theorem dX7_mix_0 : decode cX7_mix 0 = .ok (.iload_n 0, 1) := by decide +kernel
theorem dX7_mix_1 : decode cX7_mix 1 = .ok (.iload_n 1, 1) := by decide +kernel
theorem dX7_mix_2 : decode cX7_mix 2 = .ok (.ixor, 1) := by decide +kernel
theorem dX7_mix_3 : decode cX7_mix 3 = .ok (.ldc 83, 2) := by decide +kernel
theorem dX7_mix_5 : decode cX7_mix 5 = .ok (.imul, 1) := by decide +kernel
theorem dX7_mix_6 : decode cX7_mix 6 = .ok (.sipush 12345, 3) := by decide +kernel
theorem dX7_mix_9 : decode cX7_mix 9 = .ok (.iadd, 1) := by decide +kernel
theorem dX7_mix_10 : decode cX7_mix 10 = .ok (.istore_n 2, 1) := by decide +kernel
theorem dX7_mix_11 : decode cX7_mix 11 = .ok (.iload_n 2, 1) := by decide +kernel
theorem dX7_mix_12 : decode cX7_mix 12 = .ok (.iload_n 2, 1) := by decide +kernel
theorem dX7_mix_13 : decode cX7_mix 13 = .ok (.bipush 15, 2) := by decide +kernel
theorem dX7_mix_15 : decode cX7_mix 15 = .ok (.iushr, 1) := by decide +kernel
theorem dX7_mix_16 : decode cX7_mix 16 = .ok (.ixor, 1) := by decide +kernel
theorem dX7_mix_17 : decode cX7_mix 17 = .ok (.ireturn, 1) := by decide +kernel
theorem dX7_moodBehind_0 : decode cX7_moodBehind 0 = .ok (.iload_n 3, 1) := by decide +kernel
theorem dX7_moodBehind_1 : decode cX7_moodBehind 1 = .ok (.invokestatic 71, 3) := by decide +kernel
theorem dX7_moodBehind_4 : decode cX7_moodBehind 4 = .ok (.istore 4, 2) := by decide +kernel
theorem dX7_moodBehind_6 : decode cX7_moodBehind 6 = .ok (.aload_n 1, 1) := by decide +kernel
theorem dX7_moodBehind_7 : decode cX7_moodBehind 7 = .ok (.iconst 4, 1) := by decide +kernel
theorem dX7_moodBehind_8 : decode cX7_moodBehind 8 = .ok (.iload_n 2, 1) := by decide +kernel
theorem dX7_moodBehind_9 : decode cX7_moodBehind 9 = .ok (.iadd, 1) := by decide +kernel
theorem dX7_moodBehind_10 : decode cX7_moodBehind 10 = .ok (.iaload, 1) := by decide +kernel
theorem dX7_moodBehind_11 : decode cX7_moodBehind 11 = .ok (.istore 5, 2) := by decide +kernel
theorem dX7_moodBehind_13 : decode cX7_moodBehind 13 = .ok (.aload_n 0, 1) := by decide +kernel
theorem dX7_moodBehind_14 : decode cX7_moodBehind 14 = .ok (.getfield 21, 3) := by decide +kernel
theorem dX7_moodBehind_17 : decode cX7_moodBehind 17 = .ok (.aload_n 1, 1) := by decide +kernel
theorem dX7_moodBehind_18 : decode cX7_moodBehind 18 = .ok (.iconst 0, 1) := by decide +kernel
theorem dX7_moodBehind_19 : decode cX7_moodBehind 19 = .ok (.iaload, 1) := by decide +kernel
theorem dX7_moodBehind_20 : decode cX7_moodBehind 20 = .ok (.invokevirtual 22, 3) := by decide +kernel
theorem dX7_moodBehind_23 : decode cX7_moodBehind 23 = .ok (.aload_n 0, 1) := by decide +kernel
theorem dX7_moodBehind_24 : decode cX7_moodBehind 24 = .ok (.getfield 21, 3) := by decide +kernel
theorem dX7_moodBehind_27 : decode cX7_moodBehind 27 = .ok (.iconst 5, 1) := by decide +kernel
theorem dX7_moodBehind_28 : decode cX7_moodBehind 28 = .ok (.iload_n 2, 1) := by decide +kernel
theorem dX7_moodBehind_29 : decode cX7_moodBehind 29 = .ok (.invokevirtual 28, 3) := by decide +kernel
theorem dX7_moodBehind_32 : decode cX7_moodBehind 32 = .ok (.iconst 0, 1) := by decide +kernel
theorem dX7_moodBehind_33 : decode cX7_moodBehind 33 = .ok (.istore 6, 2) := by decide +kernel
theorem dX7_moodBehind_35 : decode cX7_moodBehind 35 = .ok (.iload 6, 2) := by decide +kernel
theorem dX7_moodBehind_37 : decode cX7_moodBehind 37 = .ok (.iload 4, 2) := by decide +kernel
theorem dX7_moodBehind_39 : decode cX7_moodBehind 39 = .ok (.if_icmp .ge 71, 3) := by decide +kernel
theorem dX7_moodBehind_42 : decode cX7_moodBehind 42 = .ok (.aload_n 0, 1) := by decide +kernel
theorem dX7_moodBehind_43 : decode cX7_moodBehind 43 = .ok (.getfield 21, 3) := by decide +kernel
theorem dX7_moodBehind_46 : decode cX7_moodBehind 46 = .ok (.iconst 0, 1) := by decide +kernel
theorem dX7_moodBehind_47 : decode cX7_moodBehind 47 = .ok (.iload_n 3, 1) := by decide +kernel
theorem dX7_moodBehind_48 : decode cX7_moodBehind 48 = .ok (.iload 4, 2) := by decide +kernel
theorem dX7_moodBehind_50 : decode cX7_moodBehind 50 = .ok (.iload 6, 2) := by decide +kernel
theorem dX7_moodBehind_52 : decode cX7_moodBehind 52 = .ok (.invokestatic 74, 3) := by decide +kernel
theorem dX7_moodBehind_55 : decode cX7_moodBehind 55 = .ok (.invokevirtual 28, 3) := by decide +kernel
theorem dX7_moodBehind_58 : decode cX7_moodBehind 58 = .ok (.aload_n 0, 1) := by decide +kernel
theorem dX7_moodBehind_59 : decode cX7_moodBehind 59 = .ok (.getfield 21, 3) := by decide +kernel
theorem dX7_moodBehind_62 : decode cX7_moodBehind 62 = .ok (.iconst 1, 1) := by decide +kernel
theorem dX7_moodBehind_63 : decode cX7_moodBehind 63 = .ok (.iload 6, 2) := by decide +kernel
theorem dX7_moodBehind_65 : decode cX7_moodBehind 65 = .ok (.invokevirtual 28, 3) := by decide +kernel
theorem dX7_moodBehind_68 : decode cX7_moodBehind 68 = .ok (.aload_n 0, 1) := by decide +kernel
theorem dX7_moodBehind_69 : decode cX7_moodBehind 69 = .ok (.getfield 21, 3) := by decide +kernel
theorem dX7_moodBehind_72 : decode cX7_moodBehind 72 = .ok (.iconst 2, 1) := by decide +kernel
theorem dX7_moodBehind_73 : decode cX7_moodBehind 73 = .ok (.iload 5, 2) := by decide +kernel
theorem dX7_moodBehind_75 : decode cX7_moodBehind 75 = .ok (.invokevirtual 28, 3) := by decide +kernel
theorem dX7_moodBehind_78 : decode cX7_moodBehind 78 = .ok (.iload 5, 2) := by decide +kernel
theorem dX7_moodBehind_80 : decode cX7_moodBehind 80 = .ok (.aload_n 0, 1) := by decide +kernel
theorem dX7_moodBehind_81 : decode cX7_moodBehind 81 = .ok (.getfield 21, 3) := by decide +kernel
theorem dX7_moodBehind_84 : decode cX7_moodBehind 84 = .ok (.iconst 4, 1) := by decide +kernel
theorem dX7_moodBehind_85 : decode cX7_moodBehind 85 = .ok (.invokevirtual 32, 3) := by decide +kernel
theorem dX7_moodBehind_88 : decode cX7_moodBehind 88 = .ok (.bipush (-9), 2) := by decide +kernel
theorem dX7_moodBehind_90 : decode cX7_moodBehind 90 = .ok (.bipush 9, 2) := by decide +kernel
theorem dX7_moodBehind_92 : decode cX7_moodBehind 92 = .ok (.invokestatic 36, 3) := by decide +kernel
theorem dX7_moodBehind_95 : decode cX7_moodBehind 95 = .ok (.iadd, 1) := by decide +kernel
theorem dX7_moodBehind_96 : decode cX7_moodBehind 96 = .ok (.iconst 0, 1) := by decide +kernel
theorem dX7_moodBehind_97 : decode cX7_moodBehind 97 = .ok (.bipush 99, 2) := by decide +kernel
theorem dX7_moodBehind_99 : decode cX7_moodBehind 99 = .ok (.invokestatic 36, 3) := by decide +kernel
theorem dX7_moodBehind_102 : decode cX7_moodBehind 102 = .ok (.istore 5, 2) := by decide +kernel
theorem dX7_moodBehind_104 : decode cX7_moodBehind 104 = .ok (.iinc 6 1, 3) := by decide +kernel
theorem dX7_moodBehind_107 : decode cX7_moodBehind 107 = .ok (.goto (-72), 3) := by decide +kernel
theorem dX7_moodBehind_110 : decode cX7_moodBehind 110 = .ok (.iload 5, 2) := by decide +kernel
theorem dX7_moodBehind_112 : decode cX7_moodBehind 112 = .ok (.ireturn, 1) := by decide +kernel
theorem dX7_speakerOf_0 : decode cX7_speakerOf 0 = .ok (.aload_n 0, 1) := by decide +kernel
theorem dX7_speakerOf_1 : decode cX7_speakerOf 1 = .ok (.getfield 9, 3) := by decide +kernel
theorem dX7_speakerOf_4 : decode cX7_speakerOf 4 = .ok (.getfield 84, 3) := by decide +kernel
theorem dX7_speakerOf_7 : decode cX7_speakerOf 7 = .ok (.iconst 2, 1) := by decide +kernel
theorem dX7_speakerOf_8 : decode cX7_speakerOf 8 = .ok (.iload_n 2, 1) := by decide +kernel
theorem dX7_speakerOf_9 : decode cX7_speakerOf 9 = .ok (.imul, 1) := by decide +kernel
theorem dX7_speakerOf_10 : decode cX7_speakerOf 10 = .ok (.aload_n 1, 1) := by decide +kernel
theorem dX7_speakerOf_11 : decode cX7_speakerOf 11 = .ok (.iconst 0, 1) := by decide +kernel
theorem dX7_speakerOf_12 : decode cX7_speakerOf 12 = .ok (.iaload, 1) := by decide +kernel
theorem dX7_speakerOf_13 : decode cX7_speakerOf 13 = .ok (.iconst 1, 1) := by decide +kernel
theorem dX7_speakerOf_14 : decode cX7_speakerOf 14 = .ok (.iand, 1) := by decide +kernel
theorem dX7_speakerOf_15 : decode cX7_speakerOf 15 = .ok (.iadd, 1) := by decide +kernel
theorem dX7_speakerOf_16 : decode cX7_speakerOf 16 = .ok (.iaload, 1) := by decide +kernel
theorem dX7_speakerOf_17 : decode cX7_speakerOf 17 = .ok (.ireturn, 1) := by decide +kernel
theorem dX7_hearerOf_0 : decode cX7_hearerOf 0 = .ok (.aload_n 0, 1) := by decide +kernel
theorem dX7_hearerOf_1 : decode cX7_hearerOf 1 = .ok (.getfield 9, 3) := by decide +kernel
theorem dX7_hearerOf_4 : decode cX7_hearerOf 4 = .ok (.getfield 84, 3) := by decide +kernel
theorem dX7_hearerOf_7 : decode cX7_hearerOf 7 = .ok (.iconst 2, 1) := by decide +kernel
theorem dX7_hearerOf_8 : decode cX7_hearerOf 8 = .ok (.iload_n 2, 1) := by decide +kernel
theorem dX7_hearerOf_9 : decode cX7_hearerOf 9 = .ok (.imul, 1) := by decide +kernel
theorem dX7_hearerOf_10 : decode cX7_hearerOf 10 = .ok (.iconst 1, 1) := by decide +kernel
theorem dX7_hearerOf_11 : decode cX7_hearerOf 11 = .ok (.iadd, 1) := by decide +kernel
theorem dX7_hearerOf_12 : decode cX7_hearerOf 12 = .ok (.aload_n 1, 1) := by decide +kernel
theorem dX7_hearerOf_13 : decode cX7_hearerOf 13 = .ok (.iconst 0, 1) := by decide +kernel
theorem dX7_hearerOf_14 : decode cX7_hearerOf 14 = .ok (.iaload, 1) := by decide +kernel
theorem dX7_hearerOf_15 : decode cX7_hearerOf 15 = .ok (.iconst 1, 1) := by decide +kernel
theorem dX7_hearerOf_16 : decode cX7_hearerOf 16 = .ok (.iand, 1) := by decide +kernel
theorem dX7_hearerOf_17 : decode cX7_hearerOf 17 = .ok (.isub, 1) := by decide +kernel
theorem dX7_hearerOf_18 : decode cX7_hearerOf 18 = .ok (.iaload, 1) := by decide +kernel
theorem dX7_hearerOf_19 : decode cX7_hearerOf 19 = .ok (.ireturn, 1) := by decide +kernel
theorem dX7_goThroughWeek_0 : decode cX7_goThroughWeek 0 = .ok (.iconst 0, 1) := by decide +kernel
theorem dX7_goThroughWeek_1 : decode cX7_goThroughWeek 1 = .ok (.istore_n 3, 1) := by decide +kernel
theorem dX7_goThroughWeek_2 : decode cX7_goThroughWeek 2 = .ok (.iload_n 3, 1) := by decide +kernel
theorem dX7_goThroughWeek_3 : decode cX7_goThroughWeek 3 = .ok (.aload_n 0, 1) := by decide +kernel
theorem dX7_goThroughWeek_4 : decode cX7_goThroughWeek 4 = .ok (.getfield 9, 3) := by decide +kernel
theorem dX7_goThroughWeek_7 : decode cX7_goThroughWeek 7 = .ok (.getfield 87, 3) := by decide +kernel
theorem dX7_goThroughWeek_10 : decode cX7_goThroughWeek 10 = .ok (.if_icmp .ge 67, 3) := by decide +kernel
theorem dX7_goThroughWeek_13 : decode cX7_goThroughWeek 13 = .ok (.iload_n 3, 1) := by decide +kernel
theorem dX7_goThroughWeek_14 : decode cX7_goThroughWeek 14 = .ok (.iconst 3, 1) := by decide +kernel
theorem dX7_goThroughWeek_15 : decode cX7_goThroughWeek 15 = .ok (.if_icmp .ge 62, 3) := by decide +kernel
theorem dX7_goThroughWeek_18 : decode cX7_goThroughWeek 18 = .ok (.aload_n 1, 1) := by decide +kernel
theorem dX7_goThroughWeek_19 : decode cX7_goThroughWeek 19 = .ok (.bipush 19, 2) := by decide +kernel
theorem dX7_goThroughWeek_21 : decode cX7_goThroughWeek 21 = .ok (.iload_n 3, 1) := by decide +kernel
theorem dX7_goThroughWeek_22 : decode cX7_goThroughWeek 22 = .ok (.iadd, 1) := by decide +kernel
theorem dX7_goThroughWeek_23 : decode cX7_goThroughWeek 23 = .ok (.iaload, 1) := by decide +kernel
theorem dX7_goThroughWeek_24 : decode cX7_goThroughWeek 24 = .ok (.ifCond .ne 47, 3) := by decide +kernel
theorem dX7_goThroughWeek_27 : decode cX7_goThroughWeek 27 = .ok (.aload_n 1, 1) := by decide +kernel
theorem dX7_goThroughWeek_28 : decode cX7_goThroughWeek 28 = .ok (.bipush 16, 2) := by decide +kernel
theorem dX7_goThroughWeek_30 : decode cX7_goThroughWeek 30 = .ok (.iload_n 3, 1) := by decide +kernel
theorem dX7_goThroughWeek_31 : decode cX7_goThroughWeek 31 = .ok (.iadd, 1) := by decide +kernel
theorem dX7_goThroughWeek_32 : decode cX7_goThroughWeek 32 = .ok (.iaload, 1) := by decide +kernel
theorem dX7_goThroughWeek_33 : decode cX7_goThroughWeek 33 = .ok (.istore 4, 2) := by decide +kernel
theorem dX7_goThroughWeek_35 : decode cX7_goThroughWeek 35 = .ok (.aload_n 0, 1) := by decide +kernel
theorem dX7_goThroughWeek_36 : decode cX7_goThroughWeek 36 = .ok (.getfield 9, 3) := by decide +kernel
theorem dX7_goThroughWeek_39 : decode cX7_goThroughWeek 39 = .ok (.iload 4, 2) := by decide +kernel
theorem dX7_goThroughWeek_41 : decode cX7_goThroughWeek 41 = .ok (.invokevirtual 91, 3) := by decide +kernel
theorem dX7_goThroughWeek_44 : decode cX7_goThroughWeek 44 = .ok (.ifCond .eq 15, 3) := by decide +kernel
theorem dX7_goThroughWeek_47 : decode cX7_goThroughWeek 47 = .ok (.aload_n 0, 1) := by decide +kernel
theorem dX7_goThroughWeek_48 : decode cX7_goThroughWeek 48 = .ok (.aload_n 1, 1) := by decide +kernel
theorem dX7_goThroughWeek_49 : decode cX7_goThroughWeek 49 = .ok (.iload_n 3, 1) := by decide +kernel
theorem dX7_goThroughWeek_50 : decode cX7_goThroughWeek 50 = .ok (.iload 4, 2) := by decide +kernel
theorem dX7_goThroughWeek_52 : decode cX7_goThroughWeek 52 = .ok (.iload_n 2, 1) := by decide +kernel
theorem dX7_goThroughWeek_53 : decode cX7_goThroughWeek 53 = .ok (.invokevirtual 95, 3) := by decide +kernel
theorem dX7_goThroughWeek_56 : decode cX7_goThroughWeek 56 = .ok (.goto 9, 3) := by decide +kernel
theorem dX7_goThroughWeek_59 : decode cX7_goThroughWeek 59 = .ok (.aload_n 0, 1) := by decide +kernel
theorem dX7_goThroughWeek_60 : decode cX7_goThroughWeek 60 = .ok (.aload_n 1, 1) := by decide +kernel
theorem dX7_goThroughWeek_61 : decode cX7_goThroughWeek 61 = .ok (.iload_n 3, 1) := by decide +kernel
theorem dX7_goThroughWeek_62 : decode cX7_goThroughWeek 62 = .ok (.invokevirtual 99, 3) := by decide +kernel
theorem dX7_goThroughWeek_65 : decode cX7_goThroughWeek 65 = .ok (.aload_n 0, 1) := by decide +kernel
theorem dX7_goThroughWeek_66 : decode cX7_goThroughWeek 66 = .ok (.aload_n 1, 1) := by decide +kernel
theorem dX7_goThroughWeek_67 : decode cX7_goThroughWeek 67 = .ok (.iload_n 3, 1) := by decide +kernel
theorem dX7_goThroughWeek_68 : decode cX7_goThroughWeek 68 = .ok (.invokevirtual 102, 3) := by decide +kernel
theorem dX7_goThroughWeek_71 : decode cX7_goThroughWeek 71 = .ok (.iinc 3 1, 3) := by decide +kernel
theorem dX7_goThroughWeek_74 : decode cX7_goThroughWeek 74 = .ok (.goto (-72), 3) := by decide +kernel
theorem dX7_goThroughWeek_77 : decode cX7_goThroughWeek 77 = .ok (.aload_n 0, 1) := by decide +kernel
theorem dX7_goThroughWeek_78 : decode cX7_goThroughWeek 78 = .ok (.aload_n 1, 1) := by decide +kernel
theorem dX7_goThroughWeek_79 : decode cX7_goThroughWeek 79 = .ok (.invokevirtual 105, 3) := by decide +kernel
theorem dX7_goThroughWeek_82 : decode cX7_goThroughWeek 82 = .ok (.aload_n 1, 1) := by decide +kernel
theorem dX7_goThroughWeek_83 : decode cX7_goThroughWeek 83 = .ok (.iconst 0, 1) := by decide +kernel
theorem dX7_goThroughWeek_84 : decode cX7_goThroughWeek 84 = .ok (.dup2, 1) := by decide +kernel
theorem dX7_goThroughWeek_85 : decode cX7_goThroughWeek 85 = .ok (.iaload, 1) := by decide +kernel
theorem dX7_goThroughWeek_86 : decode cX7_goThroughWeek 86 = .ok (.iconst 1, 1) := by decide +kernel
theorem dX7_goThroughWeek_87 : decode cX7_goThroughWeek 87 = .ok (.iadd, 1) := by decide +kernel
theorem dX7_goThroughWeek_88 : decode cX7_goThroughWeek 88 = .ok (.iastore, 1) := by decide +kernel
theorem dX7_goThroughWeek_89 : decode cX7_goThroughWeek 89 = .ok (.return_, 1) := by decide +kernel
theorem dX7_speak_0 : decode cX7_speak 0 = .ok (.aload_n 0, 1) := by decide +kernel
theorem dX7_speak_1 : decode cX7_speak 1 = .ok (.aload_n 1, 1) := by decide +kernel
theorem dX7_speak_2 : decode cX7_speak 2 = .ok (.iload_n 2, 1) := by decide +kernel
theorem dX7_speak_3 : decode cX7_speak 3 = .ok (.invokevirtual 109, 3) := by decide +kernel
theorem dX7_speak_6 : decode cX7_speak 6 = .ok (.istore 5, 2) := by decide +kernel
theorem dX7_speak_8 : decode cX7_speak 8 = .ok (.aload_n 0, 1) := by decide +kernel
theorem dX7_speak_9 : decode cX7_speak 9 = .ok (.aload_n 1, 1) := by decide +kernel
theorem dX7_speak_10 : decode cX7_speak 10 = .ok (.iload_n 2, 1) := by decide +kernel
theorem dX7_speak_11 : decode cX7_speak 11 = .ok (.invokevirtual 113, 3) := by decide +kernel
theorem dX7_speak_14 : decode cX7_speak 14 = .ok (.istore 6, 2) := by decide +kernel
theorem dX7_speak_16 : decode cX7_speak 16 = .ok (.aload_n 0, 1) := by decide +kernel
theorem dX7_speak_17 : decode cX7_speak 17 = .ok (.aload_n 1, 1) := by decide +kernel
theorem dX7_speak_18 : decode cX7_speak 18 = .ok (.iload 5, 2) := by decide +kernel
theorem dX7_speak_20 : decode cX7_speak 20 = .ok (.invokevirtual 116, 3) := by decide +kernel
theorem dX7_speak_23 : decode cX7_speak 23 = .ok (.istore 7, 2) := by decide +kernel
theorem dX7_speak_25 : decode cX7_speak 25 = .ok (.sipush 256, 3) := by decide +kernel
theorem dX7_speak_28 : decode cX7_speak 28 = .ok (.aload_n 1, 1) := by decide +kernel
theorem dX7_speak_29 : decode cX7_speak 29 = .ok (.iconst 0, 1) := by decide +kernel
theorem dX7_speak_30 : decode cX7_speak 30 = .ok (.iaload, 1) := by decide +kernel
theorem dX7_speak_31 : decode cX7_speak 31 = .ok (.imul, 1) := by decide +kernel
theorem dX7_speak_32 : decode cX7_speak 32 = .ok (.bipush 64, 2) := by decide +kernel
theorem dX7_speak_34 : decode cX7_speak 34 = .ok (.iload_n 3, 1) := by decide +kernel
theorem dX7_speak_35 : decode cX7_speak 35 = .ok (.imul, 1) := by decide +kernel
theorem dX7_speak_36 : decode cX7_speak 36 = .ok (.iadd, 1) := by decide +kernel
theorem dX7_speak_37 : decode cX7_speak 37 = .ok (.bipush 8, 2) := by decide +kernel
theorem dX7_speak_39 : decode cX7_speak 39 = .ok (.iload_n 2, 1) := by decide +kernel
theorem dX7_speak_40 : decode cX7_speak 40 = .ok (.imul, 1) := by decide +kernel
theorem dX7_speak_41 : decode cX7_speak 41 = .ok (.iadd, 1) := by decide +kernel
theorem dX7_speak_42 : decode cX7_speak 42 = .ok (.istore 8, 2) := by decide +kernel
theorem dX7_speak_44 : decode cX7_speak 44 = .ok (.aload_n 0, 1) := by decide +kernel
theorem dX7_speak_45 : decode cX7_speak 45 = .ok (.aload_n 1, 1) := by decide +kernel
theorem dX7_speak_46 : decode cX7_speak 46 = .ok (.iload_n 3, 1) := by decide +kernel
theorem dX7_speak_47 : decode cX7_speak 47 = .ok (.iload 7, 2) := by decide +kernel
theorem dX7_speak_49 : decode cX7_speak 49 = .ok (.aload_n 0, 1) := by decide +kernel
theorem dX7_speak_50 : decode cX7_speak 50 = .ok (.aload_n 1, 1) := by decide +kernel
theorem dX7_speak_51 : decode cX7_speak 51 = .ok (.iload_n 3, 1) := by decide +kernel
theorem dX7_speak_52 : decode cX7_speak 52 = .ok (.invokevirtual 119, 3) := by decide +kernel
theorem dX7_speak_55 : decode cX7_speak 55 = .ok (.iload 4, 2) := by decide +kernel
theorem dX7_speak_57 : decode cX7_speak 57 = .ok (.iload 8, 2) := by decide +kernel
theorem dX7_speak_59 : decode cX7_speak 59 = .ok (.invokevirtual 67, 3) := by decide +kernel
theorem dX7_speak_62 : decode cX7_speak 62 = .ok (.istore 9, 2) := by decide +kernel
theorem dX7_speak_64 : decode cX7_speak 64 = .ok (.aload_n 0, 1) := by decide +kernel
theorem dX7_speak_65 : decode cX7_speak 65 = .ok (.aload_n 1, 1) := by decide +kernel
theorem dX7_speak_66 : decode cX7_speak 66 = .ok (.iload_n 2, 1) := by decide +kernel
theorem dX7_speak_67 : decode cX7_speak 67 = .ok (.iload 5, 2) := by decide +kernel
theorem dX7_speak_69 : decode cX7_speak 69 = .ok (.iload_n 3, 1) := by decide +kernel
theorem dX7_speak_70 : decode cX7_speak 70 = .ok (.invokevirtual 122, 3) := by decide +kernel
theorem dX7_speak_73 : decode cX7_speak 73 = .ok (.istore 10, 2) := by decide +kernel
theorem dX7_speak_75 : decode cX7_speak 75 = .ok (.iload 7, 2) := by decide +kernel
theorem dX7_speak_77 : decode cX7_speak 77 = .ok (.invokestatic 71, 3) := by decide +kernel
theorem dX7_speak_80 : decode cX7_speak 80 = .ok (.istore 11, 2) := by decide +kernel
theorem dX7_speak_82 : decode cX7_speak 82 = .ok (.iload 9, 2) := by decide +kernel
theorem dX7_speak_84 : decode cX7_speak 84 = .ok (.invokestatic 71, 3) := by decide +kernel
theorem dX7_speak_87 : decode cX7_speak 87 = .ok (.istore 12, 2) := by decide +kernel
theorem dX7_speak_89 : decode cX7_speak 89 = .ok (.aload_n 1, 1) := by decide +kernel
theorem dX7_speak_90 : decode cX7_speak 90 = .ok (.iconst 4, 1) := by decide +kernel
theorem dX7_speak_91 : decode cX7_speak 91 = .ok (.iload 6, 2) := by decide +kernel
theorem dX7_speak_93 : decode cX7_speak 93 = .ok (.iadd, 1) := by decide +kernel
theorem dX7_speak_94 : decode cX7_speak 94 = .ok (.aload_n 0, 1) := by decide +kernel
theorem dX7_speak_95 : decode cX7_speak 95 = .ok (.aload_n 1, 1) := by decide +kernel
theorem dX7_speak_96 : decode cX7_speak 96 = .ok (.iload 6, 2) := by decide +kernel
theorem dX7_speak_98 : decode cX7_speak 98 = .ok (.iload 9, 2) := by decide +kernel
theorem dX7_speak_100 : decode cX7_speak 100 = .ok (.invokevirtual 126, 3) := by decide +kernel
theorem dX7_speak_103 : decode cX7_speak 103 = .ok (.iastore, 1) := by decide +kernel
theorem dX7_speak_104 : decode cX7_speak 104 = .ok (.aload_n 1, 1) := by decide +kernel
theorem dX7_speak_105 : decode cX7_speak 105 = .ok (.bipush 10, 2) := by decide +kernel
theorem dX7_speak_107 : decode cX7_speak 107 = .ok (.iload 6, 2) := by decide +kernel
theorem dX7_speak_109 : decode cX7_speak 109 = .ok (.iadd, 1) := by decide +kernel
theorem dX7_speak_110 : decode cX7_speak 110 = .ok (.dup2, 1) := by decide +kernel
theorem dX7_speak_111 : decode cX7_speak 111 = .ok (.iaload, 1) := by decide +kernel
theorem dX7_speak_112 : decode cX7_speak 112 = .ok (.iload 12, 2) := by decide +kernel
theorem dX7_speak_114 : decode cX7_speak 114 = .ok (.iadd, 1) := by decide +kernel
theorem dX7_speak_115 : decode cX7_speak 115 = .ok (.iastore, 1) := by decide +kernel
theorem dX7_speak_116 : decode cX7_speak 116 = .ok (.aload_n 1, 1) := by decide +kernel
theorem dX7_speak_117 : decode cX7_speak 117 = .ok (.iconst 2, 1) := by decide +kernel
theorem dX7_speak_118 : decode cX7_speak 118 = .ok (.dup2, 1) := by decide +kernel
theorem dX7_speak_119 : decode cX7_speak 119 = .ok (.iaload, 1) := by decide +kernel
theorem dX7_speak_120 : decode cX7_speak 120 = .ok (.iload 12, 2) := by decide +kernel
theorem dX7_speak_122 : decode cX7_speak 122 = .ok (.iadd, 1) := by decide +kernel
theorem dX7_speak_123 : decode cX7_speak 123 = .ok (.iastore, 1) := by decide +kernel
theorem dX7_speak_124 : decode cX7_speak 124 = .ok (.aload_n 1, 1) := by decide +kernel
theorem dX7_speak_125 : decode cX7_speak 125 = .ok (.iconst 1, 1) := by decide +kernel
theorem dX7_speak_126 : decode cX7_speak 126 = .ok (.dup2, 1) := by decide +kernel
theorem dX7_speak_127 : decode cX7_speak 127 = .ok (.iaload, 1) := by decide +kernel
theorem dX7_speak_128 : decode cX7_speak 128 = .ok (.iload 11, 2) := by decide +kernel
theorem dX7_speak_130 : decode cX7_speak 130 = .ok (.iadd, 1) := by decide +kernel
theorem dX7_speak_131 : decode cX7_speak 131 = .ok (.iastore, 1) := by decide +kernel
theorem dX7_speak_132 : decode cX7_speak 132 = .ok (.aload_n 1, 1) := by decide +kernel
theorem dX7_speak_133 : decode cX7_speak 133 = .ok (.bipush 22, 2) := by decide +kernel
theorem dX7_speak_135 : decode cX7_speak 135 = .ok (.iload_n 2, 1) := by decide +kernel
theorem dX7_speak_136 : decode cX7_speak 136 = .ok (.iadd, 1) := by decide +kernel
theorem dX7_speak_137 : decode cX7_speak 137 = .ok (.dup2, 1) := by decide +kernel
theorem dX7_speak_138 : decode cX7_speak 138 = .ok (.iaload, 1) := by decide +kernel
theorem dX7_speak_139 : decode cX7_speak 139 = .ok (.iload 11, 2) := by decide +kernel
theorem dX7_speak_141 : decode cX7_speak 141 = .ok (.aload_n 0, 1) := by decide +kernel
theorem dX7_speak_142 : decode cX7_speak 142 = .ok (.getfield 9, 3) := by decide +kernel
theorem dX7_speak_145 : decode cX7_speak 145 = .ok (.getfield 53, 3) := by decide +kernel
theorem dX7_speak_148 : decode cX7_speak 148 = .ok (.iload_n 3, 1) := by decide +kernel
theorem dX7_speak_149 : decode cX7_speak 149 = .ok (.iaload, 1) := by decide +kernel
theorem dX7_speak_150 : decode cX7_speak 150 = .ok (.imul, 1) := by decide +kernel
theorem dX7_speak_151 : decode cX7_speak 151 = .ok (.iadd, 1) := by decide +kernel
theorem dX7_speak_152 : decode cX7_speak 152 = .ok (.iastore, 1) := by decide +kernel
theorem dX7_speak_153 : decode cX7_speak 153 = .ok (.aload_n 1, 1) := by decide +kernel
theorem dX7_speak_154 : decode cX7_speak 154 = .ok (.bipush 40, 2) := by decide +kernel
theorem dX7_speak_156 : decode cX7_speak 156 = .ok (.iload_n 3, 1) := by decide +kernel
theorem dX7_speak_157 : decode cX7_speak 157 = .ok (.iadd, 1) := by decide +kernel
theorem dX7_speak_158 : decode cX7_speak 158 = .ok (.dup2, 1) := by decide +kernel
theorem dX7_speak_159 : decode cX7_speak 159 = .ok (.iaload, 1) := by decide +kernel
theorem dX7_speak_160 : decode cX7_speak 160 = .ok (.iload 11, 2) := by decide +kernel
theorem dX7_speak_162 : decode cX7_speak 162 = .ok (.aload_n 0, 1) := by decide +kernel
theorem dX7_speak_163 : decode cX7_speak 163 = .ok (.getfield 9, 3) := by decide +kernel
theorem dX7_speak_166 : decode cX7_speak 166 = .ok (.getfield 53, 3) := by decide +kernel
theorem dX7_speak_169 : decode cX7_speak 169 = .ok (.iload_n 3, 1) := by decide +kernel
theorem dX7_speak_170 : decode cX7_speak 170 = .ok (.iaload, 1) := by decide +kernel
theorem dX7_speak_171 : decode cX7_speak 171 = .ok (.imul, 1) := by decide +kernel
theorem dX7_speak_172 : decode cX7_speak 172 = .ok (.iadd, 1) := by decide +kernel
theorem dX7_speak_173 : decode cX7_speak 173 = .ok (.iastore, 1) := by decide +kernel
theorem dX7_speak_174 : decode cX7_speak 174 = .ok (.aload_n 1, 1) := by decide +kernel
theorem dX7_speak_175 : decode cX7_speak 175 = .ok (.bipush 28, 2) := by decide +kernel
theorem dX7_speak_177 : decode cX7_speak 177 = .ok (.iload_n 3, 1) := by decide +kernel
theorem dX7_speak_178 : decode cX7_speak 178 = .ok (.iadd, 1) := by decide +kernel
theorem dX7_speak_179 : decode cX7_speak 179 = .ok (.bipush 99, 2) := by decide +kernel
theorem dX7_speak_181 : decode cX7_speak 181 = .ok (.aload_n 1, 1) := by decide +kernel
theorem dX7_speak_182 : decode cX7_speak 182 = .ok (.bipush 28, 2) := by decide +kernel
theorem dX7_speak_184 : decode cX7_speak 184 = .ok (.iload_n 3, 1) := by decide +kernel
theorem dX7_speak_185 : decode cX7_speak 185 = .ok (.iadd, 1) := by decide +kernel
theorem dX7_speak_186 : decode cX7_speak 186 = .ok (.iaload, 1) := by decide +kernel
theorem dX7_speak_187 : decode cX7_speak 187 = .ok (.iload 11, 2) := by decide +kernel
theorem dX7_speak_189 : decode cX7_speak 189 = .ok (.iadd, 1) := by decide +kernel
theorem dX7_speak_190 : decode cX7_speak 190 = .ok (.invokestatic 130, 3) := by decide +kernel
theorem dX7_speak_193 : decode cX7_speak 193 = .ok (.iastore, 1) := by decide +kernel
theorem dX7_speak_194 : decode cX7_speak 194 = .ok (.aload_n 1, 1) := by decide +kernel
theorem dX7_speak_195 : decode cX7_speak 195 = .ok (.bipush 32, 2) := by decide +kernel
theorem dX7_speak_197 : decode cX7_speak 197 = .ok (.iload_n 3, 1) := by decide +kernel
theorem dX7_speak_198 : decode cX7_speak 198 = .ok (.iadd, 1) := by decide +kernel
theorem dX7_speak_199 : decode cX7_speak 199 = .ok (.bipush 99, 2) := by decide +kernel
theorem dX7_speak_201 : decode cX7_speak 201 = .ok (.aload_n 1, 1) := by decide +kernel
theorem dX7_speak_202 : decode cX7_speak 202 = .ok (.bipush 32, 2) := by decide +kernel
theorem dX7_speak_204 : decode cX7_speak 204 = .ok (.iload_n 3, 1) := by decide +kernel
theorem dX7_speak_205 : decode cX7_speak 205 = .ok (.iadd, 1) := by decide +kernel
theorem dX7_speak_206 : decode cX7_speak 206 = .ok (.iaload, 1) := by decide +kernel
theorem dX7_speak_207 : decode cX7_speak 207 = .ok (.iload 10, 2) := by decide +kernel
theorem dX7_speak_209 : decode cX7_speak 209 = .ok (.iadd, 1) := by decide +kernel
theorem dX7_speak_210 : decode cX7_speak 210 = .ok (.invokestatic 130, 3) := by decide +kernel
theorem dX7_speak_213 : decode cX7_speak 213 = .ok (.iastore, 1) := by decide +kernel
theorem dX7_speak_214 : decode cX7_speak 214 = .ok (.aload_n 1, 1) := by decide +kernel
theorem dX7_speak_215 : decode cX7_speak 215 = .ok (.bipush 36, 2) := by decide +kernel
theorem dX7_speak_217 : decode cX7_speak 217 = .ok (.iload_n 3, 1) := by decide +kernel
theorem dX7_speak_218 : decode cX7_speak 218 = .ok (.iadd, 1) := by decide +kernel
theorem dX7_speak_219 : decode cX7_speak 219 = .ok (.iaload, 1) := by decide +kernel
theorem dX7_speak_220 : decode cX7_speak 220 = .ok (.ifCond .eq 43, 3) := by decide +kernel
theorem dX7_speak_223 : decode cX7_speak 223 = .ok (.iload 9, 2) := by decide +kernel
theorem dX7_speak_225 : decode cX7_speak 225 = .ok (.iload 7, 2) := by decide +kernel
theorem dX7_speak_227 : decode cX7_speak 227 = .ok (.if_icmp .eq 36, 3) := by decide +kernel
theorem dX7_speak_230 : decode cX7_speak 230 = .ok (.aload_n 1, 1) := by decide +kernel
theorem dX7_speak_231 : decode cX7_speak 231 = .ok (.bipush 40, 2) := by decide +kernel
theorem dX7_speak_233 : decode cX7_speak 233 = .ok (.iload_n 3, 1) := by decide +kernel
theorem dX7_speak_234 : decode cX7_speak 234 = .ok (.iadd, 1) := by decide +kernel
theorem dX7_speak_235 : decode cX7_speak 235 = .ok (.dup2, 1) := by decide +kernel
theorem dX7_speak_236 : decode cX7_speak 236 = .ok (.iaload, 1) := by decide +kernel
theorem dX7_speak_237 : decode cX7_speak 237 = .ok (.aload_n 0, 1) := by decide +kernel
theorem dX7_speak_238 : decode cX7_speak 238 = .ok (.getfield 9, 3) := by decide +kernel
theorem dX7_speak_241 : decode cX7_speak 241 = .ok (.getfield 135, 3) := by decide +kernel
theorem dX7_speak_244 : decode cX7_speak 244 = .ok (.isub, 1) := by decide +kernel
theorem dX7_speak_245 : decode cX7_speak 245 = .ok (.iastore, 1) := by decide +kernel
theorem dX7_speak_246 : decode cX7_speak 246 = .ok (.aload_n 1, 1) := by decide +kernel
theorem dX7_speak_247 : decode cX7_speak 247 = .ok (.bipush 44, 2) := by decide +kernel
theorem dX7_speak_249 : decode cX7_speak 249 = .ok (.iload_n 3, 1) := by decide +kernel
theorem dX7_speak_250 : decode cX7_speak 250 = .ok (.iadd, 1) := by decide +kernel
theorem dX7_speak_251 : decode cX7_speak 251 = .ok (.dup2, 1) := by decide +kernel
theorem dX7_speak_252 : decode cX7_speak 252 = .ok (.iaload, 1) := by decide +kernel
theorem dX7_speak_253 : decode cX7_speak 253 = .ok (.iconst 1, 1) := by decide +kernel
theorem dX7_speak_254 : decode cX7_speak 254 = .ok (.iadd, 1) := by decide +kernel
theorem dX7_speak_255 : decode cX7_speak 255 = .ok (.iastore, 1) := by decide +kernel
theorem dX7_speak_256 : decode cX7_speak 256 = .ok (.aload_n 1, 1) := by decide +kernel
theorem dX7_speak_257 : decode cX7_speak 257 = .ok (.iconst 3, 1) := by decide +kernel
theorem dX7_speak_258 : decode cX7_speak 258 = .ok (.dup2, 1) := by decide +kernel
theorem dX7_speak_259 : decode cX7_speak 259 = .ok (.iaload, 1) := by decide +kernel
theorem dX7_speak_260 : decode cX7_speak 260 = .ok (.iconst 1, 1) := by decide +kernel
theorem dX7_speak_261 : decode cX7_speak 261 = .ok (.iadd, 1) := by decide +kernel
theorem dX7_speak_262 : decode cX7_speak 262 = .ok (.iastore, 1) := by decide +kernel
theorem dX7_speak_263 : decode cX7_speak 263 = .ok (.return_, 1) := by decide +kernel
theorem dX7_newLove_0 : decode cX7_newLove 0 = .ok (.aload_n 0, 1) := by decide +kernel
theorem dX7_newLove_1 : decode cX7_newLove 1 = .ok (.aload_n 1, 1) := by decide +kernel
theorem dX7_newLove_2 : decode cX7_newLove 2 = .ok (.iload 4, 2) := by decide +kernel
theorem dX7_newLove_4 : decode cX7_newLove 4 = .ok (.invokevirtual 49, 3) := by decide +kernel
theorem dX7_newLove_7 : decode cX7_newLove 7 = .ok (.aload_n 0, 1) := by decide +kernel
theorem dX7_newLove_8 : decode cX7_newLove 8 = .ok (.getfield 21, 3) := by decide +kernel
theorem dX7_newLove_11 : decode cX7_newLove 11 = .ok (.iconst 2, 1) := by decide +kernel
theorem dX7_newLove_12 : decode cX7_newLove 12 = .ok (.aload_n 1, 1) := by decide +kernel
theorem dX7_newLove_13 : decode cX7_newLove 13 = .ok (.iconst 4, 1) := by decide +kernel
theorem dX7_newLove_14 : decode cX7_newLove 14 = .ok (.iload_n 3, 1) := by decide +kernel
theorem dX7_newLove_15 : decode cX7_newLove 15 = .ok (.iadd, 1) := by decide +kernel
theorem dX7_newLove_16 : decode cX7_newLove 16 = .ok (.iaload, 1) := by decide +kernel
theorem dX7_newLove_17 : decode cX7_newLove 17 = .ok (.invokevirtual 28, 3) := by decide +kernel
theorem dX7_newLove_20 : decode cX7_newLove 20 = .ok (.aload_n 0, 1) := by decide +kernel
theorem dX7_newLove_21 : decode cX7_newLove 21 = .ok (.getfield 21, 3) := by decide +kernel
theorem dX7_newLove_24 : decode cX7_newLove 24 = .ok (.iconst 5, 1) := by decide +kernel
theorem dX7_newLove_25 : decode cX7_newLove 25 = .ok (.iload_n 2, 1) := by decide +kernel
theorem dX7_newLove_26 : decode cX7_newLove 26 = .ok (.invokevirtual 28, 3) := by decide +kernel
theorem dX7_newLove_29 : decode cX7_newLove 29 = .ok (.aload_n 0, 1) := by decide +kernel
theorem dX7_newLove_30 : decode cX7_newLove 30 = .ok (.getfield 21, 3) := by decide +kernel
theorem dX7_newLove_33 : decode cX7_newLove 33 = .ok (.iconst 5, 1) := by decide +kernel
theorem dX7_newLove_34 : decode cX7_newLove 34 = .ok (.invokevirtual 32, 3) := by decide +kernel
theorem dX7_newLove_37 : decode cX7_newLove 37 = .ok (.iconst 0, 1) := by decide +kernel
theorem dX7_newLove_38 : decode cX7_newLove 38 = .ok (.bipush 9, 2) := by decide +kernel
theorem dX7_newLove_40 : decode cX7_newLove 40 = .ok (.invokestatic 36, 3) := by decide +kernel
theorem dX7_newLove_43 : decode cX7_newLove 43 = .ok (.ireturn, 1) := by decide +kernel
theorem dX7_keepSilent_0 : decode cX7_keepSilent 0 = .ok (.aload_n 0, 1) := by decide +kernel
theorem dX7_keepSilent_1 : decode cX7_keepSilent 1 = .ok (.aload_n 1, 1) := by decide +kernel
theorem dX7_keepSilent_2 : decode cX7_keepSilent 2 = .ok (.iload_n 2, 1) := by decide +kernel
theorem dX7_keepSilent_3 : decode cX7_keepSilent 3 = .ok (.invokevirtual 109, 3) := by decide +kernel
theorem dX7_keepSilent_6 : decode cX7_keepSilent 6 = .ok (.istore_n 3, 1) := by decide +kernel
theorem dX7_keepSilent_7 : decode cX7_keepSilent 7 = .ok (.aload_n 0, 1) := by decide +kernel
theorem dX7_keepSilent_8 : decode cX7_keepSilent 8 = .ok (.aload_n 1, 1) := by decide +kernel
theorem dX7_keepSilent_9 : decode cX7_keepSilent 9 = .ok (.iload_n 2, 1) := by decide +kernel
theorem dX7_keepSilent_10 : decode cX7_keepSilent 10 = .ok (.invokevirtual 113, 3) := by decide +kernel
theorem dX7_keepSilent_13 : decode cX7_keepSilent 13 = .ok (.istore 4, 2) := by decide +kernel
theorem dX7_keepSilent_15 : decode cX7_keepSilent 15 = .ok (.aload_n 1, 1) := by decide +kernel
theorem dX7_keepSilent_16 : decode cX7_keepSilent 16 = .ok (.iconst 4, 1) := by decide +kernel
theorem dX7_keepSilent_17 : decode cX7_keepSilent 17 = .ok (.iload_n 3, 1) := by decide +kernel
theorem dX7_keepSilent_18 : decode cX7_keepSilent 18 = .ok (.iadd, 1) := by decide +kernel
theorem dX7_keepSilent_19 : decode cX7_keepSilent 19 = .ok (.iconst 0, 1) := by decide +kernel
theorem dX7_keepSilent_20 : decode cX7_keepSilent 20 = .ok (.aload_n 1, 1) := by decide +kernel
theorem dX7_keepSilent_21 : decode cX7_keepSilent 21 = .ok (.iconst 4, 1) := by decide +kernel
theorem dX7_keepSilent_22 : decode cX7_keepSilent 22 = .ok (.iload_n 3, 1) := by decide +kernel
theorem dX7_keepSilent_23 : decode cX7_keepSilent 23 = .ok (.iadd, 1) := by decide +kernel
theorem dX7_keepSilent_24 : decode cX7_keepSilent 24 = .ok (.iaload, 1) := by decide +kernel
theorem dX7_keepSilent_25 : decode cX7_keepSilent 25 = .ok (.iconst 1, 1) := by decide +kernel
theorem dX7_keepSilent_26 : decode cX7_keepSilent 26 = .ok (.isub, 1) := by decide +kernel
theorem dX7_keepSilent_27 : decode cX7_keepSilent 27 = .ok (.invokestatic 138, 3) := by decide +kernel
theorem dX7_keepSilent_30 : decode cX7_keepSilent 30 = .ok (.iastore, 1) := by decide +kernel
theorem dX7_keepSilent_31 : decode cX7_keepSilent 31 = .ok (.aload_n 1, 1) := by decide +kernel
theorem dX7_keepSilent_32 : decode cX7_keepSilent 32 = .ok (.iconst 4, 1) := by decide +kernel
theorem dX7_keepSilent_33 : decode cX7_keepSilent 33 = .ok (.iload 4, 2) := by decide +kernel
theorem dX7_keepSilent_35 : decode cX7_keepSilent 35 = .ok (.iadd, 1) := by decide +kernel
theorem dX7_keepSilent_36 : decode cX7_keepSilent 36 = .ok (.iconst 0, 1) := by decide +kernel
theorem dX7_keepSilent_37 : decode cX7_keepSilent 37 = .ok (.aload_n 1, 1) := by decide +kernel
theorem dX7_keepSilent_38 : decode cX7_keepSilent 38 = .ok (.iconst 4, 1) := by decide +kernel
theorem dX7_keepSilent_39 : decode cX7_keepSilent 39 = .ok (.iload 4, 2) := by decide +kernel
theorem dX7_keepSilent_41 : decode cX7_keepSilent 41 = .ok (.iadd, 1) := by decide +kernel
theorem dX7_keepSilent_42 : decode cX7_keepSilent 42 = .ok (.iaload, 1) := by decide +kernel
theorem dX7_keepSilent_43 : decode cX7_keepSilent 43 = .ok (.iconst 1, 1) := by decide +kernel
theorem dX7_keepSilent_44 : decode cX7_keepSilent 44 = .ok (.isub, 1) := by decide +kernel
theorem dX7_keepSilent_45 : decode cX7_keepSilent 45 = .ok (.invokestatic 138, 3) := by decide +kernel
theorem dX7_keepSilent_48 : decode cX7_keepSilent 48 = .ok (.iastore, 1) := by decide +kernel
theorem dX7_keepSilent_49 : decode cX7_keepSilent 49 = .ok (.aload_n 1, 1) := by decide +kernel
theorem dX7_keepSilent_50 : decode cX7_keepSilent 50 = .ok (.bipush 25, 2) := by decide +kernel
theorem dX7_keepSilent_52 : decode cX7_keepSilent 52 = .ok (.iload_n 2, 1) := by decide +kernel
theorem dX7_keepSilent_53 : decode cX7_keepSilent 53 = .ok (.iadd, 1) := by decide +kernel
theorem dX7_keepSilent_54 : decode cX7_keepSilent 54 = .ok (.dup2, 1) := by decide +kernel
theorem dX7_keepSilent_55 : decode cX7_keepSilent 55 = .ok (.iaload, 1) := by decide +kernel
theorem dX7_keepSilent_56 : decode cX7_keepSilent 56 = .ok (.iconst 1, 1) := by decide +kernel
theorem dX7_keepSilent_57 : decode cX7_keepSilent 57 = .ok (.iadd, 1) := by decide +kernel
theorem dX7_keepSilent_58 : decode cX7_keepSilent 58 = .ok (.iastore, 1) := by decide +kernel
theorem dX7_keepSilent_59 : decode cX7_keepSilent 59 = .ok (.return_, 1) := by decide +kernel
theorem dX7_partIfSad_0 : decode cX7_partIfSad 0 = .ok (.aload_n 1, 1) := by decide +kernel
theorem dX7_partIfSad_1 : decode cX7_partIfSad 1 = .ok (.iconst 4, 1) := by decide +kernel
theorem dX7_partIfSad_2 : decode cX7_partIfSad 2 = .ok (.aload_n 0, 1) := by decide +kernel
theorem dX7_partIfSad_3 : decode cX7_partIfSad 3 = .ok (.aload_n 1, 1) := by decide +kernel
theorem dX7_partIfSad_4 : decode cX7_partIfSad 4 = .ok (.iload_n 2, 1) := by decide +kernel
theorem dX7_partIfSad_5 : decode cX7_partIfSad 5 = .ok (.invokevirtual 109, 3) := by decide +kernel
theorem dX7_partIfSad_8 : decode cX7_partIfSad 8 = .ok (.iadd, 1) := by decide +kernel
theorem dX7_partIfSad_9 : decode cX7_partIfSad 9 = .ok (.iaload, 1) := by decide +kernel
theorem dX7_partIfSad_10 : decode cX7_partIfSad 10 = .ok (.ifCond .ne 7, 3) := by decide +kernel
theorem dX7_partIfSad_13 : decode cX7_partIfSad 13 = .ok (.iconst 1, 1) := by decide +kernel
theorem dX7_partIfSad_14 : decode cX7_partIfSad 14 = .ok (.goto 4, 3) := by decide +kernel
theorem dX7_partIfSad_17 : decode cX7_partIfSad 17 = .ok (.iconst 0, 1) := by decide +kernel
theorem dX7_partIfSad_18 : decode cX7_partIfSad 18 = .ok (.istore_n 3, 1) := by decide +kernel
theorem dX7_partIfSad_19 : decode cX7_partIfSad 19 = .ok (.aload_n 1, 1) := by decide +kernel
theorem dX7_partIfSad_20 : decode cX7_partIfSad 20 = .ok (.iconst 4, 1) := by decide +kernel
theorem dX7_partIfSad_21 : decode cX7_partIfSad 21 = .ok (.aload_n 0, 1) := by decide +kernel
theorem dX7_partIfSad_22 : decode cX7_partIfSad 22 = .ok (.aload_n 1, 1) := by decide +kernel
theorem dX7_partIfSad_23 : decode cX7_partIfSad 23 = .ok (.iload_n 2, 1) := by decide +kernel
theorem dX7_partIfSad_24 : decode cX7_partIfSad 24 = .ok (.invokevirtual 113, 3) := by decide +kernel
theorem dX7_partIfSad_27 : decode cX7_partIfSad 27 = .ok (.iadd, 1) := by decide +kernel
theorem dX7_partIfSad_28 : decode cX7_partIfSad 28 = .ok (.iaload, 1) := by decide +kernel
theorem dX7_partIfSad_29 : decode cX7_partIfSad 29 = .ok (.ifCond .ne 7, 3) := by decide +kernel
theorem dX7_partIfSad_32 : decode cX7_partIfSad 32 = .ok (.iconst 1, 1) := by decide +kernel
theorem dX7_partIfSad_33 : decode cX7_partIfSad 33 = .ok (.goto 4, 3) := by decide +kernel
theorem dX7_partIfSad_36 : decode cX7_partIfSad 36 = .ok (.iconst 0, 1) := by decide +kernel
theorem dX7_partIfSad_37 : decode cX7_partIfSad 37 = .ok (.istore 4, 2) := by decide +kernel
theorem dX7_partIfSad_39 : decode cX7_partIfSad 39 = .ok (.iload_n 3, 1) := by decide +kernel
theorem dX7_partIfSad_40 : decode cX7_partIfSad 40 = .ok (.ifCond .ne 8, 3) := by decide +kernel
theorem dX7_partIfSad_43 : decode cX7_partIfSad 43 = .ok (.iload 4, 2) := by decide +kernel
theorem dX7_partIfSad_45 : decode cX7_partIfSad 45 = .ok (.ifCond .eq 17, 3) := by decide +kernel
theorem dX7_partIfSad_48 : decode cX7_partIfSad 48 = .ok (.aload_n 1, 1) := by decide +kernel
theorem dX7_partIfSad_49 : decode cX7_partIfSad 49 = .ok (.bipush 19, 2) := by decide +kernel
theorem dX7_partIfSad_51 : decode cX7_partIfSad 51 = .ok (.iload_n 2, 1) := by decide +kernel
theorem dX7_partIfSad_52 : decode cX7_partIfSad 52 = .ok (.iadd, 1) := by decide +kernel
theorem dX7_partIfSad_53 : decode cX7_partIfSad 53 = .ok (.iconst 1, 1) := by decide +kernel
theorem dX7_partIfSad_54 : decode cX7_partIfSad 54 = .ok (.iastore, 1) := by decide +kernel
theorem dX7_partIfSad_55 : decode cX7_partIfSad 55 = .ok (.aload_n 1, 1) := by decide +kernel
theorem dX7_partIfSad_56 : decode cX7_partIfSad 56 = .ok (.bipush 16, 2) := by decide +kernel
theorem dX7_partIfSad_58 : decode cX7_partIfSad 58 = .ok (.iload_n 2, 1) := by decide +kernel
theorem dX7_partIfSad_59 : decode cX7_partIfSad 59 = .ok (.iadd, 1) := by decide +kernel
theorem dX7_partIfSad_60 : decode cX7_partIfSad 60 = .ok (.iconst (-1), 1) := by decide +kernel
theorem dX7_partIfSad_61 : decode cX7_partIfSad 61 = .ok (.iastore, 1) := by decide +kernel
theorem dX7_partIfSad_62 : decode cX7_partIfSad 62 = .ok (.return_, 1) := by decide +kernel
theorem dX7_restThirds_0 : decode cX7_restThirds 0 = .ok (.iconst 0, 1) := by decide +kernel
theorem dX7_restThirds_1 : decode cX7_restThirds 1 = .ok (.istore_n 2, 1) := by decide +kernel
theorem dX7_restThirds_2 : decode cX7_restThirds 2 = .ok (.iload_n 2, 1) := by decide +kernel
theorem dX7_restThirds_3 : decode cX7_restThirds 3 = .ok (.aload_n 0, 1) := by decide +kernel
theorem dX7_restThirds_4 : decode cX7_restThirds 4 = .ok (.getfield 9, 3) := by decide +kernel
theorem dX7_restThirds_7 : decode cX7_restThirds 7 = .ok (.getfield 141, 3) := by decide +kernel
theorem dX7_restThirds_10 : decode cX7_restThirds 10 = .ok (.if_icmp .ge 73, 3) := by decide +kernel
theorem dX7_restThirds_13 : decode cX7_restThirds 13 = .ok (.iconst 0, 1) := by decide +kernel
theorem dX7_restThirds_14 : decode cX7_restThirds 14 = .ok (.istore_n 3, 1) := by decide +kernel
theorem dX7_restThirds_15 : decode cX7_restThirds 15 = .ok (.iconst 0, 1) := by decide +kernel
theorem dX7_restThirds_16 : decode cX7_restThirds 16 = .ok (.istore 4, 2) := by decide +kernel
theorem dX7_restThirds_18 : decode cX7_restThirds 18 = .ok (.iload 4, 2) := by decide +kernel
theorem dX7_restThirds_20 : decode cX7_restThirds 20 = .ok (.aload_n 0, 1) := by decide +kernel
theorem dX7_restThirds_21 : decode cX7_restThirds 21 = .ok (.getfield 9, 3) := by decide +kernel
theorem dX7_restThirds_24 : decode cX7_restThirds 24 = .ok (.getfield 87, 3) := by decide +kernel
theorem dX7_restThirds_27 : decode cX7_restThirds 27 = .ok (.if_icmp .ge 28, 3) := by decide +kernel
theorem dX7_restThirds_30 : decode cX7_restThirds 30 = .ok (.iload_n 3, 1) := by decide +kernel
theorem dX7_restThirds_31 : decode cX7_restThirds 31 = .ok (.aload_n 1, 1) := by decide +kernel
theorem dX7_restThirds_32 : decode cX7_restThirds 32 = .ok (.bipush 16, 2) := by decide +kernel
theorem dX7_restThirds_34 : decode cX7_restThirds 34 = .ok (.iload 4, 2) := by decide +kernel
theorem dX7_restThirds_36 : decode cX7_restThirds 36 = .ok (.iadd, 1) := by decide +kernel
theorem dX7_restThirds_37 : decode cX7_restThirds 37 = .ok (.iaload, 1) := by decide +kernel
theorem dX7_restThirds_38 : decode cX7_restThirds 38 = .ok (.iload_n 2, 1) := by decide +kernel
theorem dX7_restThirds_39 : decode cX7_restThirds 39 = .ok (.if_icmp .ne 7, 3) := by decide +kernel
theorem dX7_restThirds_42 : decode cX7_restThirds 42 = .ok (.iconst 1, 1) := by decide +kernel
theorem dX7_restThirds_43 : decode cX7_restThirds 43 = .ok (.goto 4, 3) := by decide +kernel
theorem dX7_restThirds_46 : decode cX7_restThirds 46 = .ok (.iconst 0, 1) := by decide +kernel
theorem dX7_restThirds_47 : decode cX7_restThirds 47 = .ok (.ior, 1) := by decide +kernel
theorem dX7_restThirds_48 : decode cX7_restThirds 48 = .ok (.istore_n 3, 1) := by decide +kernel
theorem dX7_restThirds_49 : decode cX7_restThirds 49 = .ok (.iinc 4 1, 3) := by decide +kernel
theorem dX7_restThirds_52 : decode cX7_restThirds 52 = .ok (.goto (-34), 3) := by decide +kernel
theorem dX7_restThirds_55 : decode cX7_restThirds 55 = .ok (.iload_n 3, 1) := by decide +kernel
theorem dX7_restThirds_56 : decode cX7_restThirds 56 = .ok (.ifCond .ne 21, 3) := by decide +kernel
theorem dX7_restThirds_59 : decode cX7_restThirds 59 = .ok (.aload_n 1, 1) := by decide +kernel
theorem dX7_restThirds_60 : decode cX7_restThirds 60 = .ok (.bipush 28, 2) := by decide +kernel
theorem dX7_restThirds_62 : decode cX7_restThirds 62 = .ok (.iload_n 2, 1) := by decide +kernel
theorem dX7_restThirds_63 : decode cX7_restThirds 63 = .ok (.iadd, 1) := by decide +kernel
theorem dX7_restThirds_64 : decode cX7_restThirds 64 = .ok (.iconst 0, 1) := by decide +kernel
theorem dX7_restThirds_65 : decode cX7_restThirds 65 = .ok (.aload_n 1, 1) := by decide +kernel
theorem dX7_restThirds_66 : decode cX7_restThirds 66 = .ok (.bipush 28, 2) := by decide +kernel
theorem dX7_restThirds_68 : decode cX7_restThirds 68 = .ok (.iload_n 2, 1) := by decide +kernel
theorem dX7_restThirds_69 : decode cX7_restThirds 69 = .ok (.iadd, 1) := by decide +kernel
theorem dX7_restThirds_70 : decode cX7_restThirds 70 = .ok (.iaload, 1) := by decide +kernel
theorem dX7_restThirds_71 : decode cX7_restThirds 71 = .ok (.iconst 5, 1) := by decide +kernel
theorem dX7_restThirds_72 : decode cX7_restThirds 72 = .ok (.isub, 1) := by decide +kernel
theorem dX7_restThirds_73 : decode cX7_restThirds 73 = .ok (.invokestatic 138, 3) := by decide +kernel
theorem dX7_restThirds_76 : decode cX7_restThirds 76 = .ok (.iastore, 1) := by decide +kernel
theorem dX7_restThirds_77 : decode cX7_restThirds 77 = .ok (.iinc 2 1, 3) := by decide +kernel
theorem dX7_restThirds_80 : decode cX7_restThirds 80 = .ok (.goto (-78), 3) := by decide +kernel
theorem dX7_restThirds_83 : decode cX7_restThirds 83 = .ok (.return_, 1) := by decide +kernel
theorem dX8_init_0 : decode cX8_init 0 = .ok (.aload_n 0, 1) := by decide +kernel
theorem dX8_init_1 : decode cX8_init 1 = .ok (.invokespecial 3, 3) := by decide +kernel
theorem dX8_init_4 : decode cX8_init 4 = .ok (.aload_n 0, 1) := by decide +kernel
theorem dX8_init_5 : decode cX8_init 5 = .ok (.new 9, 3) := by decide +kernel
theorem dX8_init_8 : decode cX8_init 8 = .ok (.dup, 1) := by decide +kernel
theorem dX8_init_9 : decode cX8_init 9 = .ok (.invokespecial 11, 3) := by decide +kernel
theorem dX8_init_12 : decode cX8_init 12 = .ok (.putfield 12, 3) := by decide +kernel
theorem dX8_init_15 : decode cX8_init 15 = .ok (.aload_n 0, 1) := by decide +kernel
theorem dX8_init_16 : decode cX8_init 16 = .ok (.bipush 6, 2) := by decide +kernel
theorem dX8_init_18 : decode cX8_init 18 = .ok (.newarray .int, 2) := by decide +kernel
theorem dX8_init_20 : decode cX8_init 20 = .ok (.putfield 18, 3) := by decide +kernel
theorem dX8_init_23 : decode cX8_init 23 = .ok (.aload_n 0, 1) := by decide +kernel
theorem dX8_init_24 : decode cX8_init 24 = .ok (.bipush 6, 2) := by decide +kernel
theorem dX8_init_26 : decode cX8_init 26 = .ok (.newarray .int, 2) := by decide +kernel
theorem dX8_init_28 : decode cX8_init 28 = .ok (.putfield 22, 3) := by decide +kernel
theorem dX8_init_31 : decode cX8_init 31 = .ok (.aload_n 0, 1) := by decide +kernel
theorem dX8_init_32 : decode cX8_init 32 = .ok (.bipush 6, 2) := by decide +kernel
theorem dX8_init_34 : decode cX8_init 34 = .ok (.newarray .int, 2) := by decide +kernel
theorem dX8_init_36 : decode cX8_init 36 = .ok (.putfield 25, 3) := by decide +kernel
theorem dX8_init_39 : decode cX8_init 39 = .ok (.aload_n 0, 1) := by decide +kernel
theorem dX8_init_40 : decode cX8_init 40 = .ok (.iconst 4, 1) := by decide +kernel
theorem dX8_init_41 : decode cX8_init 41 = .ok (.newarray .int, 2) := by decide +kernel
theorem dX8_init_43 : decode cX8_init 43 = .ok (.putfield 28, 3) := by decide +kernel
theorem dX8_init_46 : decode cX8_init 46 = .ok (.aload_n 0, 1) := by decide +kernel
theorem dX8_init_47 : decode cX8_init 47 = .ok (.iconst 4, 1) := by decide +kernel
theorem dX8_init_48 : decode cX8_init 48 = .ok (.newarray .int, 2) := by decide +kernel
theorem dX8_init_50 : decode cX8_init 50 = .ok (.putfield 31, 3) := by decide +kernel
theorem dX8_init_53 : decode cX8_init 53 = .ok (.return_, 1) := by decide +kernel
theorem dX8_clear_0 : decode cX8_clear 0 = .ok (.aload_n 0, 1) := by decide +kernel
theorem dX8_clear_1 : decode cX8_clear 1 = .ok (.getfield 12, 3) := by decide +kernel
theorem dX8_clear_4 : decode cX8_clear 4 = .ok (.invokevirtual 34, 3) := by decide +kernel
theorem dX8_clear_7 : decode cX8_clear 7 = .ok (.aload_n 0, 1) := by decide +kernel
theorem dX8_clear_8 : decode cX8_clear 8 = .ok (.iconst 0, 1) := by decide +kernel
theorem dX8_clear_9 : decode cX8_clear 9 = .ok (.putfield 37, 3) := by decide +kernel
theorem dX8_clear_12 : decode cX8_clear 12 = .ok (.aload_n 0, 1) := by decide +kernel
theorem dX8_clear_13 : decode cX8_clear 13 = .ok (.iconst 0, 1) := by decide +kernel
theorem dX8_clear_14 : decode cX8_clear 14 = .ok (.putfield 41, 3) := by decide +kernel
theorem dX8_clear_17 : decode cX8_clear 17 = .ok (.aload_n 0, 1) := by decide +kernel
theorem dX8_clear_18 : decode cX8_clear 18 = .ok (.iconst 0, 1) := by decide +kernel
theorem dX8_clear_19 : decode cX8_clear 19 = .ok (.putfield 44, 3) := by decide +kernel
theorem dX8_clear_22 : decode cX8_clear 22 = .ok (.aload_n 0, 1) := by decide +kernel
theorem dX8_clear_23 : decode cX8_clear 23 = .ok (.bipush 10, 2) := by decide +kernel
theorem dX8_clear_25 : decode cX8_clear 25 = .ok (.putfield 47, 3) := by decide +kernel
theorem dX8_clear_28 : decode cX8_clear 28 = .ok (.aload_n 0, 1) := by decide +kernel
theorem dX8_clear_29 : decode cX8_clear 29 = .ok (.iconst 0, 1) := by decide +kernel
theorem dX8_clear_30 : decode cX8_clear 30 = .ok (.putfield 50, 3) := by decide +kernel
theorem dX8_clear_33 : decode cX8_clear 33 = .ok (.return_, 1) := by decide +kernel
theorem dX8_copy_0 : decode cX8_copy 0 = .ok (.aload_n 0, 1) := by decide +kernel
theorem dX8_copy_1 : decode cX8_copy 1 = .ok (.getfield 12, 3) := by decide +kernel
theorem dX8_copy_4 : decode cX8_copy 4 = .ok (.aload_n 1, 1) := by decide +kernel
theorem dX8_copy_5 : decode cX8_copy 5 = .ok (.getfield 12, 3) := by decide +kernel
theorem dX8_copy_8 : decode cX8_copy 8 = .ok (.invokevirtual 53, 3) := by decide +kernel
theorem dX8_copy_11 : decode cX8_copy 11 = .ok (.aload_n 1, 1) := by decide +kernel
theorem dX8_copy_12 : decode cX8_copy 12 = .ok (.getfield 18, 3) := by decide +kernel
theorem dX8_copy_15 : decode cX8_copy 15 = .ok (.iconst 0, 1) := by decide +kernel
theorem dX8_copy_16 : decode cX8_copy 16 = .ok (.aload_n 0, 1) := by decide +kernel
theorem dX8_copy_17 : decode cX8_copy 17 = .ok (.getfield 18, 3) := by decide +kernel
theorem dX8_copy_20 : decode cX8_copy 20 = .ok (.iconst 0, 1) := by decide +kernel
theorem dX8_copy_21 : decode cX8_copy 21 = .ok (.bipush 6, 2) := by decide +kernel
theorem dX8_copy_23 : decode cX8_copy 23 = .ok (.invokestatic 57, 3) := by decide +kernel
theorem dX8_copy_26 : decode cX8_copy 26 = .ok (.aload_n 1, 1) := by decide +kernel
theorem dX8_copy_27 : decode cX8_copy 27 = .ok (.getfield 22, 3) := by decide +kernel
theorem dX8_copy_30 : decode cX8_copy 30 = .ok (.iconst 0, 1) := by decide +kernel
theorem dX8_copy_31 : decode cX8_copy 31 = .ok (.aload_n 0, 1) := by decide +kernel
theorem dX8_copy_32 : decode cX8_copy 32 = .ok (.getfield 22, 3) := by decide +kernel
theorem dX8_copy_35 : decode cX8_copy 35 = .ok (.iconst 0, 1) := by decide +kernel
theorem dX8_copy_36 : decode cX8_copy 36 = .ok (.bipush 6, 2) := by decide +kernel
theorem dX8_copy_38 : decode cX8_copy 38 = .ok (.invokestatic 57, 3) := by decide +kernel
theorem dX8_copy_41 : decode cX8_copy 41 = .ok (.aload_n 1, 1) := by decide +kernel
theorem dX8_copy_42 : decode cX8_copy 42 = .ok (.getfield 25, 3) := by decide +kernel
theorem dX8_copy_45 : decode cX8_copy 45 = .ok (.iconst 0, 1) := by decide +kernel
theorem dX8_copy_46 : decode cX8_copy 46 = .ok (.aload_n 0, 1) := by decide +kernel
theorem dX8_copy_47 : decode cX8_copy 47 = .ok (.getfield 25, 3) := by decide +kernel
theorem dX8_copy_50 : decode cX8_copy 50 = .ok (.iconst 0, 1) := by decide +kernel
theorem dX8_copy_51 : decode cX8_copy 51 = .ok (.bipush 6, 2) := by decide +kernel
theorem dX8_copy_53 : decode cX8_copy 53 = .ok (.invokestatic 57, 3) := by decide +kernel
theorem dX8_copy_56 : decode cX8_copy 56 = .ok (.aload_n 1, 1) := by decide +kernel
theorem dX8_copy_57 : decode cX8_copy 57 = .ok (.getfield 28, 3) := by decide +kernel
theorem dX8_copy_60 : decode cX8_copy 60 = .ok (.iconst 0, 1) := by decide +kernel
theorem dX8_copy_61 : decode cX8_copy 61 = .ok (.aload_n 0, 1) := by decide +kernel
theorem dX8_copy_62 : decode cX8_copy 62 = .ok (.getfield 28, 3) := by decide +kernel
theorem dX8_copy_65 : decode cX8_copy 65 = .ok (.iconst 0, 1) := by decide +kernel
theorem dX8_copy_66 : decode cX8_copy 66 = .ok (.iconst 4, 1) := by decide +kernel
theorem dX8_copy_67 : decode cX8_copy 67 = .ok (.invokestatic 57, 3) := by decide +kernel
theorem dX8_copy_70 : decode cX8_copy 70 = .ok (.aload_n 1, 1) := by decide +kernel
theorem dX8_copy_71 : decode cX8_copy 71 = .ok (.getfield 31, 3) := by decide +kernel
theorem dX8_copy_74 : decode cX8_copy 74 = .ok (.iconst 0, 1) := by decide +kernel
theorem dX8_copy_75 : decode cX8_copy 75 = .ok (.aload_n 0, 1) := by decide +kernel
theorem dX8_copy_76 : decode cX8_copy 76 = .ok (.getfield 31, 3) := by decide +kernel
theorem dX8_copy_79 : decode cX8_copy 79 = .ok (.iconst 0, 1) := by decide +kernel
theorem dX8_copy_80 : decode cX8_copy 80 = .ok (.iconst 4, 1) := by decide +kernel
theorem dX8_copy_81 : decode cX8_copy 81 = .ok (.invokestatic 57, 3) := by decide +kernel
theorem dX8_copy_84 : decode cX8_copy 84 = .ok (.aload_n 0, 1) := by decide +kernel
theorem dX8_copy_85 : decode cX8_copy 85 = .ok (.aload_n 1, 1) := by decide +kernel
theorem dX8_copy_86 : decode cX8_copy 86 = .ok (.getfield 37, 3) := by decide +kernel
theorem dX8_copy_89 : decode cX8_copy 89 = .ok (.putfield 37, 3) := by decide +kernel
theorem dX8_copy_92 : decode cX8_copy 92 = .ok (.aload_n 0, 1) := by decide +kernel
theorem dX8_copy_93 : decode cX8_copy 93 = .ok (.aload_n 1, 1) := by decide +kernel
theorem dX8_copy_94 : decode cX8_copy 94 = .ok (.getfield 41, 3) := by decide +kernel
theorem dX8_copy_97 : decode cX8_copy 97 = .ok (.putfield 41, 3) := by decide +kernel
theorem dX8_copy_100 : decode cX8_copy 100 = .ok (.aload_n 0, 1) := by decide +kernel
theorem dX8_copy_101 : decode cX8_copy 101 = .ok (.aload_n 1, 1) := by decide +kernel
theorem dX8_copy_102 : decode cX8_copy 102 = .ok (.getfield 44, 3) := by decide +kernel
theorem dX8_copy_105 : decode cX8_copy 105 = .ok (.putfield 44, 3) := by decide +kernel
theorem dX8_copy_108 : decode cX8_copy 108 = .ok (.aload_n 0, 1) := by decide +kernel
theorem dX8_copy_109 : decode cX8_copy 109 = .ok (.aload_n 1, 1) := by decide +kernel
theorem dX8_copy_110 : decode cX8_copy 110 = .ok (.getfield 47, 3) := by decide +kernel
theorem dX8_copy_113 : decode cX8_copy 113 = .ok (.putfield 47, 3) := by decide +kernel
theorem dX8_copy_116 : decode cX8_copy 116 = .ok (.aload_n 0, 1) := by decide +kernel
theorem dX8_copy_117 : decode cX8_copy 117 = .ok (.aload_n 1, 1) := by decide +kernel
theorem dX8_copy_118 : decode cX8_copy 118 = .ok (.getfield 50, 3) := by decide +kernel
theorem dX8_copy_121 : decode cX8_copy 121 = .ok (.putfield 50, 3) := by decide +kernel
theorem dX8_copy_124 : decode cX8_copy 124 = .ok (.return_, 1) := by decide +kernel
theorem dX8_addSpouse_0 : decode cX8_addSpouse 0 = .ok (.aload_n 0, 1) := by decide +kernel
theorem dX8_addSpouse_1 : decode cX8_addSpouse 1 = .ok (.getfield 37, 3) := by decide +kernel
theorem dX8_addSpouse_4 : decode cX8_addSpouse 4 = .ok (.bipush 6, 2) := by decide +kernel
theorem dX8_addSpouse_6 : decode cX8_addSpouse 6 = .ok (.if_icmp .ge 34, 3) := by decide +kernel
theorem dX8_addSpouse_9 : decode cX8_addSpouse 9 = .ok (.aload_n 0, 1) := by decide +kernel
theorem dX8_addSpouse_10 : decode cX8_addSpouse 10 = .ok (.getfield 18, 3) := by decide +kernel
theorem dX8_addSpouse_13 : decode cX8_addSpouse 13 = .ok (.aload_n 0, 1) := by decide +kernel
theorem dX8_addSpouse_14 : decode cX8_addSpouse 14 = .ok (.getfield 37, 3) := by decide +kernel
theorem dX8_addSpouse_17 : decode cX8_addSpouse 17 = .ok (.iload_n 1, 1) := by decide +kernel
theorem dX8_addSpouse_18 : decode cX8_addSpouse 18 = .ok (.iastore, 1) := by decide +kernel
theorem dX8_addSpouse_19 : decode cX8_addSpouse 19 = .ok (.aload_n 0, 1) := by decide +kernel
theorem dX8_addSpouse_20 : decode cX8_addSpouse 20 = .ok (.getfield 22, 3) := by decide +kernel
theorem dX8_addSpouse_23 : decode cX8_addSpouse 23 = .ok (.aload_n 0, 1) := by decide +kernel
theorem dX8_addSpouse_24 : decode cX8_addSpouse 24 = .ok (.getfield 37, 3) := by decide +kernel
theorem dX8_addSpouse_27 : decode cX8_addSpouse 27 = .ok (.bipush (-2), 2) := by decide +kernel
theorem dX8_addSpouse_29 : decode cX8_addSpouse 29 = .ok (.iastore, 1) := by decide +kernel
theorem dX8_addSpouse_30 : decode cX8_addSpouse 30 = .ok (.aload_n 0, 1) := by decide +kernel
theorem dX8_addSpouse_31 : decode cX8_addSpouse 31 = .ok (.dup, 1) := by decide +kernel
theorem dX8_addSpouse_32 : decode cX8_addSpouse 32 = .ok (.getfield 37, 3) := by decide +kernel
theorem dX8_addSpouse_35 : decode cX8_addSpouse 35 = .ok (.iconst 1, 1) := by decide +kernel
theorem dX8_addSpouse_36 : decode cX8_addSpouse 36 = .ok (.iadd, 1) := by decide +kernel
theorem dX8_addSpouse_37 : decode cX8_addSpouse 37 = .ok (.putfield 37, 3) := by decide +kernel
theorem dX8_addSpouse_40 : decode cX8_addSpouse 40 = .ok (.return_, 1) := by decide +kernel
theorem dX8_addCouple_0 : decode cX8_addCouple 0 = .ok (.aload_n 0, 1) := by decide +kernel
theorem dX8_addCouple_1 : decode cX8_addCouple 1 = .ok (.getfield 41, 3) := by decide +kernel
theorem dX8_addCouple_4 : decode cX8_addCouple 4 = .ok (.iconst 3, 1) := by decide +kernel
theorem dX8_addCouple_5 : decode cX8_addCouple 5 = .ok (.if_icmp .ge 75, 3) := by decide +kernel
theorem dX8_addCouple_8 : decode cX8_addCouple 8 = .ok (.aload_n 0, 1) := by decide +kernel
theorem dX8_addCouple_9 : decode cX8_addCouple 9 = .ok (.iload_n 1, 1) := by decide +kernel
theorem dX8_addCouple_10 : decode cX8_addCouple 10 = .ok (.invokevirtual 63, 3) := by decide +kernel
theorem dX8_addCouple_13 : decode cX8_addCouple 13 = .ok (.ifCond .eq 57, 3) := by decide +kernel
theorem dX8_addCouple_16 : decode cX8_addCouple 16 = .ok (.aload_n 0, 1) := by decide +kernel
theorem dX8_addCouple_17 : decode cX8_addCouple 17 = .ok (.iload_n 2, 1) := by decide +kernel
theorem dX8_addCouple_18 : decode cX8_addCouple 18 = .ok (.invokevirtual 63, 3) := by decide +kernel
theorem dX8_addCouple_21 : decode cX8_addCouple 21 = .ok (.ifCond .eq 49, 3) := by decide +kernel
theorem dX8_addCouple_24 : decode cX8_addCouple 24 = .ok (.aload_n 0, 1) := by decide +kernel
theorem dX8_addCouple_25 : decode cX8_addCouple 25 = .ok (.getfield 25, 3) := by decide +kernel
theorem dX8_addCouple_28 : decode cX8_addCouple 28 = .ok (.iconst 2, 1) := by decide +kernel
theorem dX8_addCouple_29 : decode cX8_addCouple 29 = .ok (.aload_n 0, 1) := by decide +kernel
theorem dX8_addCouple_30 : decode cX8_addCouple 30 = .ok (.getfield 41, 3) := by decide +kernel
theorem dX8_addCouple_33 : decode cX8_addCouple 33 = .ok (.imul, 1) := by decide +kernel
theorem dX8_addCouple_34 : decode cX8_addCouple 34 = .ok (.iload_n 1, 1) := by decide +kernel
theorem dX8_addCouple_35 : decode cX8_addCouple 35 = .ok (.iastore, 1) := by decide +kernel
theorem dX8_addCouple_36 : decode cX8_addCouple 36 = .ok (.aload_n 0, 1) := by decide +kernel
theorem dX8_addCouple_37 : decode cX8_addCouple 37 = .ok (.getfield 25, 3) := by decide +kernel
theorem dX8_addCouple_40 : decode cX8_addCouple 40 = .ok (.iconst 2, 1) := by decide +kernel
theorem dX8_addCouple_41 : decode cX8_addCouple 41 = .ok (.aload_n 0, 1) := by decide +kernel
theorem dX8_addCouple_42 : decode cX8_addCouple 42 = .ok (.getfield 41, 3) := by decide +kernel
theorem dX8_addCouple_45 : decode cX8_addCouple 45 = .ok (.imul, 1) := by decide +kernel
theorem dX8_addCouple_46 : decode cX8_addCouple 46 = .ok (.iconst 1, 1) := by decide +kernel
theorem dX8_addCouple_47 : decode cX8_addCouple 47 = .ok (.iadd, 1) := by decide +kernel
theorem dX8_addCouple_48 : decode cX8_addCouple 48 = .ok (.iload_n 2, 1) := by decide +kernel
theorem dX8_addCouple_49 : decode cX8_addCouple 49 = .ok (.iastore, 1) := by decide +kernel
theorem dX8_addCouple_50 : decode cX8_addCouple 50 = .ok (.aload_n 0, 1) := by decide +kernel
theorem dX8_addCouple_51 : decode cX8_addCouple 51 = .ok (.getfield 22, 3) := by decide +kernel
theorem dX8_addCouple_54 : decode cX8_addCouple 54 = .ok (.iload_n 1, 1) := by decide +kernel
theorem dX8_addCouple_55 : decode cX8_addCouple 55 = .ok (.aload_n 0, 1) := by decide +kernel
theorem dX8_addCouple_56 : decode cX8_addCouple 56 = .ok (.getfield 41, 3) := by decide +kernel
theorem dX8_addCouple_59 : decode cX8_addCouple 59 = .ok (.iastore, 1) := by decide +kernel
theorem dX8_addCouple_60 : decode cX8_addCouple 60 = .ok (.aload_n 0, 1) := by decide +kernel
theorem dX8_addCouple_61 : decode cX8_addCouple 61 = .ok (.getfield 22, 3) := by decide +kernel
theorem dX8_addCouple_64 : decode cX8_addCouple 64 = .ok (.iload_n 2, 1) := by decide +kernel
theorem dX8_addCouple_65 : decode cX8_addCouple 65 = .ok (.aload_n 0, 1) := by decide +kernel
theorem dX8_addCouple_66 : decode cX8_addCouple 66 = .ok (.getfield 41, 3) := by decide +kernel
theorem dX8_addCouple_69 : decode cX8_addCouple 69 = .ok (.iastore, 1) := by decide +kernel
theorem dX8_addCouple_70 : decode cX8_addCouple 70 = .ok (.aload_n 0, 1) := by decide +kernel
theorem dX8_addCouple_71 : decode cX8_addCouple 71 = .ok (.dup, 1) := by decide +kernel
theorem dX8_addCouple_72 : decode cX8_addCouple 72 = .ok (.getfield 41, 3) := by decide +kernel
theorem dX8_addCouple_75 : decode cX8_addCouple 75 = .ok (.iconst 1, 1) := by decide +kernel
theorem dX8_addCouple_76 : decode cX8_addCouple 76 = .ok (.iadd, 1) := by decide +kernel
theorem dX8_addCouple_77 : decode cX8_addCouple 77 = .ok (.putfield 41, 3) := by decide +kernel
theorem dX8_addCouple_80 : decode cX8_addCouple 80 = .ok (.return_, 1) := by decide +kernel
theorem dX8_addThird_0 : decode cX8_addThird 0 = .ok (.aload_n 0, 1) := by decide +kernel
theorem dX8_addThird_1 : decode cX8_addThird 1 = .ok (.getfield 44, 3) := by decide +kernel
theorem dX8_addThird_4 : decode cX8_addThird 4 = .ok (.iconst 4, 1) := by decide +kernel
theorem dX8_addThird_5 : decode cX8_addThird 5 = .ok (.if_icmp .ge 33, 3) := by decide +kernel
theorem dX8_addThird_8 : decode cX8_addThird 8 = .ok (.aload_n 0, 1) := by decide +kernel
theorem dX8_addThird_9 : decode cX8_addThird 9 = .ok (.getfield 28, 3) := by decide +kernel
theorem dX8_addThird_12 : decode cX8_addThird 12 = .ok (.aload_n 0, 1) := by decide +kernel
theorem dX8_addThird_13 : decode cX8_addThird 13 = .ok (.getfield 44, 3) := by decide +kernel
theorem dX8_addThird_16 : decode cX8_addThird 16 = .ok (.iload_n 1, 1) := by decide +kernel
theorem dX8_addThird_17 : decode cX8_addThird 17 = .ok (.iastore, 1) := by decide +kernel
theorem dX8_addThird_18 : decode cX8_addThird 18 = .ok (.aload_n 0, 1) := by decide +kernel
theorem dX8_addThird_19 : decode cX8_addThird 19 = .ok (.getfield 31, 3) := by decide +kernel
theorem dX8_addThird_22 : decode cX8_addThird 22 = .ok (.aload_n 0, 1) := by decide +kernel
theorem dX8_addThird_23 : decode cX8_addThird 23 = .ok (.getfield 44, 3) := by decide +kernel
theorem dX8_addThird_26 : decode cX8_addThird 26 = .ok (.iload_n 2, 1) := by decide +kernel
theorem dX8_addThird_27 : decode cX8_addThird 27 = .ok (.iastore, 1) := by decide +kernel
theorem dX8_addThird_28 : decode cX8_addThird 28 = .ok (.aload_n 0, 1) := by decide +kernel
theorem dX8_addThird_29 : decode cX8_addThird 29 = .ok (.dup, 1) := by decide +kernel
theorem dX8_addThird_30 : decode cX8_addThird 30 = .ok (.getfield 44, 3) := by decide +kernel
theorem dX8_addThird_33 : decode cX8_addThird 33 = .ok (.iconst 1, 1) := by decide +kernel
theorem dX8_addThird_34 : decode cX8_addThird 34 = .ok (.iadd, 1) := by decide +kernel
theorem dX8_addThird_35 : decode cX8_addThird 35 = .ok (.putfield 44, 3) := by decide +kernel
theorem dX8_addThird_38 : decode cX8_addThird 38 = .ok (.return_, 1) := by decide +kernel
theorem dX8_hasSpouse_0 : decode cX8_hasSpouse 0 = .ok (.iload_n 1, 1) := by decide +kernel
theorem dX8_hasSpouse_1 : decode cX8_hasSpouse 1 = .ok (.ifCond .lt 15, 3) := by decide +kernel
theorem dX8_hasSpouse_4 : decode cX8_hasSpouse 4 = .ok (.iload_n 1, 1) := by decide +kernel
theorem dX8_hasSpouse_5 : decode cX8_hasSpouse 5 = .ok (.aload_n 0, 1) := by decide +kernel
theorem dX8_hasSpouse_6 : decode cX8_hasSpouse 6 = .ok (.getfield 37, 3) := by decide +kernel
theorem dX8_hasSpouse_9 : decode cX8_hasSpouse 9 = .ok (.if_icmp .ge 7, 3) := by decide +kernel
theorem dX8_hasSpouse_12 : decode cX8_hasSpouse 12 = .ok (.iconst 1, 1) := by decide +kernel
theorem dX8_hasSpouse_13 : decode cX8_hasSpouse 13 = .ok (.goto 4, 3) := by decide +kernel
theorem dX8_hasSpouse_16 : decode cX8_hasSpouse 16 = .ok (.iconst 0, 1) := by decide +kernel
theorem dX8_hasSpouse_17 : decode cX8_hasSpouse 17 = .ok (.ireturn, 1) := by decide +kernel
theorem dX8_hasCouple_0 : decode cX8_hasCouple 0 = .ok (.iload_n 1, 1) := by decide +kernel
theorem dX8_hasCouple_1 : decode cX8_hasCouple 1 = .ok (.ifCond .lt 15, 3) := by decide +kernel
theorem dX8_hasCouple_4 : decode cX8_hasCouple 4 = .ok (.iload_n 1, 1) := by decide +kernel
theorem dX8_hasCouple_5 : decode cX8_hasCouple 5 = .ok (.aload_n 0, 1) := by decide +kernel
theorem dX8_hasCouple_6 : decode cX8_hasCouple 6 = .ok (.getfield 41, 3) := by decide +kernel
theorem dX8_hasCouple_9 : decode cX8_hasCouple 9 = .ok (.if_icmp .ge 7, 3) := by decide +kernel
theorem dX8_hasCouple_12 : decode cX8_hasCouple 12 = .ok (.iconst 1, 1) := by decide +kernel
theorem dX8_hasCouple_13 : decode cX8_hasCouple 13 = .ok (.goto 4, 3) := by decide +kernel
theorem dX8_hasCouple_16 : decode cX8_hasCouple 16 = .ok (.iconst 0, 1) := by decide +kernel
theorem dX8_hasCouple_17 : decode cX8_hasCouple 17 = .ok (.ireturn, 1) := by decide +kernel
theorem dX8_hasThird_0 : decode cX8_hasThird 0 = .ok (.iload_n 1, 1) := by decide +kernel
theorem dX8_hasThird_1 : decode cX8_hasThird 1 = .ok (.ifCond .lt 15, 3) := by decide +kernel
theorem dX8_hasThird_4 : decode cX8_hasThird 4 = .ok (.iload_n 1, 1) := by decide +kernel
theorem dX8_hasThird_5 : decode cX8_hasThird 5 = .ok (.aload_n 0, 1) := by decide +kernel
theorem dX8_hasThird_6 : decode cX8_hasThird 6 = .ok (.getfield 44, 3) := by decide +kernel
theorem dX8_hasThird_9 : decode cX8_hasThird 9 = .ok (.if_icmp .ge 7, 3) := by decide +kernel
theorem dX8_hasThird_12 : decode cX8_hasThird 12 = .ok (.iconst 1, 1) := by decide +kernel
theorem dX8_hasThird_13 : decode cX8_hasThird 13 = .ok (.goto 4, 3) := by decide +kernel
theorem dX8_hasThird_16 : decode cX8_hasThird 16 = .ok (.iconst 0, 1) := by decide +kernel
theorem dX8_hasThird_17 : decode cX8_hasThird 17 = .ok (.ireturn, 1) := by decide +kernel
theorem dX8_begin_0 : decode cX8_begin 0 = .ok (.iconst 0, 1) := by decide +kernel
theorem dX8_begin_1 : decode cX8_begin 1 = .ok (.istore_n 2, 1) := by decide +kernel
theorem dX8_begin_2 : decode cX8_begin 2 = .ok (.iload_n 2, 1) := by decide +kernel
theorem dX8_begin_3 : decode cX8_begin 3 = .ok (.bipush 48, 2) := by decide +kernel
theorem dX8_begin_5 : decode cX8_begin 5 = .ok (.if_icmp .ge 19, 3) := by decide +kernel
theorem dX8_begin_8 : decode cX8_begin 8 = .ok (.iload_n 2, 1) := by decide +kernel
theorem dX8_begin_9 : decode cX8_begin 9 = .ok (.aload_n 1, 1) := by decide +kernel
theorem dX8_begin_10 : decode cX8_begin 10 = .ok (.arraylength, 1) := by decide +kernel
theorem dX8_begin_11 : decode cX8_begin 11 = .ok (.if_icmp .ge 13, 3) := by decide +kernel
theorem dX8_begin_14 : decode cX8_begin 14 = .ok (.aload_n 1, 1) := by decide +kernel
theorem dX8_begin_15 : decode cX8_begin 15 = .ok (.iload_n 2, 1) := by decide +kernel
theorem dX8_begin_16 : decode cX8_begin 16 = .ok (.iconst 0, 1) := by decide +kernel
theorem dX8_begin_17 : decode cX8_begin 17 = .ok (.iastore, 1) := by decide +kernel
theorem dX8_begin_18 : decode cX8_begin 18 = .ok (.iinc 2 1, 3) := by decide +kernel
theorem dX8_begin_21 : decode cX8_begin 21 = .ok (.goto (-19), 3) := by decide +kernel
theorem dX8_begin_24 : decode cX8_begin 24 = .ok (.iconst 0, 1) := by decide +kernel
theorem dX8_begin_25 : decode cX8_begin 25 = .ok (.istore_n 2, 1) := by decide +kernel
theorem dX8_begin_26 : decode cX8_begin 26 = .ok (.iload_n 2, 1) := by decide +kernel
theorem dX8_begin_27 : decode cX8_begin 27 = .ok (.aload_n 0, 1) := by decide +kernel
theorem dX8_begin_28 : decode cX8_begin 28 = .ok (.getfield 37, 3) := by decide +kernel
theorem dX8_begin_31 : decode cX8_begin 31 = .ok (.if_icmp .ge 20, 3) := by decide +kernel
theorem dX8_begin_34 : decode cX8_begin 34 = .ok (.aload_n 1, 1) := by decide +kernel
theorem dX8_begin_35 : decode cX8_begin 35 = .ok (.iconst 4, 1) := by decide +kernel
theorem dX8_begin_36 : decode cX8_begin 36 = .ok (.iload_n 2, 1) := by decide +kernel
theorem dX8_begin_37 : decode cX8_begin 37 = .ok (.iadd, 1) := by decide +kernel
theorem dX8_begin_38 : decode cX8_begin 38 = .ok (.aload_n 0, 1) := by decide +kernel
theorem dX8_begin_39 : decode cX8_begin 39 = .ok (.getfield 18, 3) := by decide +kernel
theorem dX8_begin_42 : decode cX8_begin 42 = .ok (.iload_n 2, 1) := by decide +kernel
theorem dX8_begin_43 : decode cX8_begin 43 = .ok (.iaload, 1) := by decide +kernel
theorem dX8_begin_44 : decode cX8_begin 44 = .ok (.iastore, 1) := by decide +kernel
theorem dX8_begin_45 : decode cX8_begin 45 = .ok (.iinc 2 1, 3) := by decide +kernel
theorem dX8_begin_48 : decode cX8_begin 48 = .ok (.goto (-22), 3) := by decide +kernel
theorem dX8_begin_51 : decode cX8_begin 51 = .ok (.iconst 0, 1) := by decide +kernel
theorem dX8_begin_52 : decode cX8_begin 52 = .ok (.istore_n 2, 1) := by decide +kernel
theorem dX8_begin_53 : decode cX8_begin 53 = .ok (.iload_n 2, 1) := by decide +kernel
theorem dX8_begin_54 : decode cX8_begin 54 = .ok (.aload_n 0, 1) := by decide +kernel
theorem dX8_begin_55 : decode cX8_begin 55 = .ok (.getfield 41, 3) := by decide +kernel
theorem dX8_begin_58 : decode cX8_begin 58 = .ok (.if_icmp .ge 16, 3) := by decide +kernel
theorem dX8_begin_61 : decode cX8_begin 61 = .ok (.aload_n 1, 1) := by decide +kernel
theorem dX8_begin_62 : decode cX8_begin 62 = .ok (.bipush 16, 2) := by decide +kernel
theorem dX8_begin_64 : decode cX8_begin 64 = .ok (.iload_n 2, 1) := by decide +kernel
theorem dX8_begin_65 : decode cX8_begin 65 = .ok (.iadd, 1) := by decide +kernel
theorem dX8_begin_66 : decode cX8_begin 66 = .ok (.iconst (-1), 1) := by decide +kernel
theorem dX8_begin_67 : decode cX8_begin 67 = .ok (.iastore, 1) := by decide +kernel
theorem dX8_begin_68 : decode cX8_begin 68 = .ok (.iinc 2 1, 3) := by decide +kernel
theorem dX8_begin_71 : decode cX8_begin 71 = .ok (.goto (-18), 3) := by decide +kernel
theorem dX8_begin_74 : decode cX8_begin 74 = .ok (.iconst 0, 1) := by decide +kernel
theorem dX8_begin_75 : decode cX8_begin 75 = .ok (.istore_n 2, 1) := by decide +kernel
theorem dX8_begin_76 : decode cX8_begin 76 = .ok (.iload_n 2, 1) := by decide +kernel
theorem dX8_begin_77 : decode cX8_begin 77 = .ok (.aload_n 0, 1) := by decide +kernel
theorem dX8_begin_78 : decode cX8_begin 78 = .ok (.getfield 44, 3) := by decide +kernel
theorem dX8_begin_81 : decode cX8_begin 81 = .ok (.if_icmp .ge 21, 3) := by decide +kernel
theorem dX8_begin_84 : decode cX8_begin 84 = .ok (.aload_n 1, 1) := by decide +kernel
theorem dX8_begin_85 : decode cX8_begin 85 = .ok (.bipush 28, 2) := by decide +kernel
theorem dX8_begin_87 : decode cX8_begin 87 = .ok (.iload_n 2, 1) := by decide +kernel
theorem dX8_begin_88 : decode cX8_begin 88 = .ok (.iadd, 1) := by decide +kernel
theorem dX8_begin_89 : decode cX8_begin 89 = .ok (.aload_n 0, 1) := by decide +kernel
theorem dX8_begin_90 : decode cX8_begin 90 = .ok (.getfield 31, 3) := by decide +kernel
theorem dX8_begin_93 : decode cX8_begin 93 = .ok (.iload_n 2, 1) := by decide +kernel
theorem dX8_begin_94 : decode cX8_begin 94 = .ok (.iaload, 1) := by decide +kernel
theorem dX8_begin_95 : decode cX8_begin 95 = .ok (.iastore, 1) := by decide +kernel
theorem dX8_begin_96 : decode cX8_begin 96 = .ok (.iinc 2 1, 3) := by decide +kernel
theorem dX8_begin_99 : decode cX8_begin 99 = .ok (.goto (-23), 3) := by decide +kernel
theorem dX8_begin_102 : decode cX8_begin 102 = .ok (.return_, 1) := by decide +kernel
theorem dX9_init_0 : decode cX9_init 0 = .ok (.aload_n 0, 1) := by decide +kernel
theorem dX9_init_1 : decode cX9_init 1 = .ok (.invokespecial 3, 3) := by decide +kernel
theorem dX9_init_4 : decode cX9_init 4 = .ok (.aload_n 0, 1) := by decide +kernel
theorem dX9_init_5 : decode cX9_init 5 = .ok (.bipush 24, 2) := by decide +kernel
theorem dX9_init_7 : decode cX9_init 7 = .ok (.newarray .long, 2) := by decide +kernel
theorem dX9_init_9 : decode cX9_init 9 = .ok (.putfield 9, 3) := by decide +kernel
theorem dX9_init_12 : decode cX9_init 12 = .ok (.aload_n 0, 1) := by decide +kernel
theorem dX9_init_13 : decode cX9_init 13 = .ok (.sipush 401, 3) := by decide +kernel
theorem dX9_init_16 : decode cX9_init 16 = .ok (.newarray .int, 2) := by decide +kernel
theorem dX9_init_18 : decode cX9_init 18 = .ok (.putfield 15, 3) := by decide +kernel
theorem dX9_init_21 : decode cX9_init 21 = .ok (.aload_n 0, 1) := by decide +kernel
theorem dX9_init_22 : decode cX9_init 22 = .ok (.sipush 401, 3) := by decide +kernel
theorem dX9_init_25 : decode cX9_init 25 = .ok (.newarray .int, 2) := by decide +kernel
theorem dX9_init_27 : decode cX9_init 27 = .ok (.putfield 19, 3) := by decide +kernel
theorem dX9_init_30 : decode cX9_init 30 = .ok (.aload_n 0, 1) := by decide +kernel
theorem dX9_init_31 : decode cX9_init 31 = .ok (.sipush 401, 3) := by decide +kernel
theorem dX9_init_34 : decode cX9_init 34 = .ok (.newarray .long, 2) := by decide +kernel
theorem dX9_init_36 : decode cX9_init 36 = .ok (.putfield 22, 3) := by decide +kernel
theorem dX9_init_39 : decode cX9_init 39 = .ok (.lconst 0, 1) := by decide +kernel
theorem dX9_init_40 : decode cX9_init 40 = .ok (.lstore_n 1, 1) := by decide +kernel
theorem dX9_init_41 : decode cX9_init 41 = .ok (.iconst 0, 1) := by decide +kernel
theorem dX9_init_42 : decode cX9_init 42 = .ok (.istore_n 3, 1) := by decide +kernel
theorem dX9_init_43 : decode cX9_init 43 = .ok (.iconst 0, 1) := by decide +kernel
theorem dX9_init_44 : decode cX9_init 44 = .ok (.istore 4, 2) := by decide +kernel
theorem dX9_init_46 : decode cX9_init 46 = .ok (.iload 4, 2) := by decide +kernel
theorem dX9_init_48 : decode cX9_init 48 = .ok (.ldc 25, 2) := by decide +kernel
theorem dX9_init_50 : decode cX9_init 50 = .ok (.invokevirtual 27, 3) := by decide +kernel
theorem dX9_init_53 : decode cX9_init 53 = .ok (.if_icmp .ge 53, 3) := by decide +kernel
theorem dX9_init_56 : decode cX9_init 56 = .ok (.ldc 25, 2) := by decide +kernel
theorem dX9_init_58 : decode cX9_init 58 = .ok (.iload 4, 2) := by decide +kernel
theorem dX9_init_60 : decode cX9_init 60 = .ok (.invokevirtual 33, 3) := by decide +kernel
theorem dX9_init_63 : decode cX9_init 63 = .ok (.istore 5, 2) := by decide +kernel
theorem dX9_init_65 : decode cX9_init 65 = .ok (.iload 5, 2) := by decide +kernel
theorem dX9_init_67 : decode cX9_init 67 = .ok (.bipush 32, 2) := by decide +kernel
theorem dX9_init_69 : decode cX9_init 69 = .ok (.if_icmp .eq 13, 3) := by decide +kernel
theorem dX9_init_72 : decode cX9_init 72 = .ok (.lload_n 1, 1) := by decide +kernel
theorem dX9_init_73 : decode cX9_init 73 = .ok (.iload 5, 2) := by decide +kernel
theorem dX9_init_75 : decode cX9_init 75 = .ok (.invokestatic 37, 3) := by decide +kernel
theorem dX9_init_78 : decode cX9_init 78 = .ok (.lstore_n 1, 1) := by decide +kernel
theorem dX9_init_79 : decode cX9_init 79 = .ok (.goto 21, 3) := by decide +kernel
theorem dX9_init_82 : decode cX9_init 82 = .ok (.iload_n 3, 1) := by decide +kernel
theorem dX9_init_83 : decode cX9_init 83 = .ok (.bipush 24, 2) := by decide +kernel
theorem dX9_init_85 : decode cX9_init 85 = .ok (.if_icmp .ge 15, 3) := by decide +kernel
theorem dX9_init_88 : decode cX9_init 88 = .ok (.aload_n 0, 1) := by decide +kernel
theorem dX9_init_89 : decode cX9_init 89 = .ok (.getfield 9, 3) := by decide +kernel
theorem dX9_init_92 : decode cX9_init 92 = .ok (.iload_n 3, 1) := by decide +kernel
theorem dX9_init_93 : decode cX9_init 93 = .ok (.lload_n 1, 1) := by decide +kernel
theorem dX9_init_94 : decode cX9_init 94 = .ok (.lastore, 1) := by decide +kernel
theorem dX9_init_95 : decode cX9_init 95 = .ok (.iinc 3 1, 3) := by decide +kernel
theorem dX9_init_98 : decode cX9_init 98 = .ok (.lconst 0, 1) := by decide +kernel
theorem dX9_init_99 : decode cX9_init 99 = .ok (.lstore_n 1, 1) := by decide +kernel
theorem dX9_init_100 : decode cX9_init 100 = .ok (.iinc 4 1, 3) := by decide +kernel
theorem dX9_init_103 : decode cX9_init 103 = .ok (.goto (-57), 3) := by decide +kernel
theorem dX9_init_106 : decode cX9_init 106 = .ok (.return_, 1) := by decide +kernel
theorem dX9_withLetter_0 : decode cX9_withLetter 0 = .ok (.lload_n 0, 1) := by decide +kernel
theorem dX9_withLetter_1 : decode cX9_withLetter 1 = .ok (.ldc2_w 41, 3) := by decide +kernel
theorem dX9_withLetter_4 : decode cX9_withLetter 4 = .ok (.lmul, 1) := by decide +kernel
theorem dX9_withLetter_5 : decode cX9_withLetter 5 = .ok (.iload_n 2, 1) := by decide +kernel
theorem dX9_withLetter_6 : decode cX9_withLetter 6 = .ok (.bipush 97, 2) := by decide +kernel
theorem dX9_withLetter_8 : decode cX9_withLetter 8 = .ok (.isub, 1) := by decide +kernel
theorem dX9_withLetter_9 : decode cX9_withLetter 9 = .ok (.iconst 1, 1) := by decide +kernel
theorem dX9_withLetter_10 : decode cX9_withLetter 10 = .ok (.iadd, 1) := by decide +kernel
theorem dX9_withLetter_11 : decode cX9_withLetter 11 = .ok (.i2l, 1) := by decide +kernel
theorem dX9_withLetter_12 : decode cX9_withLetter 12 = .ok (.ladd, 1) := by decide +kernel
theorem dX9_withLetter_13 : decode cX9_withLetter 13 = .ok (.lreturn, 1) := by decide +kernel
theorem dX9_cut_0 : decode cX9_cut 0 = .ok (.iload_n 2, 1) := by decide +kernel
theorem dX9_cut_1 : decode cX9_cut 1 = .ok (.aload_n 1, 1) := by decide +kernel
theorem dX9_cut_2 : decode cX9_cut 2 = .ok (.arraylength, 1) := by decide +kernel
theorem dX9_cut_3 : decode cX9_cut 3 = .ok (.invokestatic 43, 3) := by decide +kernel
theorem dX9_cut_6 : decode cX9_cut 6 = .ok (.istore_n 3, 1) := by decide +kernel
theorem dX9_cut_7 : decode cX9_cut 7 = .ok (.iconst 0, 1) := by decide +kernel
theorem dX9_cut_8 : decode cX9_cut 8 = .ok (.istore 4, 2) := by decide +kernel
theorem dX9_cut_10 : decode cX9_cut 10 = .ok (.iconst 1, 1) := by decide +kernel
theorem dX9_cut_11 : decode cX9_cut 11 = .ok (.istore 5, 2) := by decide +kernel
theorem dX9_cut_13 : decode cX9_cut 13 = .ok (.aload_n 0, 1) := by decide +kernel
theorem dX9_cut_14 : decode cX9_cut 14 = .ok (.iconst 0, 1) := by decide +kernel
theorem dX9_cut_15 : decode cX9_cut 15 = .ok (.putfield 49, 3) := by decide +kernel
theorem dX9_cut_18 : decode cX9_cut 18 = .ok (.iload 5, 2) := by decide +kernel
theorem dX9_cut_20 : decode cX9_cut 20 = .ok (.ifCond .eq 129, 3) := by decide +kernel
theorem dX9_cut_23 : decode cX9_cut 23 = .ok (.aload_n 0, 1) := by decide +kernel
theorem dX9_cut_24 : decode cX9_cut 24 = .ok (.getfield 49, 3) := by decide +kernel
theorem dX9_cut_27 : decode cX9_cut 27 = .ok (.sipush 400, 3) := by decide +kernel
theorem dX9_cut_30 : decode cX9_cut 30 = .ok (.if_icmp .gt 119, 3) := by decide +kernel
theorem dX9_cut_33 : decode cX9_cut 33 = .ok (.aload_n 1, 1) := by decide +kernel
theorem dX9_cut_34 : decode cX9_cut 34 = .ok (.iload 4, 2) := by decide +kernel
theorem dX9_cut_36 : decode cX9_cut 36 = .ok (.iload_n 3, 1) := by decide +kernel
theorem dX9_cut_37 : decode cX9_cut 37 = .ok (.invokestatic 53, 3) := by decide +kernel
theorem dX9_cut_40 : decode cX9_cut 40 = .ok (.istore 4, 2) := by decide +kernel
theorem dX9_cut_42 : decode cX9_cut 42 = .ok (.aload_n 1, 1) := by decide +kernel
theorem dX9_cut_43 : decode cX9_cut 43 = .ok (.iload 4, 2) := by decide +kernel
theorem dX9_cut_45 : decode cX9_cut 45 = .ok (.iload_n 3, 1) := by decide +kernel
theorem dX9_cut_46 : decode cX9_cut 46 = .ok (.invokestatic 57, 3) := by decide +kernel
theorem dX9_cut_49 : decode cX9_cut 49 = .ok (.istore 6, 2) := by decide +kernel
theorem dX9_cut_51 : decode cX9_cut 51 = .ok (.aload_n 0, 1) := by decide +kernel
theorem dX9_cut_52 : decode cX9_cut 52 = .ok (.getfield 19, 3) := by decide +kernel
theorem dX9_cut_55 : decode cX9_cut 55 = .ok (.aload_n 0, 1) := by decide +kernel
theorem dX9_cut_56 : decode cX9_cut 56 = .ok (.getfield 49, 3) := by decide +kernel
theorem dX9_cut_59 : decode cX9_cut 59 = .ok (.iload 4, 2) := by decide +kernel
theorem dX9_cut_61 : decode cX9_cut 61 = .ok (.iload_n 3, 1) := by decide +kernel
theorem dX9_cut_62 : decode cX9_cut 62 = .ok (.if_icmp .ge 8, 3) := by decide +kernel
theorem dX9_cut_65 : decode cX9_cut 65 = .ok (.iload 4, 2) := by decide +kernel
theorem dX9_cut_67 : decode cX9_cut 67 = .ok (.goto 4, 3) := by decide +kernel
theorem dX9_cut_70 : decode cX9_cut 70 = .ok (.iload_n 2, 1) := by decide +kernel
theorem dX9_cut_71 : decode cX9_cut 71 = .ok (.iastore, 1) := by decide +kernel
theorem dX9_cut_72 : decode cX9_cut 72 = .ok (.aload_n 0, 1) := by decide +kernel
theorem dX9_cut_73 : decode cX9_cut 73 = .ok (.getfield 22, 3) := by decide +kernel
theorem dX9_cut_76 : decode cX9_cut 76 = .ok (.aload_n 0, 1) := by decide +kernel
theorem dX9_cut_77 : decode cX9_cut 77 = .ok (.getfield 49, 3) := by decide +kernel
theorem dX9_cut_80 : decode cX9_cut 80 = .ok (.lconst 0, 1) := by decide +kernel
theorem dX9_cut_81 : decode cX9_cut 81 = .ok (.lastore, 1) := by decide +kernel
theorem dX9_cut_82 : decode cX9_cut 82 = .ok (.aload_n 0, 1) := by decide +kernel
theorem dX9_cut_83 : decode cX9_cut 83 = .ok (.getfield 15, 3) := by decide +kernel
theorem dX9_cut_86 : decode cX9_cut 86 = .ok (.aload_n 0, 1) := by decide +kernel
theorem dX9_cut_87 : decode cX9_cut 87 = .ok (.getfield 49, 3) := by decide +kernel
theorem dX9_cut_90 : decode cX9_cut 90 = .ok (.aload_n 0, 1) := by decide +kernel
theorem dX9_cut_91 : decode cX9_cut 91 = .ok (.aload_n 1, 1) := by decide +kernel
theorem dX9_cut_92 : decode cX9_cut 92 = .ok (.iload 4, 2) := by decide +kernel
theorem dX9_cut_94 : decode cX9_cut 94 = .ok (.iload 6, 2) := by decide +kernel
theorem dX9_cut_96 : decode cX9_cut 96 = .ok (.invokevirtual 60, 3) := by decide +kernel
theorem dX9_cut_99 : decode cX9_cut 99 = .ok (.iastore, 1) := by decide +kernel
theorem dX9_cut_100 : decode cX9_cut 100 = .ok (.aload_n 0, 1) := by decide +kernel
theorem dX9_cut_101 : decode cX9_cut 101 = .ok (.getfield 15, 3) := by decide +kernel
theorem dX9_cut_104 : decode cX9_cut 104 = .ok (.aload_n 0, 1) := by decide +kernel
theorem dX9_cut_105 : decode cX9_cut 105 = .ok (.getfield 49, 3) := by decide +kernel
theorem dX9_cut_108 : decode cX9_cut 108 = .ok (.iaload, 1) := by decide +kernel
theorem dX9_cut_109 : decode cX9_cut 109 = .ok (.ifCond .eq 20, 3) := by decide +kernel
theorem dX9_cut_112 : decode cX9_cut 112 = .ok (.aload_n 0, 1) := by decide +kernel
theorem dX9_cut_113 : decode cX9_cut 113 = .ok (.getfield 15, 3) := by decide +kernel
theorem dX9_cut_116 : decode cX9_cut 116 = .ok (.aload_n 0, 1) := by decide +kernel
theorem dX9_cut_117 : decode cX9_cut 117 = .ok (.getfield 49, 3) := by decide +kernel
theorem dX9_cut_120 : decode cX9_cut 120 = .ok (.iaload, 1) := by decide +kernel
theorem dX9_cut_121 : decode cX9_cut 121 = .ok (.iconst 1, 1) := by decide +kernel
theorem dX9_cut_122 : decode cX9_cut 122 = .ok (.if_icmp .eq 7, 3) := by decide +kernel
theorem dX9_cut_125 : decode cX9_cut 125 = .ok (.iconst 1, 1) := by decide +kernel
theorem dX9_cut_126 : decode cX9_cut 126 = .ok (.goto 4, 3) := by decide +kernel
theorem dX9_cut_129 : decode cX9_cut 129 = .ok (.iconst 0, 1) := by decide +kernel
theorem dX9_cut_130 : decode cX9_cut 130 = .ok (.istore 5, 2) := by decide +kernel
theorem dX9_cut_132 : decode cX9_cut 132 = .ok (.iload 6, 2) := by decide +kernel
theorem dX9_cut_134 : decode cX9_cut 134 = .ok (.istore 4, 2) := by decide +kernel
theorem dX9_cut_136 : decode cX9_cut 136 = .ok (.aload_n 0, 1) := by decide +kernel
theorem dX9_cut_137 : decode cX9_cut 137 = .ok (.dup, 1) := by decide +kernel
theorem dX9_cut_138 : decode cX9_cut 138 = .ok (.getfield 49, 3) := by decide +kernel
theorem dX9_cut_141 : decode cX9_cut 141 = .ok (.iconst 1, 1) := by decide +kernel
theorem dX9_cut_142 : decode cX9_cut 142 = .ok (.iadd, 1) := by decide +kernel
theorem dX9_cut_143 : decode cX9_cut 143 = .ok (.putfield 49, 3) := by decide +kernel
theorem dX9_cut_146 : decode cX9_cut 146 = .ok (.goto (-128), 3) := by decide +kernel
theorem dX9_cut_149 : decode cX9_cut 149 = .ok (.return_, 1) := by decide +kernel
theorem dX9_kindAt_0 : decode cX9_kindAt 0 = .ok (.iload_n 1, 1) := by decide +kernel
theorem dX9_kindAt_1 : decode cX9_kindAt 1 = .ok (.ifCond .lt 20, 3) := by decide +kernel
theorem dX9_kindAt_4 : decode cX9_kindAt 4 = .ok (.iload_n 1, 1) := by decide +kernel
theorem dX9_kindAt_5 : decode cX9_kindAt 5 = .ok (.aload_n 0, 1) := by decide +kernel
theorem dX9_kindAt_6 : decode cX9_kindAt 6 = .ok (.getfield 49, 3) := by decide +kernel
theorem dX9_kindAt_9 : decode cX9_kindAt 9 = .ok (.if_icmp .ge 12, 3) := by decide +kernel
theorem dX9_kindAt_12 : decode cX9_kindAt 12 = .ok (.aload_n 0, 1) := by decide +kernel
theorem dX9_kindAt_13 : decode cX9_kindAt 13 = .ok (.getfield 15, 3) := by decide +kernel
theorem dX9_kindAt_16 : decode cX9_kindAt 16 = .ok (.iload_n 1, 1) := by decide +kernel
theorem dX9_kindAt_17 : decode cX9_kindAt 17 = .ok (.iaload, 1) := by decide +kernel
theorem dX9_kindAt_18 : decode cX9_kindAt 18 = .ok (.goto 4, 3) := by decide +kernel
theorem dX9_kindAt_21 : decode cX9_kindAt 21 = .ok (.iconst 1, 1) := by decide +kernel
theorem dX9_kindAt_22 : decode cX9_kindAt 22 = .ok (.ireturn, 1) := by decide +kernel
theorem dX9_placeOf_0 : decode cX9_placeOf 0 = .ok (.iload_n 1, 1) := by decide +kernel
theorem dX9_placeOf_1 : decode cX9_placeOf 1 = .ok (.ifCond .lt 20, 3) := by decide +kernel
theorem dX9_placeOf_4 : decode cX9_placeOf 4 = .ok (.iload_n 1, 1) := by decide +kernel
theorem dX9_placeOf_5 : decode cX9_placeOf 5 = .ok (.aload_n 0, 1) := by decide +kernel
theorem dX9_placeOf_6 : decode cX9_placeOf 6 = .ok (.getfield 49, 3) := by decide +kernel
theorem dX9_placeOf_9 : decode cX9_placeOf 9 = .ok (.if_icmp .ge 12, 3) := by decide +kernel
theorem dX9_placeOf_12 : decode cX9_placeOf 12 = .ok (.aload_n 0, 1) := by decide +kernel
theorem dX9_placeOf_13 : decode cX9_placeOf 13 = .ok (.getfield 19, 3) := by decide +kernel
theorem dX9_placeOf_16 : decode cX9_placeOf 16 = .ok (.iload_n 1, 1) := by decide +kernel
theorem dX9_placeOf_17 : decode cX9_placeOf 17 = .ok (.iaload, 1) := by decide +kernel
theorem dX9_placeOf_18 : decode cX9_placeOf 18 = .ok (.goto 4, 3) := by decide +kernel
theorem dX9_placeOf_21 : decode cX9_placeOf 21 = .ok (.iconst (-1), 1) := by decide +kernel
theorem dX9_placeOf_22 : decode cX9_placeOf 22 = .ok (.ireturn, 1) := by decide +kernel
theorem dX9_valueAt_0 : decode cX9_valueAt 0 = .ok (.iload_n 1, 1) := by decide +kernel
theorem dX9_valueAt_1 : decode cX9_valueAt 1 = .ok (.ifCond .lt 20, 3) := by decide +kernel
theorem dX9_valueAt_4 : decode cX9_valueAt 4 = .ok (.iload_n 1, 1) := by decide +kernel
theorem dX9_valueAt_5 : decode cX9_valueAt 5 = .ok (.aload_n 0, 1) := by decide +kernel
theorem dX9_valueAt_6 : decode cX9_valueAt 6 = .ok (.getfield 49, 3) := by decide +kernel
theorem dX9_valueAt_9 : decode cX9_valueAt 9 = .ok (.if_icmp .ge 12, 3) := by decide +kernel
theorem dX9_valueAt_12 : decode cX9_valueAt 12 = .ok (.aload_n 0, 1) := by decide +kernel
theorem dX9_valueAt_13 : decode cX9_valueAt 13 = .ok (.getfield 22, 3) := by decide +kernel
theorem dX9_valueAt_16 : decode cX9_valueAt 16 = .ok (.iload_n 1, 1) := by decide +kernel
theorem dX9_valueAt_17 : decode cX9_valueAt 17 = .ok (.laload, 1) := by decide +kernel
theorem dX9_valueAt_18 : decode cX9_valueAt 18 = .ok (.goto 4, 3) := by decide +kernel
theorem dX9_valueAt_21 : decode cX9_valueAt 21 = .ok (.lconst 0, 1) := by decide +kernel
theorem dX9_valueAt_22 : decode cX9_valueAt 22 = .ok (.lreturn, 1) := by decide +kernel
theorem dX9_blanksEnd_0 : decode cX9_blanksEnd 0 = .ok (.iload_n 1, 1) := by decide +kernel
theorem dX9_blanksEnd_1 : decode cX9_blanksEnd 1 = .ok (.istore_n 3, 1) := by decide +kernel
theorem dX9_blanksEnd_2 : decode cX9_blanksEnd 2 = .ok (.iload_n 3, 1) := by decide +kernel
theorem dX9_blanksEnd_3 : decode cX9_blanksEnd 3 = .ok (.iload_n 2, 1) := by decide +kernel
theorem dX9_blanksEnd_4 : decode cX9_blanksEnd 4 = .ok (.if_icmp .ge 18, 3) := by decide +kernel
theorem dX9_blanksEnd_7 : decode cX9_blanksEnd 7 = .ok (.aload_n 0, 1) := by decide +kernel
theorem dX9_blanksEnd_8 : decode cX9_blanksEnd 8 = .ok (.iload_n 3, 1) := by decide +kernel
theorem dX9_blanksEnd_9 : decode cX9_blanksEnd 9 = .ok (.baload, 1) := by decide +kernel
theorem dX9_blanksEnd_10 : decode cX9_blanksEnd 10 = .ok (.invokestatic 63, 3) := by decide +kernel
theorem dX9_blanksEnd_13 : decode cX9_blanksEnd 13 = .ok (.ifCond .eq 9, 3) := by decide +kernel
theorem dX9_blanksEnd_16 : decode cX9_blanksEnd 16 = .ok (.iinc 3 1, 3) := by decide +kernel
theorem dX9_blanksEnd_19 : decode cX9_blanksEnd 19 = .ok (.goto (-17), 3) := by decide +kernel
theorem dX9_blanksEnd_22 : decode cX9_blanksEnd 22 = .ok (.iload_n 3, 1) := by decide +kernel
theorem dX9_blanksEnd_23 : decode cX9_blanksEnd 23 = .ok (.ireturn, 1) := by decide +kernel
theorem dX9_tokenEnd_0 : decode cX9_tokenEnd 0 = .ok (.iload_n 1, 1) := by decide +kernel
theorem dX9_tokenEnd_1 : decode cX9_tokenEnd 1 = .ok (.istore_n 3, 1) := by decide +kernel
theorem dX9_tokenEnd_2 : decode cX9_tokenEnd 2 = .ok (.iload_n 1, 1) := by decide +kernel
theorem dX9_tokenEnd_3 : decode cX9_tokenEnd 3 = .ok (.iload_n 2, 1) := by decide +kernel
theorem dX9_tokenEnd_4 : decode cX9_tokenEnd 4 = .ok (.if_icmp .ge 32, 3) := by decide +kernel
theorem dX9_tokenEnd_7 : decode cX9_tokenEnd 7 = .ok (.aload_n 0, 1) := by decide +kernel
theorem dX9_tokenEnd_8 : decode cX9_tokenEnd 8 = .ok (.iload_n 1, 1) := by decide +kernel
theorem dX9_tokenEnd_9 : decode cX9_tokenEnd 9 = .ok (.baload, 1) := by decide +kernel
theorem dX9_tokenEnd_10 : decode cX9_tokenEnd 10 = .ok (.invokestatic 67, 3) := by decide +kernel
theorem dX9_tokenEnd_13 : decode cX9_tokenEnd 13 = .ok (.ifCond .eq 23, 3) := by decide +kernel
theorem dX9_tokenEnd_16 : decode cX9_tokenEnd 16 = .ok (.iload_n 3, 1) := by decide +kernel
theorem dX9_tokenEnd_17 : decode cX9_tokenEnd 17 = .ok (.iload_n 2, 1) := by decide +kernel
theorem dX9_tokenEnd_18 : decode cX9_tokenEnd 18 = .ok (.if_icmp .ge 60, 3) := by decide +kernel
theorem dX9_tokenEnd_21 : decode cX9_tokenEnd 21 = .ok (.aload_n 0, 1) := by decide +kernel
theorem dX9_tokenEnd_22 : decode cX9_tokenEnd 22 = .ok (.iload_n 3, 1) := by decide +kernel
theorem dX9_tokenEnd_23 : decode cX9_tokenEnd 23 = .ok (.baload, 1) := by decide +kernel
theorem dX9_tokenEnd_24 : decode cX9_tokenEnd 24 = .ok (.invokestatic 67, 3) := by decide +kernel
theorem dX9_tokenEnd_27 : decode cX9_tokenEnd 27 = .ok (.ifCond .eq 51, 3) := by decide +kernel
theorem dX9_tokenEnd_30 : decode cX9_tokenEnd 30 = .ok (.iinc 3 1, 3) := by decide +kernel
theorem dX9_tokenEnd_33 : decode cX9_tokenEnd 33 = .ok (.goto (-17), 3) := by decide +kernel
theorem dX9_tokenEnd_36 : decode cX9_tokenEnd 36 = .ok (.iload_n 1, 1) := by decide +kernel
theorem dX9_tokenEnd_37 : decode cX9_tokenEnd 37 = .ok (.iload_n 2, 1) := by decide +kernel
theorem dX9_tokenEnd_38 : decode cX9_tokenEnd 38 = .ok (.if_icmp .ge 32, 3) := by decide +kernel
theorem dX9_tokenEnd_41 : decode cX9_tokenEnd 41 = .ok (.aload_n 0, 1) := by decide +kernel
theorem dX9_tokenEnd_42 : decode cX9_tokenEnd 42 = .ok (.iload_n 1, 1) := by decide +kernel
theorem dX9_tokenEnd_43 : decode cX9_tokenEnd 43 = .ok (.baload, 1) := by decide +kernel
theorem dX9_tokenEnd_44 : decode cX9_tokenEnd 44 = .ok (.invokestatic 70, 3) := by decide +kernel
theorem dX9_tokenEnd_47 : decode cX9_tokenEnd 47 = .ok (.ifCond .eq 23, 3) := by decide +kernel
theorem dX9_tokenEnd_50 : decode cX9_tokenEnd 50 = .ok (.iload_n 3, 1) := by decide +kernel
theorem dX9_tokenEnd_51 : decode cX9_tokenEnd 51 = .ok (.iload_n 2, 1) := by decide +kernel
theorem dX9_tokenEnd_52 : decode cX9_tokenEnd 52 = .ok (.if_icmp .ge 26, 3) := by decide +kernel
theorem dX9_tokenEnd_55 : decode cX9_tokenEnd 55 = .ok (.aload_n 0, 1) := by decide +kernel
theorem dX9_tokenEnd_56 : decode cX9_tokenEnd 56 = .ok (.iload_n 3, 1) := by decide +kernel
theorem dX9_tokenEnd_57 : decode cX9_tokenEnd 57 = .ok (.baload, 1) := by decide +kernel
theorem dX9_tokenEnd_58 : decode cX9_tokenEnd 58 = .ok (.invokestatic 70, 3) := by decide +kernel
theorem dX9_tokenEnd_61 : decode cX9_tokenEnd 61 = .ok (.ifCond .eq 17, 3) := by decide +kernel
theorem dX9_tokenEnd_64 : decode cX9_tokenEnd 64 = .ok (.iinc 3 1, 3) := by decide +kernel
theorem dX9_tokenEnd_67 : decode cX9_tokenEnd 67 = .ok (.goto (-17), 3) := by decide +kernel
theorem dX9_tokenEnd_70 : decode cX9_tokenEnd 70 = .ok (.iload_n 1, 1) := by decide +kernel
theorem dX9_tokenEnd_71 : decode cX9_tokenEnd 71 = .ok (.iload_n 2, 1) := by decide +kernel
theorem dX9_tokenEnd_72 : decode cX9_tokenEnd 72 = .ok (.if_icmp .ge 6, 3) := by decide +kernel
theorem dX9_tokenEnd_75 : decode cX9_tokenEnd 75 = .ok (.iinc 3 1, 3) := by decide +kernel
theorem dX9_tokenEnd_78 : decode cX9_tokenEnd 78 = .ok (.iload_n 3, 1) := by decide +kernel
theorem dX9_tokenEnd_79 : decode cX9_tokenEnd 79 = .ok (.ireturn, 1) := by decide +kernel
theorem dX9_kindOf_0 : decode cX9_kindOf 0 = .ok (.iload_n 2, 1) := by decide +kernel
theorem dX9_kindOf_1 : decode cX9_kindOf 1 = .ok (.iload_n 3, 1) := by decide +kernel
theorem dX9_kindOf_2 : decode cX9_kindOf 2 = .ok (.if_icmp .lt 5, 3) := by decide +kernel
theorem dX9_kindOf_5 : decode cX9_kindOf 5 = .ok (.iconst 0, 1) := by decide +kernel
theorem dX9_kindOf_6 : decode cX9_kindOf 6 = .ok (.ireturn, 1) := by decide +kernel
theorem dX9_kindOf_7 : decode cX9_kindOf 7 = .ok (.aload_n 1, 1) := by decide +kernel
theorem dX9_kindOf_8 : decode cX9_kindOf 8 = .ok (.iload_n 2, 1) := by decide +kernel
theorem dX9_kindOf_9 : decode cX9_kindOf 9 = .ok (.baload, 1) := by decide +kernel
theorem dX9_kindOf_10 : decode cX9_kindOf 10 = .ok (.invokestatic 67, 3) := by decide +kernel
theorem dX9_kindOf_13 : decode cX9_kindOf 13 = .ok (.ifCond .eq 23, 3) := by decide +kernel
theorem dX9_kindOf_16 : decode cX9_kindOf 16 = .ok (.iload_n 3, 1) := by decide +kernel
theorem dX9_kindOf_17 : decode cX9_kindOf 17 = .ok (.iload_n 2, 1) := by decide +kernel
theorem dX9_kindOf_18 : decode cX9_kindOf 18 = .ok (.isub, 1) := by decide +kernel
theorem dX9_kindOf_19 : decode cX9_kindOf 19 = .ok (.bipush 8, 2) := by decide +kernel
theorem dX9_kindOf_21 : decode cX9_kindOf 21 = .ok (.if_icmp .le 7, 3) := by decide +kernel
theorem dX9_kindOf_24 : decode cX9_kindOf 24 = .ok (.iconst 1, 1) := by decide +kernel
theorem dX9_kindOf_25 : decode cX9_kindOf 25 = .ok (.goto 10, 3) := by decide +kernel
theorem dX9_kindOf_28 : decode cX9_kindOf 28 = .ok (.aload_n 0, 1) := by decide +kernel
theorem dX9_kindOf_29 : decode cX9_kindOf 29 = .ok (.aload_n 1, 1) := by decide +kernel
theorem dX9_kindOf_30 : decode cX9_kindOf 30 = .ok (.iload_n 2, 1) := by decide +kernel
theorem dX9_kindOf_31 : decode cX9_kindOf 31 = .ok (.iload_n 3, 1) := by decide +kernel
theorem dX9_kindOf_32 : decode cX9_kindOf 32 = .ok (.invokevirtual 73, 3) := by decide +kernel
theorem dX9_kindOf_35 : decode cX9_kindOf 35 = .ok (.ireturn, 1) := by decide +kernel
theorem dX9_kindOf_36 : decode cX9_kindOf 36 = .ok (.aload_n 1, 1) := by decide +kernel
theorem dX9_kindOf_37 : decode cX9_kindOf 37 = .ok (.iload_n 2, 1) := by decide +kernel
theorem dX9_kindOf_38 : decode cX9_kindOf 38 = .ok (.baload, 1) := by decide +kernel
theorem dX9_kindOf_39 : decode cX9_kindOf 39 = .ok (.invokestatic 70, 3) := by decide +kernel
theorem dX9_kindOf_42 : decode cX9_kindOf 42 = .ok (.ifCond .eq 22, 3) := by decide +kernel
theorem dX9_kindOf_45 : decode cX9_kindOf 45 = .ok (.iload_n 3, 1) := by decide +kernel
theorem dX9_kindOf_46 : decode cX9_kindOf 46 = .ok (.iload_n 2, 1) := by decide +kernel
theorem dX9_kindOf_47 : decode cX9_kindOf 47 = .ok (.isub, 1) := by decide +kernel
theorem dX9_kindOf_48 : decode cX9_kindOf 48 = .ok (.iconst 4, 1) := by decide +kernel
theorem dX9_kindOf_49 : decode cX9_kindOf 49 = .ok (.if_icmp .le 7, 3) := by decide +kernel
theorem dX9_kindOf_52 : decode cX9_kindOf 52 = .ok (.iconst 1, 1) := by decide +kernel
theorem dX9_kindOf_53 : decode cX9_kindOf 53 = .ok (.goto 10, 3) := by decide +kernel
theorem dX9_kindOf_56 : decode cX9_kindOf 56 = .ok (.aload_n 0, 1) := by decide +kernel
theorem dX9_kindOf_57 : decode cX9_kindOf 57 = .ok (.aload_n 1, 1) := by decide +kernel
theorem dX9_kindOf_58 : decode cX9_kindOf 58 = .ok (.iload_n 2, 1) := by decide +kernel
theorem dX9_kindOf_59 : decode cX9_kindOf 59 = .ok (.iload_n 3, 1) := by decide +kernel
theorem dX9_kindOf_60 : decode cX9_kindOf 60 = .ok (.invokevirtual 76, 3) := by decide +kernel
theorem dX9_kindOf_63 : decode cX9_kindOf 63 = .ok (.ireturn, 1) := by decide +kernel
theorem dX9_kindOf_64 : decode cX9_kindOf 64 = .ok (.aload_n 1, 1) := by decide +kernel
theorem dX9_kindOf_65 : decode cX9_kindOf 65 = .ok (.iload_n 2, 1) := by decide +kernel
theorem dX9_kindOf_66 : decode cX9_kindOf 66 = .ok (.baload, 1) := by decide +kernel
theorem dX9_kindOf_67 : decode cX9_kindOf 67 = .ok (.sipush 255, 3) := by decide +kernel
theorem dX9_kindOf_70 : decode cX9_kindOf 70 = .ok (.iand, 1) := by decide +kernel
theorem dX9_kindOf_71 : decode cX9_kindOf 71 = .ok (.i2c, 1) := by decide +kernel
theorem dX9_kindOf_72 : decode cX9_kindOf 72 = .ok (.istore 4, 2) := by decide +kernel
theorem dX9_kindOf_74 : decode cX9_kindOf 74 = .ok (.ldc 79, 2) := by decide +kernel
theorem dX9_kindOf_76 : decode cX9_kindOf 76 = .ok (.iload 4, 2) := by decide +kernel
theorem dX9_kindOf_78 : decode cX9_kindOf 78 = .ok (.invokevirtual 81, 3) := by decide +kernel
theorem dX9_kindOf_81 : decode cX9_kindOf 81 = .ok (.ifCond .lt 8, 3) := by decide +kernel
theorem dX9_kindOf_84 : decode cX9_kindOf 84 = .ok (.iload 4, 2) := by decide +kernel
theorem dX9_kindOf_86 : decode cX9_kindOf 86 = .ok (.goto 4, 3) := by decide +kernel
theorem dX9_kindOf_89 : decode cX9_kindOf 89 = .ok (.iconst 1, 1) := by decide +kernel
theorem dX9_kindOf_90 : decode cX9_kindOf 90 = .ok (.ireturn, 1) := by decide +kernel
theorem dX9_wordKind_0 : decode cX9_wordKind 0 = .ok (.lconst 0, 1) := by decide +kernel
theorem dX9_wordKind_1 : decode cX9_wordKind 1 = .ok (.lstore 4, 2) := by decide +kernel
theorem dX9_wordKind_3 : decode cX9_wordKind 3 = .ok (.iload_n 2, 1) := by decide +kernel
theorem dX9_wordKind_4 : decode cX9_wordKind 4 = .ok (.istore 6, 2) := by decide +kernel
theorem dX9_wordKind_6 : decode cX9_wordKind 6 = .ok (.iload 6, 2) := by decide +kernel
theorem dX9_wordKind_8 : decode cX9_wordKind 8 = .ok (.iload_n 3, 1) := by decide +kernel
theorem dX9_wordKind_9 : decode cX9_wordKind 9 = .ok (.if_icmp .ge 20, 3) := by decide +kernel
theorem dX9_wordKind_12 : decode cX9_wordKind 12 = .ok (.lload 4, 2) := by decide +kernel
theorem dX9_wordKind_14 : decode cX9_wordKind 14 = .ok (.aload_n 1, 1) := by decide +kernel
theorem dX9_wordKind_15 : decode cX9_wordKind 15 = .ok (.iload 6, 2) := by decide +kernel
theorem dX9_wordKind_17 : decode cX9_wordKind 17 = .ok (.baload, 1) := by decide +kernel
theorem dX9_wordKind_18 : decode cX9_wordKind 18 = .ok (.invokestatic 37, 3) := by decide +kernel
theorem dX9_wordKind_21 : decode cX9_wordKind 21 = .ok (.lstore 4, 2) := by decide +kernel
theorem dX9_wordKind_23 : decode cX9_wordKind 23 = .ok (.iinc 6 1, 3) := by decide +kernel
theorem dX9_wordKind_26 : decode cX9_wordKind 26 = .ok (.goto (-20), 3) := by decide +kernel
theorem dX9_wordKind_29 : decode cX9_wordKind 29 = .ok (.aload_n 0, 1) := by decide +kernel
theorem dX9_wordKind_30 : decode cX9_wordKind 30 = .ok (.getfield 22, 3) := by decide +kernel
theorem dX9_wordKind_33 : decode cX9_wordKind 33 = .ok (.aload_n 0, 1) := by decide +kernel
theorem dX9_wordKind_34 : decode cX9_wordKind 34 = .ok (.getfield 49, 3) := by decide +kernel
theorem dX9_wordKind_37 : decode cX9_wordKind 37 = .ok (.lload 4, 2) := by decide +kernel
theorem dX9_wordKind_39 : decode cX9_wordKind 39 = .ok (.lastore, 1) := by decide +kernel
theorem dX9_wordKind_40 : decode cX9_wordKind 40 = .ok (.iconst 0, 1) := by decide +kernel
theorem dX9_wordKind_41 : decode cX9_wordKind 41 = .ok (.istore 6, 2) := by decide +kernel
theorem dX9_wordKind_43 : decode cX9_wordKind 43 = .ok (.iload 6, 2) := by decide +kernel
theorem dX9_wordKind_45 : decode cX9_wordKind 45 = .ok (.bipush 24, 2) := by decide +kernel
theorem dX9_wordKind_47 : decode cX9_wordKind 47 = .ok (.if_icmp .ge 29, 3) := by decide +kernel
theorem dX9_wordKind_50 : decode cX9_wordKind 50 = .ok (.aload_n 0, 1) := by decide +kernel
theorem dX9_wordKind_51 : decode cX9_wordKind 51 = .ok (.getfield 9, 3) := by decide +kernel
theorem dX9_wordKind_54 : decode cX9_wordKind 54 = .ok (.iload 6, 2) := by decide +kernel
theorem dX9_wordKind_56 : decode cX9_wordKind 56 = .ok (.laload, 1) := by decide +kernel
theorem dX9_wordKind_57 : decode cX9_wordKind 57 = .ok (.lload 4, 2) := by decide +kernel
theorem dX9_wordKind_59 : decode cX9_wordKind 59 = .ok (.lcmp, 1) := by decide +kernel
theorem dX9_wordKind_60 : decode cX9_wordKind 60 = .ok (.ifCond .ne 10, 3) := by decide +kernel
theorem dX9_wordKind_63 : decode cX9_wordKind 63 = .ok (.sipush 128, 3) := by decide +kernel
theorem dX9_wordKind_66 : decode cX9_wordKind 66 = .ok (.iload 6, 2) := by decide +kernel
theorem dX9_wordKind_68 : decode cX9_wordKind 68 = .ok (.iadd, 1) := by decide +kernel
theorem dX9_wordKind_69 : decode cX9_wordKind 69 = .ok (.ireturn, 1) := by decide +kernel
theorem dX9_wordKind_70 : decode cX9_wordKind 70 = .ok (.iinc 6 1, 3) := by decide +kernel
theorem dX9_wordKind_73 : decode cX9_wordKind 73 = .ok (.goto (-30), 3) := by decide +kernel
theorem dX9_wordKind_76 : decode cX9_wordKind 76 = .ok (.iconst 2, 1) := by decide +kernel
theorem dX9_wordKind_77 : decode cX9_wordKind 77 = .ok (.ireturn, 1) := by decide +kernel
theorem dX9_numberKind_0 : decode cX9_numberKind 0 = .ok (.iconst 0, 1) := by decide +kernel
theorem dX9_numberKind_1 : decode cX9_numberKind 1 = .ok (.istore 4, 2) := by decide +kernel
theorem dX9_numberKind_3 : decode cX9_numberKind 3 = .ok (.iload_n 2, 1) := by decide +kernel
theorem dX9_numberKind_4 : decode cX9_numberKind 4 = .ok (.istore 5, 2) := by decide +kernel
theorem dX9_numberKind_6 : decode cX9_numberKind 6 = .ok (.iload 5, 2) := by decide +kernel
theorem dX9_numberKind_8 : decode cX9_numberKind 8 = .ok (.iload_n 3, 1) := by decide +kernel
theorem dX9_numberKind_9 : decode cX9_numberKind 9 = .ok (.if_icmp .ge 24, 3) := by decide +kernel
theorem dX9_numberKind_12 : decode cX9_numberKind 12 = .ok (.iload 4, 2) := by decide +kernel
theorem dX9_numberKind_14 : decode cX9_numberKind 14 = .ok (.bipush 10, 2) := by decide +kernel
theorem dX9_numberKind_16 : decode cX9_numberKind 16 = .ok (.imul, 1) := by decide +kernel
theorem dX9_numberKind_17 : decode cX9_numberKind 17 = .ok (.aload_n 1, 1) := by decide +kernel
theorem dX9_numberKind_18 : decode cX9_numberKind 18 = .ok (.iload 5, 2) := by decide +kernel
theorem dX9_numberKind_20 : decode cX9_numberKind 20 = .ok (.baload, 1) := by decide +kernel
theorem dX9_numberKind_21 : decode cX9_numberKind 21 = .ok (.bipush 48, 2) := by decide +kernel
theorem dX9_numberKind_23 : decode cX9_numberKind 23 = .ok (.isub, 1) := by decide +kernel
theorem dX9_numberKind_24 : decode cX9_numberKind 24 = .ok (.iadd, 1) := by decide +kernel
theorem dX9_numberKind_25 : decode cX9_numberKind 25 = .ok (.istore 4, 2) := by decide +kernel
theorem dX9_numberKind_27 : decode cX9_numberKind 27 = .ok (.iinc 5 1, 3) := by decide +kernel
theorem dX9_numberKind_30 : decode cX9_numberKind 30 = .ok (.goto (-24), 3) := by decide +kernel
theorem dX9_numberKind_33 : decode cX9_numberKind 33 = .ok (.aload_n 0, 1) := by decide +kernel
theorem dX9_numberKind_34 : decode cX9_numberKind 34 = .ok (.getfield 22, 3) := by decide +kernel
theorem dX9_numberKind_37 : decode cX9_numberKind 37 = .ok (.aload_n 0, 1) := by decide +kernel
theorem dX9_numberKind_38 : decode cX9_numberKind 38 = .ok (.getfield 49, 3) := by decide +kernel
theorem dX9_numberKind_41 : decode cX9_numberKind 41 = .ok (.iload 4, 2) := by decide +kernel
theorem dX9_numberKind_43 : decode cX9_numberKind 43 = .ok (.i2l, 1) := by decide +kernel
theorem dX9_numberKind_44 : decode cX9_numberKind 44 = .ok (.lastore, 1) := by decide +kernel
theorem dX9_numberKind_45 : decode cX9_numberKind 45 = .ok (.iconst 3, 1) := by decide +kernel
theorem dX9_numberKind_46 : decode cX9_numberKind 46 = .ok (.ireturn, 1) := by decide +kernel
theorem dX9_isBlank_0 : decode cX9_isBlank 0 = .ok (.iload_n 0, 1) := by decide +kernel
theorem dX9_isBlank_1 : decode cX9_isBlank 1 = .ok (.bipush 9, 2) := by decide +kernel
theorem dX9_isBlank_3 : decode cX9_isBlank 3 = .ok (.if_icmp .eq 21, 3) := by decide +kernel
theorem dX9_isBlank_6 : decode cX9_isBlank 6 = .ok (.iload_n 0, 1) := by decide +kernel
theorem dX9_isBlank_7 : decode cX9_isBlank 7 = .ok (.bipush 10, 2) := by decide +kernel
theorem dX9_isBlank_9 : decode cX9_isBlank 9 = .ok (.if_icmp .eq 15, 3) := by decide +kernel
theorem dX9_isBlank_12 : decode cX9_isBlank 12 = .ok (.iload_n 0, 1) := by decide +kernel
theorem dX9_isBlank_13 : decode cX9_isBlank 13 = .ok (.bipush 13, 2) := by decide +kernel
theorem dX9_isBlank_15 : decode cX9_isBlank 15 = .ok (.if_icmp .eq 9, 3) := by decide +kernel
theorem dX9_isBlank_18 : decode cX9_isBlank 18 = .ok (.iload_n 0, 1) := by decide +kernel
theorem dX9_isBlank_19 : decode cX9_isBlank 19 = .ok (.bipush 32, 2) := by decide +kernel
theorem dX9_isBlank_21 : decode cX9_isBlank 21 = .ok (.if_icmp .ne 7, 3) := by decide +kernel
theorem dX9_isBlank_24 : decode cX9_isBlank 24 = .ok (.iconst 1, 1) := by decide +kernel
theorem dX9_isBlank_25 : decode cX9_isBlank 25 = .ok (.goto 4, 3) := by decide +kernel
theorem dX9_isBlank_28 : decode cX9_isBlank 28 = .ok (.iconst 0, 1) := by decide +kernel
theorem dX9_isBlank_29 : decode cX9_isBlank 29 = .ok (.ireturn, 1) := by decide +kernel
theorem dX9_isLetter_0 : decode cX9_isLetter 0 = .ok (.iload_n 0, 1) := by decide +kernel
theorem dX9_isLetter_1 : decode cX9_isLetter 1 = .ok (.bipush 97, 2) := by decide +kernel
theorem dX9_isLetter_3 : decode cX9_isLetter 3 = .ok (.if_icmp .lt 13, 3) := by decide +kernel
theorem dX9_isLetter_6 : decode cX9_isLetter 6 = .ok (.iload_n 0, 1) := by decide +kernel
theorem dX9_isLetter_7 : decode cX9_isLetter 7 = .ok (.bipush 122, 2) := by decide +kernel
theorem dX9_isLetter_9 : decode cX9_isLetter 9 = .ok (.if_icmp .gt 7, 3) := by decide +kernel
theorem dX9_isLetter_12 : decode cX9_isLetter 12 = .ok (.iconst 1, 1) := by decide +kernel
theorem dX9_isLetter_13 : decode cX9_isLetter 13 = .ok (.goto 4, 3) := by decide +kernel
theorem dX9_isLetter_16 : decode cX9_isLetter 16 = .ok (.iconst 0, 1) := by decide +kernel
theorem dX9_isLetter_17 : decode cX9_isLetter 17 = .ok (.ireturn, 1) := by decide +kernel
theorem dX9_isDigit_0 : decode cX9_isDigit 0 = .ok (.iload_n 0, 1) := by decide +kernel
theorem dX9_isDigit_1 : decode cX9_isDigit 1 = .ok (.bipush 48, 2) := by decide +kernel
theorem dX9_isDigit_3 : decode cX9_isDigit 3 = .ok (.if_icmp .lt 13, 3) := by decide +kernel
theorem dX9_isDigit_6 : decode cX9_isDigit 6 = .ok (.iload_n 0, 1) := by decide +kernel
theorem dX9_isDigit_7 : decode cX9_isDigit 7 = .ok (.bipush 57, 2) := by decide +kernel
theorem dX9_isDigit_9 : decode cX9_isDigit 9 = .ok (.if_icmp .gt 7, 3) := by decide +kernel
theorem dX9_isDigit_12 : decode cX9_isDigit 12 = .ok (.iconst 1, 1) := by decide +kernel
theorem dX9_isDigit_13 : decode cX9_isDigit 13 = .ok (.goto 4, 3) := by decide +kernel
theorem dX9_isDigit_16 : decode cX9_isDigit 16 = .ok (.iconst 0, 1) := by decide +kernel
theorem dX9_isDigit_17 : decode cX9_isDigit 17 = .ok (.ireturn, 1) := by decide +kernel

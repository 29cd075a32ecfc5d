theorem dX10_init_0 : decode cX10_init 0 = .ok (.aload_n 0, 1) := by decide +kernel
theorem dX10_init_1 : decode cX10_init 1 = .ok (.invokespecial 1, 3) := by decide +kernel
theorem dX10_init_4 : decode cX10_init 4 = .ok (.aload_n 0, 1) := by decide +kernel
theorem dX10_init_5 : decode cX10_init 5 = .ok (.sipush 2000, 3) := by decide +kernel
theorem dX10_init_8 : decode cX10_init 8 = .ok (.newarray .byte, 2) := by decide +kernel
theorem dX10_init_10 : decode cX10_init 10 = .ok (.putfield 9, 3) := by decide +kernel
theorem dX10_init_13 : decode cX10_init 13 = .ok (.aload_n 0, 1) := by decide +kernel
theorem dX10_init_14 : decode cX10_init 14 = .ok (.iconst (-1), 1) := by decide +kernel
theorem dX10_init_15 : decode cX10_init 15 = .ok (.putfield 13, 3) := by decide +kernel
theorem dX10_init_18 : decode cX10_init 18 = .ok (.aload_n 0, 1) := by decide +kernel
theorem dX10_init_19 : decode cX10_init 19 = .ok (.new 17, 3) := by decide +kernel
theorem dX10_init_22 : decode cX10_init 22 = .ok (.dup, 1) := by decide +kernel
theorem dX10_init_23 : decode cX10_init 23 = .ok (.invokespecial 19, 3) := by decide +kernel
theorem dX10_init_26 : decode cX10_init 26 = .ok (.putfield 20, 3) := by decide +kernel
theorem dX10_init_29 : decode cX10_init 29 = .ok (.aload_n 0, 1) := by decide +kernel
theorem dX10_init_30 : decode cX10_init 30 = .ok (.new 24, 3) := by decide +kernel
theorem dX10_init_33 : decode cX10_init 33 = .ok (.dup, 1) := by decide +kernel
theorem dX10_init_34 : decode cX10_init 34 = .ok (.invokespecial 26, 3) := by decide +kernel
theorem dX10_init_37 : decode cX10_init 37 = .ok (.putfield 27, 3) := by decide +kernel
theorem dX10_init_40 : decode cX10_init 40 = .ok (.aload_n 0, 1) := by decide +kernel
theorem dX10_init_41 : decode cX10_init 41 = .ok (.bipush 48, 2) := by decide +kernel
theorem dX10_init_43 : decode cX10_init 43 = .ok (.newarray .int, 2) := by decide +kernel
theorem dX10_init_45 : decode cX10_init 45 = .ok (.putfield 31, 3) := by decide +kernel
theorem dX10_init_48 : decode cX10_init 48 = .ok (.aload_n 0, 1) := by decide +kernel
theorem dX10_init_49 : decode cX10_init 49 = .ok (.new 35, 3) := by decide +kernel
theorem dX10_init_52 : decode cX10_init 52 = .ok (.dup, 1) := by decide +kernel
theorem dX10_init_53 : decode cX10_init 53 = .ok (.invokespecial 37, 3) := by decide +kernel
theorem dX10_init_56 : decode cX10_init 56 = .ok (.putfield 38, 3) := by decide +kernel
theorem dX10_init_59 : decode cX10_init 59 = .ok (.aload_n 0, 1) := by decide +kernel
theorem dX10_init_60 : decode cX10_init 60 = .ok (.new 42, 3) := by decide +kernel
theorem dX10_init_63 : decode cX10_init 63 = .ok (.dup, 1) := by decide +kernel
theorem dX10_init_64 : decode cX10_init 64 = .ok (.aload_n 0, 1) := by decide +kernel
theorem dX10_init_65 : decode cX10_init 65 = .ok (.getfield 20, 3) := by decide +kernel
theorem dX10_init_68 : decode cX10_init 68 = .ok (.invokespecial 44, 3) := by decide +kernel
theorem dX10_init_71 : decode cX10_init 71 = .ok (.putfield 47, 3) := by decide +kernel
theorem dX10_init_74 : decode cX10_init 74 = .ok (.aload_n 0, 1) := by decide +kernel
theorem dX10_init_75 : decode cX10_init 75 = .ok (.new 51, 3) := by decide +kernel
theorem dX10_init_78 : decode cX10_init 78 = .ok (.dup, 1) := by decide +kernel
theorem dX10_init_79 : decode cX10_init 79 = .ok (.aload_n 0, 1) := by decide +kernel
theorem dX10_init_80 : decode cX10_init 80 = .ok (.getfield 20, 3) := by decide +kernel
theorem dX10_init_83 : decode cX10_init 83 = .ok (.aload_n 0, 1) := by decide +kernel
theorem dX10_init_84 : decode cX10_init 84 = .ok (.getfield 47, 3) := by decide +kernel
theorem dX10_init_87 : decode cX10_init 87 = .ok (.invokespecial 53, 3) := by decide +kernel
theorem dX10_init_90 : decode cX10_init 90 = .ok (.putfield 56, 3) := by decide +kernel
theorem dX10_init_93 : decode cX10_init 93 = .ok (.aload_n 0, 1) := by decide +kernel
theorem dX10_init_94 : decode cX10_init 94 = .ok (.new 60, 3) := by decide +kernel
theorem dX10_init_97 : decode cX10_init 97 = .ok (.dup, 1) := by decide +kernel
theorem dX10_init_98 : decode cX10_init 98 = .ok (.aload_n 0, 1) := by decide +kernel
theorem dX10_init_99 : decode cX10_init 99 = .ok (.getfield 20, 3) := by decide +kernel
theorem dX10_init_102 : decode cX10_init 102 = .ok (.aload_n 0, 1) := by decide +kernel
theorem dX10_init_103 : decode cX10_init 103 = .ok (.getfield 47, 3) := by decide +kernel
theorem dX10_init_106 : decode cX10_init 106 = .ok (.invokespecial 62, 3) := by decide +kernel
theorem dX10_init_109 : decode cX10_init 109 = .ok (.putfield 63, 3) := by decide +kernel
theorem dX10_init_112 : decode cX10_init 112 = .ok (.aload_n 0, 1) := by decide +kernel
theorem dX10_init_113 : decode cX10_init 113 = .ok (.new 67, 3) := by decide +kernel
theorem dX10_init_116 : decode cX10_init 116 = .ok (.dup, 1) := by decide +kernel
theorem dX10_init_117 : decode cX10_init 117 = .ok (.aload_n 0, 1) := by decide +kernel
theorem dX10_init_118 : decode cX10_init 118 = .ok (.getfield 20, 3) := by decide +kernel
theorem dX10_init_121 : decode cX10_init 121 = .ok (.aload_n 0, 1) := by decide +kernel
theorem dX10_init_122 : decode cX10_init 122 = .ok (.getfield 47, 3) := by decide +kernel
theorem dX10_init_125 : decode cX10_init 125 = .ok (.invokespecial 69, 3) := by decide +kernel
theorem dX10_init_128 : decode cX10_init 128 = .ok (.putfield 70, 3) := by decide +kernel
theorem dX10_init_131 : decode cX10_init 131 = .ok (.aload_n 0, 1) := by decide +kernel
theorem dX10_init_132 : decode cX10_init 132 = .ok (.getfield 20, 3) := by decide +kernel
theorem dX10_init_135 : decode cX10_init 135 = .ok (.invokevirtual 74, 3) := by decide +kernel
theorem dX10_init_138 : decode cX10_init 138 = .ok (.aload_n 0, 1) := by decide +kernel
theorem dX10_init_139 : decode cX10_init 139 = .ok (.getfield 20, 3) := by decide +kernel
theorem dX10_init_142 : decode cX10_init 142 = .ok (.aload_n 0, 1) := by decide +kernel
theorem dX10_init_143 : decode cX10_init 143 = .ok (.getfield 31, 3) := by decide +kernel
theorem dX10_init_146 : decode cX10_init 146 = .ok (.invokevirtual 77, 3) := by decide +kernel
theorem dX10_init_149 : decode cX10_init 149 = .ok (.return_, 1) := by decide +kernel
theorem dX10_feed_0 : decode cX10_feed 0 = .ok (.aload_n 0, 1) := by decide +kernel
theorem dX10_feed_1 : decode cX10_feed 1 = .ok (.getfield 81, 3) := by decide +kernel
theorem dX10_feed_4 : decode cX10_feed 4 = .ok (.sipush 1980, 3) := by decide +kernel
theorem dX10_feed_7 : decode cX10_feed 7 = .ok (.if_icmp .le 5, 3) := by decide +kernel
theorem dX10_feed_10 : decode cX10_feed 10 = .ok (.iconst (-1), 1) := by decide +kernel
theorem dX10_feed_11 : decode cX10_feed 11 = .ok (.ireturn, 1) := by decide +kernel
theorem dX10_feed_12 : decode cX10_feed 12 = .ok (.aload_n 0, 1) := by decide +kernel
theorem dX10_feed_13 : decode cX10_feed 13 = .ok (.iload_n 1, 1) := by decide +kernel
theorem dX10_feed_14 : decode cX10_feed 14 = .ok (.invokevirtual 84, 3) := by decide +kernel
theorem dX10_feed_17 : decode cX10_feed 17 = .ok (.aload_n 0, 1) := by decide +kernel
theorem dX10_feed_18 : decode cX10_feed 18 = .ok (.iload_n 2, 1) := by decide +kernel
theorem dX10_feed_19 : decode cX10_feed 19 = .ok (.invokevirtual 84, 3) := by decide +kernel
theorem dX10_feed_22 : decode cX10_feed 22 = .ok (.aload_n 0, 1) := by decide +kernel
theorem dX10_feed_23 : decode cX10_feed 23 = .ok (.iload_n 3, 1) := by decide +kernel
theorem dX10_feed_24 : decode cX10_feed 24 = .ok (.invokevirtual 84, 3) := by decide +kernel
theorem dX10_feed_27 : decode cX10_feed 27 = .ok (.aload_n 0, 1) := by decide +kernel
theorem dX10_feed_28 : decode cX10_feed 28 = .ok (.iload 4, 2) := by decide +kernel
theorem dX10_feed_30 : decode cX10_feed 30 = .ok (.invokevirtual 84, 3) := by decide +kernel
theorem dX10_feed_33 : decode cX10_feed 33 = .ok (.aload_n 0, 1) := by decide +kernel
theorem dX10_feed_34 : decode cX10_feed 34 = .ok (.iload 5, 2) := by decide +kernel
theorem dX10_feed_36 : decode cX10_feed 36 = .ok (.invokevirtual 84, 3) := by decide +kernel
theorem dX10_feed_39 : decode cX10_feed 39 = .ok (.aload_n 0, 1) := by decide +kernel
theorem dX10_feed_40 : decode cX10_feed 40 = .ok (.getfield 81, 3) := by decide +kernel
theorem dX10_feed_43 : decode cX10_feed 43 = .ok (.ireturn, 1) := by decide +kernel
theorem dX10_addBytes_0 : decode cX10_addBytes 0 = .ok (.bipush 24, 2) := by decide +kernel
theorem dX10_addBytes_2 : decode cX10_addBytes 2 = .ok (.istore_n 2, 1) := by decide +kernel
theorem dX10_addBytes_3 : decode cX10_addBytes 3 = .ok (.iload_n 2, 1) := by decide +kernel
theorem dX10_addBytes_4 : decode cX10_addBytes 4 = .ok (.ifCond .lt 49, 3) := by decide +kernel
theorem dX10_addBytes_7 : decode cX10_addBytes 7 = .ok (.aload_n 0, 1) := by decide +kernel
theorem dX10_addBytes_8 : decode cX10_addBytes 8 = .ok (.getfield 81, 3) := by decide +kernel
theorem dX10_addBytes_11 : decode cX10_addBytes 11 = .ok (.ifCond .lt 36, 3) := by decide +kernel
theorem dX10_addBytes_14 : decode cX10_addBytes 14 = .ok (.aload_n 0, 1) := by decide +kernel
theorem dX10_addBytes_15 : decode cX10_addBytes 15 = .ok (.getfield 81, 3) := by decide +kernel
theorem dX10_addBytes_18 : decode cX10_addBytes 18 = .ok (.sipush 2000, 3) := by decide +kernel
theorem dX10_addBytes_21 : decode cX10_addBytes 21 = .ok (.if_icmp .ge 26, 3) := by decide +kernel
theorem dX10_addBytes_24 : decode cX10_addBytes 24 = .ok (.aload_n 0, 1) := by decide +kernel
theorem dX10_addBytes_25 : decode cX10_addBytes 25 = .ok (.getfield 9, 3) := by decide +kernel
theorem dX10_addBytes_28 : decode cX10_addBytes 28 = .ok (.aload_n 0, 1) := by decide +kernel
theorem dX10_addBytes_29 : decode cX10_addBytes 29 = .ok (.getfield 81, 3) := by decide +kernel
theorem dX10_addBytes_32 : decode cX10_addBytes 32 = .ok (.iload_n 1, 1) := by decide +kernel
theorem dX10_addBytes_33 : decode cX10_addBytes 33 = .ok (.iload_n 2, 1) := by decide +kernel
theorem dX10_addBytes_34 : decode cX10_addBytes 34 = .ok (.iushr, 1) := by decide +kernel
theorem dX10_addBytes_35 : decode cX10_addBytes 35 = .ok (.i2b, 1) := by decide +kernel
theorem dX10_addBytes_36 : decode cX10_addBytes 36 = .ok (.bastore, 1) := by decide +kernel
theorem dX10_addBytes_37 : decode cX10_addBytes 37 = .ok (.aload_n 0, 1) := by decide +kernel
theorem dX10_addBytes_38 : decode cX10_addBytes 38 = .ok (.dup, 1) := by decide +kernel
theorem dX10_addBytes_39 : decode cX10_addBytes 39 = .ok (.getfield 81, 3) := by decide +kernel
theorem dX10_addBytes_42 : decode cX10_addBytes 42 = .ok (.iconst 1, 1) := by decide +kernel
theorem dX10_addBytes_43 : decode cX10_addBytes 43 = .ok (.iadd, 1) := by decide +kernel
theorem dX10_addBytes_44 : decode cX10_addBytes 44 = .ok (.putfield 81, 3) := by decide +kernel
theorem dX10_addBytes_47 : decode cX10_addBytes 47 = .ok (.iinc 2 (-8), 3) := by decide +kernel
theorem dX10_addBytes_50 : decode cX10_addBytes 50 = .ok (.goto (-47), 3) := by decide +kernel
theorem dX10_addBytes_53 : decode cX10_addBytes 53 = .ok (.return_, 1) := by decide +kernel
theorem dX10_back_0 : decode cX10_back 0 = .ok (.iload_n 1, 1) := by decide +kernel
theorem dX10_back_1 : decode cX10_back 1 = .ok (.ifCond .lt 11, 3) := by decide +kernel
theorem dX10_back_4 : decode cX10_back 4 = .ok (.iload_n 1, 1) := by decide +kernel
theorem dX10_back_5 : decode cX10_back 5 = .ok (.aload_n 0, 1) := by decide +kernel
theorem dX10_back_6 : decode cX10_back 6 = .ok (.getfield 81, 3) := by decide +kernel
theorem dX10_back_9 : decode cX10_back 9 = .ok (.if_icmp .le 5, 3) := by decide +kernel
theorem dX10_back_12 : decode cX10_back 12 = .ok (.iconst (-1), 1) := by decide +kernel
theorem dX10_back_13 : decode cX10_back 13 = .ok (.ireturn, 1) := by decide +kernel
theorem dX10_back_14 : decode cX10_back 14 = .ok (.aload_n 0, 1) := by decide +kernel
theorem dX10_back_15 : decode cX10_back 15 = .ok (.dup, 1) := by decide +kernel
theorem dX10_back_16 : decode cX10_back 16 = .ok (.getfield 81, 3) := by decide +kernel
theorem dX10_back_19 : decode cX10_back 19 = .ok (.iload_n 1, 1) := by decide +kernel
theorem dX10_back_20 : decode cX10_back 20 = .ok (.isub, 1) := by decide +kernel
theorem dX10_back_21 : decode cX10_back 21 = .ok (.putfield 81, 3) := by decide +kernel
theorem dX10_back_24 : decode cX10_back 24 = .ok (.aload_n 0, 1) := by decide +kernel
theorem dX10_back_25 : decode cX10_back 25 = .ok (.getfield 81, 3) := by decide +kernel
theorem dX10_back_28 : decode cX10_back 28 = .ok (.ireturn, 1) := by decide +kernel
theorem dX10_read_0 : decode cX10_read 0 = .ok (.aload_n 0, 1) := by decide +kernel
theorem dX10_read_1 : decode cX10_read 1 = .ok (.getfield 27, 3) := by decide +kernel
theorem dX10_read_4 : decode cX10_read 4 = .ok (.aload_n 0, 1) := by decide +kernel
theorem dX10_read_5 : decode cX10_read 5 = .ok (.getfield 9, 3) := by decide +kernel
theorem dX10_read_8 : decode cX10_read 8 = .ok (.aload_n 0, 1) := by decide +kernel
theorem dX10_read_9 : decode cX10_read 9 = .ok (.getfield 81, 3) := by decide +kernel
theorem dX10_read_12 : decode cX10_read 12 = .ok (.invokevirtual 88, 3) := by decide +kernel
theorem dX10_read_15 : decode cX10_read 15 = .ok (.istore_n 1, 1) := by decide +kernel
theorem dX10_read_16 : decode cX10_read 16 = .ok (.aload_n 0, 1) := by decide +kernel
theorem dX10_read_17 : decode cX10_read 17 = .ok (.iconst 0, 1) := by decide +kernel
theorem dX10_read_18 : decode cX10_read 18 = .ok (.putfield 81, 3) := by decide +kernel
theorem dX10_read_21 : decode cX10_read 21 = .ok (.aload_n 0, 1) := by decide +kernel
theorem dX10_read_22 : decode cX10_read 22 = .ok (.aload_n 0, 1) := by decide +kernel
theorem dX10_read_23 : decode cX10_read 23 = .ok (.getfield 27, 3) := by decide +kernel
theorem dX10_read_26 : decode cX10_read 26 = .ok (.getfield 92, 3) := by decide +kernel
theorem dX10_read_29 : decode cX10_read 29 = .ok (.putfield 13, 3) := by decide +kernel
theorem dX10_read_32 : decode cX10_read 32 = .ok (.iload_n 1, 1) := by decide +kernel
theorem dX10_read_33 : decode cX10_read 33 = .ok (.ifCond .ne 49, 3) := by decide +kernel
theorem dX10_read_36 : decode cX10_read 36 = .ok (.aload_n 0, 1) := by decide +kernel
theorem dX10_read_37 : decode cX10_read 37 = .ok (.getfield 20, 3) := by decide +kernel
theorem dX10_read_40 : decode cX10_read 40 = .ok (.aload_n 0, 1) := by decide +kernel
theorem dX10_read_41 : decode cX10_read 41 = .ok (.getfield 27, 3) := by decide +kernel
theorem dX10_read_44 : decode cX10_read 44 = .ok (.getfield 93, 3) := by decide +kernel
theorem dX10_read_47 : decode cX10_read 47 = .ok (.invokevirtual 96, 3) := by decide +kernel
theorem dX10_read_50 : decode cX10_read 50 = .ok (.aload_n 0, 1) := by decide +kernel
theorem dX10_read_51 : decode cX10_read 51 = .ok (.getfield 20, 3) := by decide +kernel
theorem dX10_read_54 : decode cX10_read 54 = .ok (.aload_n 0, 1) := by decide +kernel
theorem dX10_read_55 : decode cX10_read 55 = .ok (.getfield 31, 3) := by decide +kernel
theorem dX10_read_58 : decode cX10_read 58 = .ok (.invokevirtual 77, 3) := by decide +kernel
theorem dX10_read_61 : decode cX10_read 61 = .ok (.aload_n 0, 1) := by decide +kernel
theorem dX10_read_62 : decode cX10_read 62 = .ok (.getfield 38, 3) := by decide +kernel
theorem dX10_read_65 : decode cX10_read 65 = .ok (.invokevirtual 99, 3) := by decide +kernel
theorem dX10_read_68 : decode cX10_read 68 = .ok (.aload_n 0, 1) := by decide +kernel
theorem dX10_read_69 : decode cX10_read 69 = .ok (.getfield 38, 3) := by decide +kernel
theorem dX10_read_72 : decode cX10_read 72 = .ok (.invokevirtual 102, 3) := by decide +kernel
theorem dX10_read_75 : decode cX10_read 75 = .ok (.aload_n 0, 1) := by decide +kernel
theorem dX10_read_76 : decode cX10_read 76 = .ok (.getfield 70, 3) := by decide +kernel
theorem dX10_read_79 : decode cX10_read 79 = .ok (.invokevirtual 105, 3) := by decide +kernel
theorem dX10_read_82 : decode cX10_read 82 = .ok (.iload_n 1, 1) := by decide +kernel
theorem dX10_read_83 : decode cX10_read 83 = .ok (.ireturn, 1) := by decide +kernel
theorem dX10_place_0 : decode cX10_place 0 = .ok (.aload_n 0, 1) := by decide +kernel
theorem dX10_place_1 : decode cX10_place 1 = .ok (.getfield 13, 3) := by decide +kernel
theorem dX10_place_4 : decode cX10_place 4 = .ok (.ireturn, 1) := by decide +kernel
theorem dX10_spouse_0 : decode cX10_spouse 0 = .ok (.aload_n 0, 1) := by decide +kernel
theorem dX10_spouse_1 : decode cX10_spouse 1 = .ok (.getfield 20, 3) := by decide +kernel
theorem dX10_spouse_4 : decode cX10_spouse 4 = .ok (.iload_n 1, 1) := by decide +kernel
theorem dX10_spouse_5 : decode cX10_spouse 5 = .ok (.invokevirtual 106, 3) := by decide +kernel
theorem dX10_spouse_8 : decode cX10_spouse 8 = .ok (.ifCond .ne 5, 3) := by decide +kernel
theorem dX10_spouse_11 : decode cX10_spouse 11 = .ok (.iconst (-1), 1) := by decide +kernel
theorem dX10_spouse_12 : decode cX10_spouse 12 = .ok (.ireturn, 1) := by decide +kernel
theorem dX10_spouse_13 : decode cX10_spouse 13 = .ok (.iload_n 2, 1) := by decide +kernel
theorem dX10_spouse_14 : decode cX10_spouse 14 = .ok (.tableswitch 72 0 3 #[30, 39, 49, 62], 30) := by decide +kernel
theorem dX10_spouse_44 : decode cX10_spouse 44 = .ok (.aload_n 0, 1) := by decide +kernel
theorem dX10_spouse_45 : decode cX10_spouse 45 = .ok (.getfield 31, 3) := by decide +kernel
theorem dX10_spouse_48 : decode cX10_spouse 48 = .ok (.iconst 4, 1) := by decide +kernel
theorem dX10_spouse_49 : decode cX10_spouse 49 = .ok (.iload_n 1, 1) := by decide +kernel
theorem dX10_spouse_50 : decode cX10_spouse 50 = .ok (.iadd, 1) := by decide +kernel
theorem dX10_spouse_51 : decode cX10_spouse 51 = .ok (.iaload, 1) := by decide +kernel
theorem dX10_spouse_52 : decode cX10_spouse 52 = .ok (.ireturn, 1) := by decide +kernel
theorem dX10_spouse_53 : decode cX10_spouse 53 = .ok (.aload_n 0, 1) := by decide +kernel
theorem dX10_spouse_54 : decode cX10_spouse 54 = .ok (.getfield 20, 3) := by decide +kernel
theorem dX10_spouse_57 : decode cX10_spouse 57 = .ok (.getfield 110, 3) := by decide +kernel
theorem dX10_spouse_60 : decode cX10_spouse 60 = .ok (.iload_n 1, 1) := by decide +kernel
theorem dX10_spouse_61 : decode cX10_spouse 61 = .ok (.iaload, 1) := by decide +kernel
theorem dX10_spouse_62 : decode cX10_spouse 62 = .ok (.ireturn, 1) := by decide +kernel
theorem dX10_spouse_63 : decode cX10_spouse 63 = .ok (.aload_n 0, 1) := by decide +kernel
theorem dX10_spouse_64 : decode cX10_spouse 64 = .ok (.getfield 47, 3) := by decide +kernel
theorem dX10_spouse_67 : decode cX10_spouse 67 = .ok (.aload_n 0, 1) := by decide +kernel
theorem dX10_spouse_68 : decode cX10_spouse 68 = .ok (.getfield 31, 3) := by decide +kernel
theorem dX10_spouse_71 : decode cX10_spouse 71 = .ok (.iload_n 1, 1) := by decide +kernel
theorem dX10_spouse_72 : decode cX10_spouse 72 = .ok (.invokevirtual 113, 3) := by decide +kernel
theorem dX10_spouse_75 : decode cX10_spouse 75 = .ok (.ireturn, 1) := by decide +kernel
theorem dX10_spouse_76 : decode cX10_spouse 76 = .ok (.aload_n 0, 1) := by decide +kernel
theorem dX10_spouse_77 : decode cX10_spouse 77 = .ok (.getfield 31, 3) := by decide +kernel
theorem dX10_spouse_80 : decode cX10_spouse 80 = .ok (.bipush 10, 2) := by decide +kernel
theorem dX10_spouse_82 : decode cX10_spouse 82 = .ok (.iload_n 1, 1) := by decide +kernel
theorem dX10_spouse_83 : decode cX10_spouse 83 = .ok (.iadd, 1) := by decide +kernel
theorem dX10_spouse_84 : decode cX10_spouse 84 = .ok (.iaload, 1) := by decide +kernel
theorem dX10_spouse_85 : decode cX10_spouse 85 = .ok (.ireturn, 1) := by decide +kernel
theorem dX10_spouse_86 : decode cX10_spouse 86 = .ok (.iconst (-1), 1) := by decide +kernel
theorem dX10_spouse_87 : decode cX10_spouse 87 = .ok (.ireturn, 1) := by decide +kernel
theorem dX10_couple_0 : decode cX10_couple 0 = .ok (.aload_n 0, 1) := by decide +kernel
theorem dX10_couple_1 : decode cX10_couple 1 = .ok (.getfield 20, 3) := by decide +kernel
theorem dX10_couple_4 : decode cX10_couple 4 = .ok (.iload_n 1, 1) := by decide +kernel
theorem dX10_couple_5 : decode cX10_couple 5 = .ok (.invokevirtual 117, 3) := by decide +kernel
theorem dX10_couple_8 : decode cX10_couple 8 = .ok (.ifCond .ne 5, 3) := by decide +kernel
theorem dX10_couple_11 : decode cX10_couple 11 = .ok (.iconst (-1), 1) := by decide +kernel
theorem dX10_couple_12 : decode cX10_couple 12 = .ok (.ireturn, 1) := by decide +kernel
theorem dX10_couple_13 : decode cX10_couple 13 = .ok (.iload_n 2, 1) := by decide +kernel
theorem dX10_couple_14 : decode cX10_couple 14 = .ok (.tableswitch 110 0 5 #[38, 38, 52, 80, 90, 100], 38) := by decide +kernel
theorem dX10_couple_52 : decode cX10_couple 52 = .ok (.aload_n 0, 1) := by decide +kernel
theorem dX10_couple_53 : decode cX10_couple 53 = .ok (.getfield 20, 3) := by decide +kernel
theorem dX10_couple_56 : decode cX10_couple 56 = .ok (.getfield 120, 3) := by decide +kernel
theorem dX10_couple_59 : decode cX10_couple 59 = .ok (.iconst 2, 1) := by decide +kernel
theorem dX10_couple_60 : decode cX10_couple 60 = .ok (.iload_n 1, 1) := by decide +kernel
theorem dX10_couple_61 : decode cX10_couple 61 = .ok (.imul, 1) := by decide +kernel
theorem dX10_couple_62 : decode cX10_couple 62 = .ok (.iload_n 2, 1) := by decide +kernel
theorem dX10_couple_63 : decode cX10_couple 63 = .ok (.iadd, 1) := by decide +kernel
theorem dX10_couple_64 : decode cX10_couple 64 = .ok (.iaload, 1) := by decide +kernel
theorem dX10_couple_65 : decode cX10_couple 65 = .ok (.ireturn, 1) := by decide +kernel
theorem dX10_couple_66 : decode cX10_couple 66 = .ok (.aload_n 0, 1) := by decide +kernel
theorem dX10_couple_67 : decode cX10_couple 67 = .ok (.getfield 31, 3) := by decide +kernel
theorem dX10_couple_70 : decode cX10_couple 70 = .ok (.bipush 16, 2) := by decide +kernel
theorem dX10_couple_72 : decode cX10_couple 72 = .ok (.iload_n 1, 1) := by decide +kernel
theorem dX10_couple_73 : decode cX10_couple 73 = .ok (.iadd, 1) := by decide +kernel
theorem dX10_couple_74 : decode cX10_couple 74 = .ok (.iaload, 1) := by decide +kernel
theorem dX10_couple_75 : decode cX10_couple 75 = .ok (.iconst (-1), 1) := by decide +kernel
theorem dX10_couple_76 : decode cX10_couple 76 = .ok (.if_icmp .ne 8, 3) := by decide +kernel
theorem dX10_couple_79 : decode cX10_couple 79 = .ok (.bipush (-2), 2) := by decide +kernel
theorem dX10_couple_81 : decode cX10_couple 81 = .ok (.goto 12, 3) := by decide +kernel
theorem dX10_couple_84 : decode cX10_couple 84 = .ok (.aload_n 0, 1) := by decide +kernel
theorem dX10_couple_85 : decode cX10_couple 85 = .ok (.getfield 31, 3) := by decide +kernel
theorem dX10_couple_88 : decode cX10_couple 88 = .ok (.bipush 16, 2) := by decide +kernel
theorem dX10_couple_90 : decode cX10_couple 90 = .ok (.iload_n 1, 1) := by decide +kernel
theorem dX10_couple_91 : decode cX10_couple 91 = .ok (.iadd, 1) := by decide +kernel
theorem dX10_couple_92 : decode cX10_couple 92 = .ok (.iaload, 1) := by decide +kernel
theorem dX10_couple_93 : decode cX10_couple 93 = .ok (.ireturn, 1) := by decide +kernel
theorem dX10_couple_94 : decode cX10_couple 94 = .ok (.aload_n 0, 1) := by decide +kernel
theorem dX10_couple_95 : decode cX10_couple 95 = .ok (.getfield 31, 3) := by decide +kernel
theorem dX10_couple_98 : decode cX10_couple 98 = .ok (.bipush 19, 2) := by decide +kernel
theorem dX10_couple_100 : decode cX10_couple 100 = .ok (.iload_n 1, 1) := by decide +kernel
theorem dX10_couple_101 : decode cX10_couple 101 = .ok (.iadd, 1) := by decide +kernel
theorem dX10_couple_102 : decode cX10_couple 102 = .ok (.iaload, 1) := by decide +kernel
theorem dX10_couple_103 : decode cX10_couple 103 = .ok (.ireturn, 1) := by decide +kernel
theorem dX10_couple_104 : decode cX10_couple 104 = .ok (.aload_n 0, 1) := by decide +kernel
theorem dX10_couple_105 : decode cX10_couple 105 = .ok (.getfield 31, 3) := by decide +kernel
theorem dX10_couple_108 : decode cX10_couple 108 = .ok (.bipush 22, 2) := by decide +kernel
theorem dX10_couple_110 : decode cX10_couple 110 = .ok (.iload_n 1, 1) := by decide +kernel
theorem dX10_couple_111 : decode cX10_couple 111 = .ok (.iadd, 1) := by decide +kernel
theorem dX10_couple_112 : decode cX10_couple 112 = .ok (.iaload, 1) := by decide +kernel
theorem dX10_couple_113 : decode cX10_couple 113 = .ok (.ireturn, 1) := by decide +kernel
theorem dX10_couple_114 : decode cX10_couple 114 = .ok (.aload_n 0, 1) := by decide +kernel
theorem dX10_couple_115 : decode cX10_couple 115 = .ok (.getfield 31, 3) := by decide +kernel
theorem dX10_couple_118 : decode cX10_couple 118 = .ok (.bipush 25, 2) := by decide +kernel
theorem dX10_couple_120 : decode cX10_couple 120 = .ok (.iload_n 1, 1) := by decide +kernel
theorem dX10_couple_121 : decode cX10_couple 121 = .ok (.iadd, 1) := by decide +kernel
theorem dX10_couple_122 : decode cX10_couple 122 = .ok (.iaload, 1) := by decide +kernel
theorem dX10_couple_123 : decode cX10_couple 123 = .ok (.ireturn, 1) := by decide +kernel
theorem dX10_couple_124 : decode cX10_couple 124 = .ok (.iconst (-1), 1) := by decide +kernel
theorem dX10_couple_125 : decode cX10_couple 125 = .ok (.ireturn, 1) := by decide +kernel
theorem dX10_third_0 : decode cX10_third 0 = .ok (.aload_n 0, 1) := by decide +kernel
theorem dX10_third_1 : decode cX10_third 1 = .ok (.getfield 20, 3) := by decide +kernel
theorem dX10_third_4 : decode cX10_third 4 = .ok (.iload_n 1, 1) := by decide +kernel
theorem dX10_third_5 : decode cX10_third 5 = .ok (.invokevirtual 123, 3) := by decide +kernel
theorem dX10_third_8 : decode cX10_third 8 = .ok (.ifCond .ne 6, 3) := by decide +kernel
theorem dX10_third_11 : decode cX10_third 11 = .ok (.ldc 126, 2) := by decide +kernel
theorem dX10_third_13 : decode cX10_third 13 = .ok (.ireturn, 1) := by decide +kernel
theorem dX10_third_14 : decode cX10_third 14 = .ok (.iload_n 2, 1) := by decide +kernel
theorem dX10_third_15 : decode cX10_third 15 = .ok (.tableswitch 132 0 7 #[45, 55, 65, 75, 85, 95, 105, 111], 45) := by decide +kernel
theorem dX10_third_60 : decode cX10_third 60 = .ok (.aload_n 0, 1) := by decide +kernel
theorem dX10_third_61 : decode cX10_third 61 = .ok (.getfield 20, 3) := by decide +kernel
theorem dX10_third_64 : decode cX10_third 64 = .ok (.getfield 127, 3) := by decide +kernel
theorem dX10_third_67 : decode cX10_third 67 = .ok (.iload_n 1, 1) := by decide +kernel
theorem dX10_third_68 : decode cX10_third 68 = .ok (.iaload, 1) := by decide +kernel
theorem dX10_third_69 : decode cX10_third 69 = .ok (.ireturn, 1) := by decide +kernel
theorem dX10_third_70 : decode cX10_third 70 = .ok (.aload_n 0, 1) := by decide +kernel
theorem dX10_third_71 : decode cX10_third 71 = .ok (.getfield 31, 3) := by decide +kernel
theorem dX10_third_74 : decode cX10_third 74 = .ok (.bipush 28, 2) := by decide +kernel
theorem dX10_third_76 : decode cX10_third 76 = .ok (.iload_n 1, 1) := by decide +kernel
theorem dX10_third_77 : decode cX10_third 77 = .ok (.iadd, 1) := by decide +kernel
theorem dX10_third_78 : decode cX10_third 78 = .ok (.iaload, 1) := by decide +kernel
theorem dX10_third_79 : decode cX10_third 79 = .ok (.ireturn, 1) := by decide +kernel
theorem dX10_third_80 : decode cX10_third 80 = .ok (.aload_n 0, 1) := by decide +kernel
theorem dX10_third_81 : decode cX10_third 81 = .ok (.getfield 31, 3) := by decide +kernel
theorem dX10_third_84 : decode cX10_third 84 = .ok (.bipush 32, 2) := by decide +kernel
theorem dX10_third_86 : decode cX10_third 86 = .ok (.iload_n 1, 1) := by decide +kernel
theorem dX10_third_87 : decode cX10_third 87 = .ok (.iadd, 1) := by decide +kernel
theorem dX10_third_88 : decode cX10_third 88 = .ok (.iaload, 1) := by decide +kernel
theorem dX10_third_89 : decode cX10_third 89 = .ok (.ireturn, 1) := by decide +kernel
theorem dX10_third_90 : decode cX10_third 90 = .ok (.aload_n 0, 1) := by decide +kernel
theorem dX10_third_91 : decode cX10_third 91 = .ok (.getfield 31, 3) := by decide +kernel
theorem dX10_third_94 : decode cX10_third 94 = .ok (.bipush 36, 2) := by decide +kernel
theorem dX10_third_96 : decode cX10_third 96 = .ok (.iload_n 1, 1) := by decide +kernel
theorem dX10_third_97 : decode cX10_third 97 = .ok (.iadd, 1) := by decide +kernel
theorem dX10_third_98 : decode cX10_third 98 = .ok (.iaload, 1) := by decide +kernel
theorem dX10_third_99 : decode cX10_third 99 = .ok (.ireturn, 1) := by decide +kernel
theorem dX10_third_100 : decode cX10_third 100 = .ok (.aload_n 0, 1) := by decide +kernel
theorem dX10_third_101 : decode cX10_third 101 = .ok (.getfield 31, 3) := by decide +kernel
theorem dX10_third_104 : decode cX10_third 104 = .ok (.bipush 40, 2) := by decide +kernel
theorem dX10_third_106 : decode cX10_third 106 = .ok (.iload_n 1, 1) := by decide +kernel
theorem dX10_third_107 : decode cX10_third 107 = .ok (.iadd, 1) := by decide +kernel
theorem dX10_third_108 : decode cX10_third 108 = .ok (.iaload, 1) := by decide +kernel
theorem dX10_third_109 : decode cX10_third 109 = .ok (.ireturn, 1) := by decide +kernel
theorem dX10_third_110 : decode cX10_third 110 = .ok (.aload_n 0, 1) := by decide +kernel
theorem dX10_third_111 : decode cX10_third 111 = .ok (.getfield 31, 3) := by decide +kernel
theorem dX10_third_114 : decode cX10_third 114 = .ok (.bipush 44, 2) := by decide +kernel
theorem dX10_third_116 : decode cX10_third 116 = .ok (.iload_n 1, 1) := by decide +kernel
theorem dX10_third_117 : decode cX10_third 117 = .ok (.iadd, 1) := by decide +kernel
theorem dX10_third_118 : decode cX10_third 118 = .ok (.iaload, 1) := by decide +kernel
theorem dX10_third_119 : decode cX10_third 119 = .ok (.ireturn, 1) := by decide +kernel
theorem dX10_third_120 : decode cX10_third 120 = .ok (.aload_n 0, 1) := by decide +kernel
theorem dX10_third_121 : decode cX10_third 121 = .ok (.iload_n 1, 1) := by decide +kernel
theorem dX10_third_122 : decode cX10_third 122 = .ok (.invokevirtual 130, 3) := by decide +kernel
theorem dX10_third_125 : decode cX10_third 125 = .ok (.ireturn, 1) := by decide +kernel
theorem dX10_third_126 : decode cX10_third 126 = .ok (.aload_n 0, 1) := by decide +kernel
theorem dX10_third_127 : decode cX10_third 127 = .ok (.getfield 47, 3) := by decide +kernel
theorem dX10_third_130 : decode cX10_third 130 = .ok (.aload_n 0, 1) := by decide +kernel
theorem dX10_third_131 : decode cX10_third 131 = .ok (.getfield 31, 3) := by decide +kernel
theorem dX10_third_134 : decode cX10_third 134 = .ok (.iload_n 1, 1) := by decide +kernel
theorem dX10_third_135 : decode cX10_third 135 = .ok (.invokevirtual 134, 3) := by decide +kernel
theorem dX10_third_138 : decode cX10_third 138 = .ok (.ifCond .eq 7, 3) := by decide +kernel
theorem dX10_third_141 : decode cX10_third 141 = .ok (.iconst 1, 1) := by decide +kernel
theorem dX10_third_142 : decode cX10_third 142 = .ok (.goto 4, 3) := by decide +kernel
theorem dX10_third_145 : decode cX10_third 145 = .ok (.iconst 0, 1) := by decide +kernel
theorem dX10_third_146 : decode cX10_third 146 = .ok (.ireturn, 1) := by decide +kernel
theorem dX10_third_147 : decode cX10_third 147 = .ok (.ldc 126, 2) := by decide +kernel
theorem dX10_third_149 : decode cX10_third 149 = .ok (.ireturn, 1) := by decide +kernel
theorem dX10_couplesOf_0 : decode cX10_couplesOf 0 = .ok (.iconst 0, 1) := by decide +kernel
theorem dX10_couplesOf_1 : decode cX10_couplesOf 1 = .ok (.istore_n 2, 1) := by decide +kernel
theorem dX10_couplesOf_2 : decode cX10_couplesOf 2 = .ok (.iconst 0, 1) := by decide +kernel
theorem dX10_couplesOf_3 : decode cX10_couplesOf 3 = .ok (.istore_n 3, 1) := by decide +kernel
theorem dX10_couplesOf_4 : decode cX10_couplesOf 4 = .ok (.iload_n 3, 1) := by decide +kernel
theorem dX10_couplesOf_5 : decode cX10_couplesOf 5 = .ok (.aload_n 0, 1) := by decide +kernel
theorem dX10_couplesOf_6 : decode cX10_couplesOf 6 = .ok (.getfield 20, 3) := by decide +kernel
theorem dX10_couplesOf_9 : decode cX10_couplesOf 9 = .ok (.getfield 138, 3) := by decide +kernel
theorem dX10_couplesOf_12 : decode cX10_couplesOf 12 = .ok (.if_icmp .ge 28, 3) := by decide +kernel
theorem dX10_couplesOf_15 : decode cX10_couplesOf 15 = .ok (.aload_n 0, 1) := by decide +kernel
theorem dX10_couplesOf_16 : decode cX10_couplesOf 16 = .ok (.getfield 31, 3) := by decide +kernel
theorem dX10_couplesOf_19 : decode cX10_couplesOf 19 = .ok (.bipush 16, 2) := by decide +kernel
theorem dX10_couplesOf_21 : decode cX10_couplesOf 21 = .ok (.iload_n 3, 1) := by decide +kernel
theorem dX10_couplesOf_22 : decode cX10_couplesOf 22 = .ok (.iadd, 1) := by decide +kernel
theorem dX10_couplesOf_23 : decode cX10_couplesOf 23 = .ok (.iaload, 1) := by decide +kernel
theorem dX10_couplesOf_24 : decode cX10_couplesOf 24 = .ok (.iload_n 1, 1) := by decide +kernel
theorem dX10_couplesOf_25 : decode cX10_couplesOf 25 = .ok (.if_icmp .ne 9, 3) := by decide +kernel
theorem dX10_couplesOf_28 : decode cX10_couplesOf 28 = .ok (.iload_n 2, 1) := by decide +kernel
theorem dX10_couplesOf_29 : decode cX10_couplesOf 29 = .ok (.iconst 1, 1) := by decide +kernel
theorem dX10_couplesOf_30 : decode cX10_couplesOf 30 = .ok (.iload_n 3, 1) := by decide +kernel
theorem dX10_couplesOf_31 : decode cX10_couplesOf 31 = .ok (.ishl, 1) := by decide +kernel
theorem dX10_couplesOf_32 : decode cX10_couplesOf 32 = .ok (.ior, 1) := by decide +kernel
theorem dX10_couplesOf_33 : decode cX10_couplesOf 33 = .ok (.istore_n 2, 1) := by decide +kernel
theorem dX10_couplesOf_34 : decode cX10_couplesOf 34 = .ok (.iinc 3 1, 3) := by decide +kernel
theorem dX10_couplesOf_37 : decode cX10_couplesOf 37 = .ok (.goto (-33), 3) := by decide +kernel
theorem dX10_couplesOf_40 : decode cX10_couplesOf 40 = .ok (.iload_n 2, 1) := by decide +kernel
theorem dX10_couplesOf_41 : decode cX10_couplesOf 41 = .ok (.ireturn, 1) := by decide +kernel
theorem dX10_count_0 : decode cX10_count 0 = .ok (.iload_n 1, 1) := by decide +kernel
theorem dX10_count_1 : decode cX10_count 1 = .ok (.tableswitch 185 0 13 #[71, 79, 87, 95, 102, 116, 130, 137, 144, 149, 157, 165, 173, 180], 71) := by decide +kernel
theorem dX10_count_72 : decode cX10_count 72 = .ok (.aload_n 0, 1) := by decide +kernel
theorem dX10_count_73 : decode cX10_count 73 = .ok (.getfield 20, 3) := by decide +kernel
theorem dX10_count_76 : decode cX10_count 76 = .ok (.getfield 141, 3) := by decide +kernel
theorem dX10_count_79 : decode cX10_count 79 = .ok (.ireturn, 1) := by decide +kernel
theorem dX10_count_80 : decode cX10_count 80 = .ok (.aload_n 0, 1) := by decide +kernel
theorem dX10_count_81 : decode cX10_count 81 = .ok (.getfield 20, 3) := by decide +kernel
theorem dX10_count_84 : decode cX10_count 84 = .ok (.getfield 138, 3) := by decide +kernel
theorem dX10_count_87 : decode cX10_count 87 = .ok (.ireturn, 1) := by decide +kernel
theorem dX10_count_88 : decode cX10_count 88 = .ok (.aload_n 0, 1) := by decide +kernel
theorem dX10_count_89 : decode cX10_count 89 = .ok (.getfield 20, 3) := by decide +kernel
theorem dX10_count_92 : decode cX10_count 92 = .ok (.getfield 144, 3) := by decide +kernel
theorem dX10_count_95 : decode cX10_count 95 = .ok (.ireturn, 1) := by decide +kernel
theorem dX10_count_96 : decode cX10_count 96 = .ok (.aload_n 0, 1) := by decide +kernel
theorem dX10_count_97 : decode cX10_count 97 = .ok (.getfield 31, 3) := by decide +kernel
theorem dX10_count_100 : decode cX10_count 100 = .ok (.iconst 0, 1) := by decide +kernel
theorem dX10_count_101 : decode cX10_count 101 = .ok (.iaload, 1) := by decide +kernel
theorem dX10_count_102 : decode cX10_count 102 = .ok (.ireturn, 1) := by decide +kernel
theorem dX10_count_103 : decode cX10_count 103 = .ok (.aload_n 0, 1) := by decide +kernel
theorem dX10_count_104 : decode cX10_count 104 = .ok (.bipush 19, 2) := by decide +kernel
theorem dX10_count_106 : decode cX10_count 106 = .ok (.aload_n 0, 1) := by decide +kernel
theorem dX10_count_107 : decode cX10_count 107 = .ok (.getfield 20, 3) := by decide +kernel
theorem dX10_count_110 : decode cX10_count 110 = .ok (.getfield 138, 3) := by decide +kernel
theorem dX10_count_113 : decode cX10_count 113 = .ok (.invokevirtual 147, 3) := by decide +kernel
theorem dX10_count_116 : decode cX10_count 116 = .ok (.ireturn, 1) := by decide +kernel
theorem dX10_count_117 : decode cX10_count 117 = .ok (.aload_n 0, 1) := by decide +kernel
theorem dX10_count_118 : decode cX10_count 118 = .ok (.bipush 36, 2) := by decide +kernel
theorem dX10_count_120 : decode cX10_count 120 = .ok (.aload_n 0, 1) := by decide +kernel
theorem dX10_count_121 : decode cX10_count 121 = .ok (.getfield 20, 3) := by decide +kernel
theorem dX10_count_124 : decode cX10_count 124 = .ok (.getfield 144, 3) := by decide +kernel
theorem dX10_count_127 : decode cX10_count 127 = .ok (.invokevirtual 147, 3) := by decide +kernel
theorem dX10_count_130 : decode cX10_count 130 = .ok (.ireturn, 1) := by decide +kernel
theorem dX10_count_131 : decode cX10_count 131 = .ok (.aload_n 0, 1) := by decide +kernel
theorem dX10_count_132 : decode cX10_count 132 = .ok (.getfield 31, 3) := by decide +kernel
theorem dX10_count_135 : decode cX10_count 135 = .ok (.iconst 1, 1) := by decide +kernel
theorem dX10_count_136 : decode cX10_count 136 = .ok (.iaload, 1) := by decide +kernel
theorem dX10_count_137 : decode cX10_count 137 = .ok (.ireturn, 1) := by decide +kernel
theorem dX10_count_138 : decode cX10_count 138 = .ok (.aload_n 0, 1) := by decide +kernel
theorem dX10_count_139 : decode cX10_count 139 = .ok (.getfield 31, 3) := by decide +kernel
theorem dX10_count_142 : decode cX10_count 142 = .ok (.iconst 2, 1) := by decide +kernel
theorem dX10_count_143 : decode cX10_count 143 = .ok (.iaload, 1) := by decide +kernel
theorem dX10_count_144 : decode cX10_count 144 = .ok (.ireturn, 1) := by decide +kernel
theorem dX10_count_145 : decode cX10_count 145 = .ok (.aload_n 0, 1) := by decide +kernel
theorem dX10_count_146 : decode cX10_count 146 = .ok (.getfield 81, 3) := by decide +kernel
theorem dX10_count_149 : decode cX10_count 149 = .ok (.ireturn, 1) := by decide +kernel
theorem dX10_count_150 : decode cX10_count 150 = .ok (.aload_n 0, 1) := by decide +kernel
theorem dX10_count_151 : decode cX10_count 151 = .ok (.getfield 38, 3) := by decide +kernel
theorem dX10_count_154 : decode cX10_count 154 = .ok (.getfield 151, 3) := by decide +kernel
theorem dX10_count_157 : decode cX10_count 157 = .ok (.ireturn, 1) := by decide +kernel
theorem dX10_count_158 : decode cX10_count 158 = .ok (.aload_n 0, 1) := by decide +kernel
theorem dX10_count_159 : decode cX10_count 159 = .ok (.getfield 70, 3) := by decide +kernel
theorem dX10_count_162 : decode cX10_count 162 = .ok (.getfield 154, 3) := by decide +kernel
theorem dX10_count_165 : decode cX10_count 165 = .ok (.ireturn, 1) := by decide +kernel
theorem dX10_count_166 : decode cX10_count 166 = .ok (.aload_n 0, 1) := by decide +kernel
theorem dX10_count_167 : decode cX10_count 167 = .ok (.getfield 38, 3) := by decide +kernel
theorem dX10_count_170 : decode cX10_count 170 = .ok (.invokevirtual 157, 3) := by decide +kernel
theorem dX10_count_173 : decode cX10_count 173 = .ok (.ireturn, 1) := by decide +kernel
theorem dX10_count_174 : decode cX10_count 174 = .ok (.aload_n 0, 1) := by decide +kernel
theorem dX10_count_175 : decode cX10_count 175 = .ok (.getfield 31, 3) := by decide +kernel
theorem dX10_count_178 : decode cX10_count 178 = .ok (.iconst 3, 1) := by decide +kernel
theorem dX10_count_179 : decode cX10_count 179 = .ok (.iaload, 1) := by decide +kernel
theorem dX10_count_180 : decode cX10_count 180 = .ok (.ireturn, 1) := by decide +kernel
theorem dX10_count_181 : decode cX10_count 181 = .ok (.aload_n 0, 1) := by decide +kernel
theorem dX10_count_182 : decode cX10_count 182 = .ok (.invokevirtual 161, 3) := by decide +kernel
theorem dX10_count_185 : decode cX10_count 185 = .ok (.ireturn, 1) := by decide +kernel
theorem dX10_count_186 : decode cX10_count 186 = .ok (.iconst (-1), 1) := by decide +kernel
theorem dX10_count_187 : decode cX10_count 187 = .ok (.ireturn, 1) := by decide +kernel
theorem dX10_bitsOf_0 : decode cX10_bitsOf 0 = .ok (.iconst 0, 1) := by decide +kernel
theorem dX10_bitsOf_1 : decode cX10_bitsOf 1 = .ok (.istore_n 3, 1) := by decide +kernel
theorem dX10_bitsOf_2 : decode cX10_bitsOf 2 = .ok (.iconst 0, 1) := by decide +kernel
theorem dX10_bitsOf_3 : decode cX10_bitsOf 3 = .ok (.istore 4, 2) := by decide +kernel
theorem dX10_bitsOf_5 : decode cX10_bitsOf 5 = .ok (.iload 4, 2) := by decide +kernel
theorem dX10_bitsOf_7 : decode cX10_bitsOf 7 = .ok (.iload_n 2, 1) := by decide +kernel
theorem dX10_bitsOf_8 : decode cX10_bitsOf 8 = .ok (.if_icmp .ge 28, 3) := by decide +kernel
theorem dX10_bitsOf_11 : decode cX10_bitsOf 11 = .ok (.aload_n 0, 1) := by decide +kernel
theorem dX10_bitsOf_12 : decode cX10_bitsOf 12 = .ok (.getfield 31, 3) := by decide +kernel
theorem dX10_bitsOf_15 : decode cX10_bitsOf 15 = .ok (.iload_n 1, 1) := by decide +kernel
theorem dX10_bitsOf_16 : decode cX10_bitsOf 16 = .ok (.iload 4, 2) := by decide +kernel
theorem dX10_bitsOf_18 : decode cX10_bitsOf 18 = .ok (.iadd, 1) := by decide +kernel
theorem dX10_bitsOf_19 : decode cX10_bitsOf 19 = .ok (.iaload, 1) := by decide +kernel
theorem dX10_bitsOf_20 : decode cX10_bitsOf 20 = .ok (.ifCond .eq 10, 3) := by decide +kernel
theorem dX10_bitsOf_23 : decode cX10_bitsOf 23 = .ok (.iload_n 3, 1) := by decide +kernel
theorem dX10_bitsOf_24 : decode cX10_bitsOf 24 = .ok (.iconst 1, 1) := by decide +kernel
theorem dX10_bitsOf_25 : decode cX10_bitsOf 25 = .ok (.iload 4, 2) := by decide +kernel
theorem dX10_bitsOf_27 : decode cX10_bitsOf 27 = .ok (.ishl, 1) := by decide +kernel
theorem dX10_bitsOf_28 : decode cX10_bitsOf 28 = .ok (.ior, 1) := by decide +kernel
theorem dX10_bitsOf_29 : decode cX10_bitsOf 29 = .ok (.istore_n 3, 1) := by decide +kernel
theorem dX10_bitsOf_30 : decode cX10_bitsOf 30 = .ok (.iinc 4 1, 3) := by decide +kernel
theorem dX10_bitsOf_33 : decode cX10_bitsOf 33 = .ok (.goto (-28), 3) := by decide +kernel
theorem dX10_bitsOf_36 : decode cX10_bitsOf 36 = .ok (.iload_n 3, 1) := by decide +kernel
theorem dX10_bitsOf_37 : decode cX10_bitsOf 37 = .ok (.ireturn, 1) := by decide +kernel
theorem dX10_allMoods_0 : decode cX10_allMoods 0 = .ok (.iconst 0, 1) := by decide +kernel
theorem dX10_allMoods_1 : decode cX10_allMoods 1 = .ok (.istore_n 1, 1) := by decide +kernel
theorem dX10_allMoods_2 : decode cX10_allMoods 2 = .ok (.iconst 0, 1) := by decide +kernel
theorem dX10_allMoods_3 : decode cX10_allMoods 3 = .ok (.istore_n 2, 1) := by decide +kernel
theorem dX10_allMoods_4 : decode cX10_allMoods 4 = .ok (.iload_n 2, 1) := by decide +kernel
theorem dX10_allMoods_5 : decode cX10_allMoods 5 = .ok (.aload_n 0, 1) := by decide +kernel
theorem dX10_allMoods_6 : decode cX10_allMoods 6 = .ok (.getfield 20, 3) := by decide +kernel
theorem dX10_allMoods_9 : decode cX10_allMoods 9 = .ok (.getfield 141, 3) := by decide +kernel
theorem dX10_allMoods_12 : decode cX10_allMoods 12 = .ok (.if_icmp .ge 20, 3) := by decide +kernel
theorem dX10_allMoods_15 : decode cX10_allMoods 15 = .ok (.iload_n 1, 1) := by decide +kernel
theorem dX10_allMoods_16 : decode cX10_allMoods 16 = .ok (.aload_n 0, 1) := by decide +kernel
theorem dX10_allMoods_17 : decode cX10_allMoods 17 = .ok (.getfield 31, 3) := by decide +kernel
theorem dX10_allMoods_20 : decode cX10_allMoods 20 = .ok (.iconst 4, 1) := by decide +kernel
theorem dX10_allMoods_21 : decode cX10_allMoods 21 = .ok (.iload_n 2, 1) := by decide +kernel
theorem dX10_allMoods_22 : decode cX10_allMoods 22 = .ok (.iadd, 1) := by decide +kernel
theorem dX10_allMoods_23 : decode cX10_allMoods 23 = .ok (.iaload, 1) := by decide +kernel
theorem dX10_allMoods_24 : decode cX10_allMoods 24 = .ok (.iadd, 1) := by decide +kernel
theorem dX10_allMoods_25 : decode cX10_allMoods 25 = .ok (.istore_n 1, 1) := by decide +kernel
theorem dX10_allMoods_26 : decode cX10_allMoods 26 = .ok (.iinc 2 1, 3) := by decide +kernel
theorem dX10_allMoods_29 : decode cX10_allMoods 29 = .ok (.goto (-25), 3) := by decide +kernel
theorem dX10_allMoods_32 : decode cX10_allMoods 32 = .ok (.iload_n 1, 1) := by decide +kernel
theorem dX10_allMoods_33 : decode cX10_allMoods 33 = .ok (.ireturn, 1) := by decide +kernel
theorem dX10_hire_0 : decode cX10_hire 0 = .ok (.aload_n 0, 1) := by decide +kernel
theorem dX10_hire_1 : decode cX10_hire 1 = .ok (.getfield 20, 3) := by decide +kernel
theorem dX10_hire_4 : decode cX10_hire 4 = .ok (.iload_n 1, 1) := by decide +kernel
theorem dX10_hire_5 : decode cX10_hire 5 = .ok (.invokevirtual 117, 3) := by decide +kernel
theorem dX10_hire_8 : decode cX10_hire 8 = .ok (.ifCond .eq 19, 3) := by decide +kernel
theorem dX10_hire_11 : decode cX10_hire 11 = .ok (.iload_n 2, 1) := by decide +kernel
theorem dX10_hire_12 : decode cX10_hire 12 = .ok (.iconst (-1), 1) := by decide +kernel
theorem dX10_hire_13 : decode cX10_hire 13 = .ok (.if_icmp .eq 16, 3) := by decide +kernel
theorem dX10_hire_16 : decode cX10_hire 16 = .ok (.aload_n 0, 1) := by decide +kernel
theorem dX10_hire_17 : decode cX10_hire 17 = .ok (.getfield 20, 3) := by decide +kernel
theorem dX10_hire_20 : decode cX10_hire 20 = .ok (.iload_n 2, 1) := by decide +kernel
theorem dX10_hire_21 : decode cX10_hire 21 = .ok (.invokevirtual 123, 3) := by decide +kernel
theorem dX10_hire_24 : decode cX10_hire 24 = .ok (.ifCond .ne 5, 3) := by decide +kernel
theorem dX10_hire_27 : decode cX10_hire 27 = .ok (.iconst 0, 1) := by decide +kernel
theorem dX10_hire_28 : decode cX10_hire 28 = .ok (.ireturn, 1) := by decide +kernel
theorem dX10_hire_29 : decode cX10_hire 29 = .ok (.aload_n 0, 1) := by decide +kernel
theorem dX10_hire_30 : decode cX10_hire 30 = .ok (.getfield 31, 3) := by decide +kernel
theorem dX10_hire_33 : decode cX10_hire 33 = .ok (.bipush 19, 2) := by decide +kernel
theorem dX10_hire_35 : decode cX10_hire 35 = .ok (.iload_n 1, 1) := by decide +kernel
theorem dX10_hire_36 : decode cX10_hire 36 = .ok (.iadd, 1) := by decide +kernel
theorem dX10_hire_37 : decode cX10_hire 37 = .ok (.iaload, 1) := by decide +kernel
theorem dX10_hire_38 : decode cX10_hire 38 = .ok (.ifCond .ne 16, 3) := by decide +kernel
theorem dX10_hire_41 : decode cX10_hire 41 = .ok (.aload_n 0, 1) := by decide +kernel
theorem dX10_hire_42 : decode cX10_hire 42 = .ok (.getfield 31, 3) := by decide +kernel
theorem dX10_hire_45 : decode cX10_hire 45 = .ok (.bipush 16, 2) := by decide +kernel
theorem dX10_hire_47 : decode cX10_hire 47 = .ok (.iload_n 1, 1) := by decide +kernel
theorem dX10_hire_48 : decode cX10_hire 48 = .ok (.iadd, 1) := by decide +kernel
theorem dX10_hire_49 : decode cX10_hire 49 = .ok (.iaload, 1) := by decide +kernel
theorem dX10_hire_50 : decode cX10_hire 50 = .ok (.iload_n 2, 1) := by decide +kernel
theorem dX10_hire_51 : decode cX10_hire 51 = .ok (.if_icmp .ne 5, 3) := by decide +kernel
theorem dX10_hire_54 : decode cX10_hire 54 = .ok (.iconst 0, 1) := by decide +kernel
theorem dX10_hire_55 : decode cX10_hire 55 = .ok (.ireturn, 1) := by decide +kernel
theorem dX10_hire_56 : decode cX10_hire 56 = .ok (.aload_n 0, 1) := by decide +kernel
theorem dX10_hire_57 : decode cX10_hire 57 = .ok (.getfield 38, 3) := by decide +kernel
theorem dX10_hire_60 : decode cX10_hire 60 = .ok (.aload_n 0, 1) := by decide +kernel
theorem dX10_hire_61 : decode cX10_hire 61 = .ok (.getfield 31, 3) := by decide +kernel
theorem dX10_hire_64 : decode cX10_hire 64 = .ok (.invokevirtual 164, 3) := by decide +kernel
theorem dX10_hire_67 : decode cX10_hire 67 = .ok (.aload_n 0, 1) := by decide +kernel
theorem dX10_hire_68 : decode cX10_hire 68 = .ok (.getfield 31, 3) := by decide +kernel
theorem dX10_hire_71 : decode cX10_hire 71 = .ok (.bipush 16, 2) := by decide +kernel
theorem dX10_hire_73 : decode cX10_hire 73 = .ok (.iload_n 1, 1) := by decide +kernel
theorem dX10_hire_74 : decode cX10_hire 74 = .ok (.iadd, 1) := by decide +kernel
theorem dX10_hire_75 : decode cX10_hire 75 = .ok (.iload_n 2, 1) := by decide +kernel
theorem dX10_hire_76 : decode cX10_hire 76 = .ok (.iastore, 1) := by decide +kernel
theorem dX10_hire_77 : decode cX10_hire 77 = .ok (.iconst 1, 1) := by decide +kernel
theorem dX10_hire_78 : decode cX10_hire 78 = .ok (.ireturn, 1) := by decide +kernel
theorem dX10_swear_0 : decode cX10_swear 0 = .ok (.iload_n 2, 1) := by decide +kernel
theorem dX10_swear_1 : decode cX10_swear 1 = .ok (.ifCond .eq 7, 3) := by decide +kernel
theorem dX10_swear_4 : decode cX10_swear 4 = .ok (.iconst 1, 1) := by decide +kernel
theorem dX10_swear_5 : decode cX10_swear 5 = .ok (.goto 4, 3) := by decide +kernel
theorem dX10_swear_8 : decode cX10_swear 8 = .ok (.iconst 0, 1) := by decide +kernel
theorem dX10_swear_9 : decode cX10_swear 9 = .ok (.istore_n 3, 1) := by decide +kernel
theorem dX10_swear_10 : decode cX10_swear 10 = .ok (.aload_n 0, 1) := by decide +kernel
theorem dX10_swear_11 : decode cX10_swear 11 = .ok (.getfield 20, 3) := by decide +kernel
theorem dX10_swear_14 : decode cX10_swear 14 = .ok (.iload_n 1, 1) := by decide +kernel
theorem dX10_swear_15 : decode cX10_swear 15 = .ok (.invokevirtual 123, 3) := by decide +kernel
theorem dX10_swear_18 : decode cX10_swear 18 = .ok (.ifCond .eq 16, 3) := by decide +kernel
theorem dX10_swear_21 : decode cX10_swear 21 = .ok (.aload_n 0, 1) := by decide +kernel
theorem dX10_swear_22 : decode cX10_swear 22 = .ok (.getfield 31, 3) := by decide +kernel
theorem dX10_swear_25 : decode cX10_swear 25 = .ok (.bipush 36, 2) := by decide +kernel
theorem dX10_swear_27 : decode cX10_swear 27 = .ok (.iload_n 1, 1) := by decide +kernel
theorem dX10_swear_28 : decode cX10_swear 28 = .ok (.iadd, 1) := by decide +kernel
theorem dX10_swear_29 : decode cX10_swear 29 = .ok (.iaload, 1) := by decide +kernel
theorem dX10_swear_30 : decode cX10_swear 30 = .ok (.iload_n 3, 1) := by decide +kernel
theorem dX10_swear_31 : decode cX10_swear 31 = .ok (.if_icmp .ne 5, 3) := by decide +kernel
theorem dX10_swear_34 : decode cX10_swear 34 = .ok (.iconst 0, 1) := by decide +kernel
theorem dX10_swear_35 : decode cX10_swear 35 = .ok (.ireturn, 1) := by decide +kernel
theorem dX10_swear_36 : decode cX10_swear 36 = .ok (.aload_n 0, 1) := by decide +kernel
theorem dX10_swear_37 : decode cX10_swear 37 = .ok (.getfield 38, 3) := by decide +kernel
theorem dX10_swear_40 : decode cX10_swear 40 = .ok (.aload_n 0, 1) := by decide +kernel
theorem dX10_swear_41 : decode cX10_swear 41 = .ok (.getfield 31, 3) := by decide +kernel
theorem dX10_swear_44 : decode cX10_swear 44 = .ok (.invokevirtual 164, 3) := by decide +kernel
theorem dX10_swear_47 : decode cX10_swear 47 = .ok (.aload_n 0, 1) := by decide +kernel
theorem dX10_swear_48 : decode cX10_swear 48 = .ok (.getfield 31, 3) := by decide +kernel
theorem dX10_swear_51 : decode cX10_swear 51 = .ok (.bipush 36, 2) := by decide +kernel
theorem dX10_swear_53 : decode cX10_swear 53 = .ok (.iload_n 1, 1) := by decide +kernel
theorem dX10_swear_54 : decode cX10_swear 54 = .ok (.iadd, 1) := by decide +kernel
theorem dX10_swear_55 : decode cX10_swear 55 = .ok (.iload_n 3, 1) := by decide +kernel
theorem dX10_swear_56 : decode cX10_swear 56 = .ok (.iastore, 1) := by decide +kernel
theorem dX10_swear_57 : decode cX10_swear 57 = .ok (.iconst 1, 1) := by decide +kernel
theorem dX10_swear_58 : decode cX10_swear 58 = .ok (.ireturn, 1) := by decide +kernel
theorem dX10_weeks_0 : decode cX10_weeks 0 = .ok (.iload_n 1, 1) := by decide +kernel
theorem dX10_weeks_1 : decode cX10_weeks 1 = .ok (.ifCond .lt 9, 3) := by decide +kernel
theorem dX10_weeks_4 : decode cX10_weeks 4 = .ok (.iload_n 1, 1) := by decide +kernel
theorem dX10_weeks_5 : decode cX10_weeks 5 = .ok (.bipush 60, 2) := by decide +kernel
theorem dX10_weeks_7 : decode cX10_weeks 7 = .ok (.if_icmp .le 5, 3) := by decide +kernel
theorem dX10_weeks_10 : decode cX10_weeks 10 = .ok (.iconst (-1), 1) := by decide +kernel
theorem dX10_weeks_11 : decode cX10_weeks 11 = .ok (.ireturn, 1) := by decide +kernel
theorem dX10_weeks_12 : decode cX10_weeks 12 = .ok (.iload_n 1, 1) := by decide +kernel
theorem dX10_weeks_13 : decode cX10_weeks 13 = .ok (.ifCond .le 14, 3) := by decide +kernel
theorem dX10_weeks_16 : decode cX10_weeks 16 = .ok (.aload_n 0, 1) := by decide +kernel
theorem dX10_weeks_17 : decode cX10_weeks 17 = .ok (.getfield 38, 3) := by decide +kernel
theorem dX10_weeks_20 : decode cX10_weeks 20 = .ok (.aload_n 0, 1) := by decide +kernel
theorem dX10_weeks_21 : decode cX10_weeks 21 = .ok (.getfield 31, 3) := by decide +kernel
theorem dX10_weeks_24 : decode cX10_weeks 24 = .ok (.invokevirtual 164, 3) := by decide +kernel
theorem dX10_weeks_27 : decode cX10_weeks 27 = .ok (.iconst 0, 1) := by decide +kernel
theorem dX10_weeks_28 : decode cX10_weeks 28 = .ok (.istore_n 2, 1) := by decide +kernel
theorem dX10_weeks_29 : decode cX10_weeks 29 = .ok (.iload_n 2, 1) := by decide +kernel
theorem dX10_weeks_30 : decode cX10_weeks 30 = .ok (.iload_n 1, 1) := by decide +kernel
theorem dX10_weeks_31 : decode cX10_weeks 31 = .ok (.if_icmp .ge 27, 3) := by decide +kernel
theorem dX10_weeks_34 : decode cX10_weeks 34 = .ok (.aload_n 0, 1) := by decide +kernel
theorem dX10_weeks_35 : decode cX10_weeks 35 = .ok (.getfield 47, 3) := by decide +kernel
theorem dX10_weeks_38 : decode cX10_weeks 38 = .ok (.aload_n 0, 1) := by decide +kernel
theorem dX10_weeks_39 : decode cX10_weeks 39 = .ok (.getfield 31, 3) := by decide +kernel
theorem dX10_weeks_42 : decode cX10_weeks 42 = .ok (.aload_n 0, 1) := by decide +kernel
theorem dX10_weeks_43 : decode cX10_weeks 43 = .ok (.getfield 20, 3) := by decide +kernel
theorem dX10_weeks_46 : decode cX10_weeks 46 = .ok (.getfield 167, 3) := by decide +kernel
theorem dX10_weeks_49 : decode cX10_weeks 49 = .ok (.invokevirtual 170, 3) := by decide +kernel
theorem dX10_weeks_52 : decode cX10_weeks 52 = .ok (.iinc 2 1, 3) := by decide +kernel
theorem dX10_weeks_55 : decode cX10_weeks 55 = .ok (.goto (-26), 3) := by decide +kernel
theorem dX10_weeks_58 : decode cX10_weeks 58 = .ok (.aload_n 0, 1) := by decide +kernel
theorem dX10_weeks_59 : decode cX10_weeks 59 = .ok (.getfield 31, 3) := by decide +kernel
theorem dX10_weeks_62 : decode cX10_weeks 62 = .ok (.iconst 0, 1) := by decide +kernel
theorem dX10_weeks_63 : decode cX10_weeks 63 = .ok (.iaload, 1) := by decide +kernel
theorem dX10_weeks_64 : decode cX10_weeks 64 = .ok (.ireturn, 1) := by decide +kernel
theorem dX10_undo_0 : decode cX10_undo 0 = .ok (.aload_n 0, 1) := by decide +kernel
theorem dX10_undo_1 : decode cX10_undo 1 = .ok (.getfield 38, 3) := by decide +kernel
theorem dX10_undo_4 : decode cX10_undo 4 = .ok (.aload_n 0, 1) := by decide +kernel
theorem dX10_undo_5 : decode cX10_undo 5 = .ok (.getfield 31, 3) := by decide +kernel
theorem dX10_undo_8 : decode cX10_undo 8 = .ok (.invokevirtual 174, 3) := by decide +kernel
theorem dX10_undo_11 : decode cX10_undo 11 = .ok (.ireturn, 1) := by decide +kernel
theorem dX10_hold_0 : decode cX10_hold 0 = .ok (.aload_n 0, 1) := by decide +kernel
theorem dX10_hold_1 : decode cX10_hold 1 = .ok (.getfield 38, 3) := by decide +kernel
theorem dX10_hold_4 : decode cX10_hold 4 = .ok (.iload_n 1, 1) := by decide +kernel
theorem dX10_hold_5 : decode cX10_hold 5 = .ok (.aload_n 0, 1) := by decide +kernel
theorem dX10_hold_6 : decode cX10_hold 6 = .ok (.getfield 31, 3) := by decide +kernel
theorem dX10_hold_9 : decode cX10_hold 9 = .ok (.invokevirtual 178, 3) := by decide +kernel
theorem dX10_hold_12 : decode cX10_hold 12 = .ok (.ireturn, 1) := by decide +kernel
theorem dX10_restore_0 : decode cX10_restore 0 = .ok (.aload_n 0, 1) := by decide +kernel
theorem dX10_restore_1 : decode cX10_restore 1 = .ok (.getfield 38, 3) := by decide +kernel
theorem dX10_restore_4 : decode cX10_restore 4 = .ok (.iload_n 1, 1) := by decide +kernel
theorem dX10_restore_5 : decode cX10_restore 5 = .ok (.aload_n 0, 1) := by decide +kernel
theorem dX10_restore_6 : decode cX10_restore 6 = .ok (.getfield 31, 3) := by decide +kernel
theorem dX10_restore_9 : decode cX10_restore 9 = .ok (.invokevirtual 182, 3) := by decide +kernel
theorem dX10_restore_12 : decode cX10_restore 12 = .ok (.ifCond .ne 5, 3) := by decide +kernel
theorem dX10_restore_15 : decode cX10_restore 15 = .ok (.iconst 0, 1) := by decide +kernel
theorem dX10_restore_16 : decode cX10_restore 16 = .ok (.ireturn, 1) := by decide +kernel
theorem dX10_restore_17 : decode cX10_restore 17 = .ok (.aload_n 0, 1) := by decide +kernel
theorem dX10_restore_18 : decode cX10_restore 18 = .ok (.getfield 38, 3) := by decide +kernel
theorem dX10_restore_21 : decode cX10_restore 21 = .ok (.invokevirtual 99, 3) := by decide +kernel
theorem dX10_restore_24 : decode cX10_restore 24 = .ok (.iconst 1, 1) := by decide +kernel
theorem dX10_restore_25 : decode cX10_restore 25 = .ok (.ireturn, 1) := by decide +kernel
theorem dX10_bends_0 : decode cX10_bends 0 = .ok (.aload_n 0, 1) := by decide +kernel
theorem dX10_bends_1 : decode cX10_bends 1 = .ok (.getfield 20, 3) := by decide +kernel
theorem dX10_bends_4 : decode cX10_bends 4 = .ok (.iload_n 1, 1) := by decide +kernel
theorem dX10_bends_5 : decode cX10_bends 5 = .ok (.invokevirtual 123, 3) := by decide +kernel
theorem dX10_bends_8 : decode cX10_bends 8 = .ok (.ifCond .eq 17, 3) := by decide +kernel
theorem dX10_bends_11 : decode cX10_bends 11 = .ok (.iload_n 2, 1) := by decide +kernel
theorem dX10_bends_12 : decode cX10_bends 12 = .ok (.invokestatic 185, 3) := by decide +kernel
theorem dX10_bends_15 : decode cX10_bends 15 = .ok (.ifCond .eq 10, 3) := by decide +kernel
theorem dX10_bends_18 : decode cX10_bends 18 = .ok (.iload_n 3, 1) := by decide +kernel
theorem dX10_bends_19 : decode cX10_bends 19 = .ok (.invokestatic 188, 3) := by decide +kernel
theorem dX10_bends_22 : decode cX10_bends 22 = .ok (.ifCond .ne 5, 3) := by decide +kernel
theorem dX10_bends_25 : decode cX10_bends 25 = .ok (.iconst (-1), 1) := by decide +kernel
theorem dX10_bends_26 : decode cX10_bends 26 = .ok (.ireturn, 1) := by decide +kernel
theorem dX10_bends_27 : decode cX10_bends 27 = .ok (.aload_n 0, 1) := by decide +kernel
theorem dX10_bends_28 : decode cX10_bends 28 = .ok (.getfield 47, 3) := by decide +kernel
theorem dX10_bends_31 : decode cX10_bends 31 = .ok (.aload_n 0, 1) := by decide +kernel
theorem dX10_bends_32 : decode cX10_bends 32 = .ok (.getfield 31, 3) := by decide +kernel
theorem dX10_bends_35 : decode cX10_bends 35 = .ok (.iload_n 1, 1) := by decide +kernel
theorem dX10_bends_36 : decode cX10_bends 36 = .ok (.iload_n 2, 1) := by decide +kernel
theorem dX10_bends_37 : decode cX10_bends 37 = .ok (.iload_n 3, 1) := by decide +kernel
theorem dX10_bends_38 : decode cX10_bends 38 = .ok (.invokevirtual 191, 3) := by decide +kernel
theorem dX10_bends_41 : decode cX10_bends 41 = .ok (.ireturn, 1) := by decide +kernel
theorem dX10_heard_0 : decode cX10_heard 0 = .ok (.aload_n 0, 1) := by decide +kernel
theorem dX10_heard_1 : decode cX10_heard 1 = .ok (.getfield 20, 3) := by decide +kernel
theorem dX10_heard_4 : decode cX10_heard 4 = .ok (.iload_n 1, 1) := by decide +kernel
theorem dX10_heard_5 : decode cX10_heard 5 = .ok (.invokevirtual 123, 3) := by decide +kernel
theorem dX10_heard_8 : decode cX10_heard 8 = .ok (.ifCond .eq 10, 3) := by decide +kernel
theorem dX10_heard_11 : decode cX10_heard 11 = .ok (.iload_n 2, 1) := by decide +kernel
theorem dX10_heard_12 : decode cX10_heard 12 = .ok (.invokestatic 195, 3) := by decide +kernel
theorem dX10_heard_15 : decode cX10_heard 15 = .ok (.ifCond .ne 5, 3) := by decide +kernel
theorem dX10_heard_18 : decode cX10_heard 18 = .ok (.iconst (-1), 1) := by decide +kernel
theorem dX10_heard_19 : decode cX10_heard 19 = .ok (.ireturn, 1) := by decide +kernel
theorem dX10_heard_20 : decode cX10_heard 20 = .ok (.aload_n 0, 1) := by decide +kernel
theorem dX10_heard_21 : decode cX10_heard 21 = .ok (.getfield 47, 3) := by decide +kernel
theorem dX10_heard_24 : decode cX10_heard 24 = .ok (.aload_n 0, 1) := by decide +kernel
theorem dX10_heard_25 : decode cX10_heard 25 = .ok (.getfield 31, 3) := by decide +kernel
theorem dX10_heard_28 : decode cX10_heard 28 = .ok (.iload_n 1, 1) := by decide +kernel
theorem dX10_heard_29 : decode cX10_heard 29 = .ok (.iload_n 2, 1) := by decide +kernel
theorem dX10_heard_30 : decode cX10_heard 30 = .ok (.invokevirtual 200, 3) := by decide +kernel
theorem dX10_heard_33 : decode cX10_heard 33 = .ok (.ireturn, 1) := by decide +kernel
theorem dX10_chain_0 : decode cX10_chain 0 = .ok (.aload_n 0, 1) := by decide +kernel
theorem dX10_chain_1 : decode cX10_chain 1 = .ok (.getfield 20, 3) := by decide +kernel
theorem dX10_chain_4 : decode cX10_chain 4 = .ok (.iload_n 1, 1) := by decide +kernel
theorem dX10_chain_5 : decode cX10_chain 5 = .ok (.invokevirtual 123, 3) := by decide +kernel
theorem dX10_chain_8 : decode cX10_chain 8 = .ok (.ifCond .eq 21, 3) := by decide +kernel
theorem dX10_chain_11 : decode cX10_chain 11 = .ok (.aload_n 0, 1) := by decide +kernel
theorem dX10_chain_12 : decode cX10_chain 12 = .ok (.getfield 20, 3) := by decide +kernel
theorem dX10_chain_15 : decode cX10_chain 15 = .ok (.iload_n 2, 1) := by decide +kernel
theorem dX10_chain_16 : decode cX10_chain 16 = .ok (.invokevirtual 123, 3) := by decide +kernel
theorem dX10_chain_19 : decode cX10_chain 19 = .ok (.ifCond .eq 10, 3) := by decide +kernel
theorem dX10_chain_22 : decode cX10_chain 22 = .ok (.iload_n 3, 1) := by decide +kernel
theorem dX10_chain_23 : decode cX10_chain 23 = .ok (.invokestatic 195, 3) := by decide +kernel
theorem dX10_chain_26 : decode cX10_chain 26 = .ok (.ifCond .ne 5, 3) := by decide +kernel
theorem dX10_chain_29 : decode cX10_chain 29 = .ok (.iconst (-1), 1) := by decide +kernel
theorem dX10_chain_30 : decode cX10_chain 30 = .ok (.ireturn, 1) := by decide +kernel
theorem dX10_chain_31 : decode cX10_chain 31 = .ok (.aload_n 0, 1) := by decide +kernel
theorem dX10_chain_32 : decode cX10_chain 32 = .ok (.getfield 47, 3) := by decide +kernel
theorem dX10_chain_35 : decode cX10_chain 35 = .ok (.aload_n 0, 1) := by decide +kernel
theorem dX10_chain_36 : decode cX10_chain 36 = .ok (.getfield 31, 3) := by decide +kernel
theorem dX10_chain_39 : decode cX10_chain 39 = .ok (.iload_n 2, 1) := by decide +kernel
theorem dX10_chain_40 : decode cX10_chain 40 = .ok (.aload_n 0, 1) := by decide +kernel
theorem dX10_chain_41 : decode cX10_chain 41 = .ok (.getfield 47, 3) := by decide +kernel
theorem dX10_chain_44 : decode cX10_chain 44 = .ok (.aload_n 0, 1) := by decide +kernel
theorem dX10_chain_45 : decode cX10_chain 45 = .ok (.getfield 31, 3) := by decide +kernel
theorem dX10_chain_48 : decode cX10_chain 48 = .ok (.iload_n 1, 1) := by decide +kernel
theorem dX10_chain_49 : decode cX10_chain 49 = .ok (.iload_n 3, 1) := by decide +kernel
theorem dX10_chain_50 : decode cX10_chain 50 = .ok (.invokevirtual 200, 3) := by decide +kernel
theorem dX10_chain_53 : decode cX10_chain 53 = .ok (.invokevirtual 200, 3) := by decide +kernel
theorem dX10_chain_56 : decode cX10_chain 56 = .ok (.ireturn, 1) := by decide +kernel
theorem dX10_say_0 : decode cX10_say 0 = .ok (.aload_n 0, 1) := by decide +kernel
theorem dX10_say_1 : decode cX10_say 1 = .ok (.getfield 20, 3) := by decide +kernel
theorem dX10_say_4 : decode cX10_say 4 = .ok (.iload_n 1, 1) := by decide +kernel
theorem dX10_say_5 : decode cX10_say 5 = .ok (.invokevirtual 123, 3) := by decide +kernel
theorem dX10_say_8 : decode cX10_say 8 = .ok (.ifCond .eq 10, 3) := by decide +kernel
theorem dX10_say_11 : decode cX10_say 11 = .ok (.iload_n 2, 1) := by decide +kernel
theorem dX10_say_12 : decode cX10_say 12 = .ok (.invokestatic 195, 3) := by decide +kernel
theorem dX10_say_15 : decode cX10_say 15 = .ok (.ifCond .ne 5, 3) := by decide +kernel
theorem dX10_say_18 : decode cX10_say 18 = .ok (.iconst (-1), 1) := by decide +kernel
theorem dX10_say_19 : decode cX10_say 19 = .ok (.ireturn, 1) := by decide +kernel
theorem dX10_say_20 : decode cX10_say 20 = .ok (.aload_n 0, 1) := by decide +kernel
theorem dX10_say_21 : decode cX10_say 21 = .ok (.getfield 56, 3) := by decide +kernel
theorem dX10_say_24 : decode cX10_say 24 = .ok (.aload_n 0, 1) := by decide +kernel
theorem dX10_say_25 : decode cX10_say 25 = .ok (.getfield 31, 3) := by decide +kernel
theorem dX10_say_28 : decode cX10_say 28 = .ok (.iload_n 1, 1) := by decide +kernel
theorem dX10_say_29 : decode cX10_say 29 = .ok (.iload_n 2, 1) := by decide +kernel
theorem dX10_say_30 : decode cX10_say 30 = .ok (.invokevirtual 204, 3) := by decide +kernel
theorem dX10_say_33 : decode cX10_say 33 = .ok (.ireturn, 1) := by decide +kernel
theorem dX10_loses_0 : decode cX10_loses 0 = .ok (.aload_n 0, 1) := by decide +kernel
theorem dX10_loses_1 : decode cX10_loses 1 = .ok (.getfield 20, 3) := by decide +kernel
theorem dX10_loses_4 : decode cX10_loses 4 = .ok (.iload_n 1, 1) := by decide +kernel
theorem dX10_loses_5 : decode cX10_loses 5 = .ok (.invokevirtual 123, 3) := by decide +kernel
theorem dX10_loses_8 : decode cX10_loses 8 = .ok (.ifCond .eq 21, 3) := by decide +kernel
theorem dX10_loses_11 : decode cX10_loses 11 = .ok (.aload_n 0, 1) := by decide +kernel
theorem dX10_loses_12 : decode cX10_loses 12 = .ok (.getfield 20, 3) := by decide +kernel
theorem dX10_loses_15 : decode cX10_loses 15 = .ok (.iload_n 2, 1) := by decide +kernel
theorem dX10_loses_16 : decode cX10_loses 16 = .ok (.invokevirtual 123, 3) := by decide +kernel
theorem dX10_loses_19 : decode cX10_loses 19 = .ok (.ifCond .eq 10, 3) := by decide +kernel
theorem dX10_loses_22 : decode cX10_loses 22 = .ok (.iload_n 3, 1) := by decide +kernel
theorem dX10_loses_23 : decode cX10_loses 23 = .ok (.invokestatic 195, 3) := by decide +kernel
theorem dX10_loses_26 : decode cX10_loses 26 = .ok (.ifCond .ne 5, 3) := by decide +kernel
theorem dX10_loses_29 : decode cX10_loses 29 = .ok (.iconst (-1), 1) := by decide +kernel
theorem dX10_loses_30 : decode cX10_loses 30 = .ok (.ireturn, 1) := by decide +kernel
theorem dX10_loses_31 : decode cX10_loses 31 = .ok (.aload_n 0, 1) := by decide +kernel
theorem dX10_loses_32 : decode cX10_loses 32 = .ok (.getfield 56, 3) := by decide +kernel
theorem dX10_loses_35 : decode cX10_loses 35 = .ok (.aload_n 0, 1) := by decide +kernel
theorem dX10_loses_36 : decode cX10_loses 36 = .ok (.getfield 31, 3) := by decide +kernel
theorem dX10_loses_39 : decode cX10_loses 39 = .ok (.iload_n 1, 1) := by decide +kernel
theorem dX10_loses_40 : decode cX10_loses 40 = .ok (.iload_n 2, 1) := by decide +kernel
theorem dX10_loses_41 : decode cX10_loses 41 = .ok (.iload_n 3, 1) := by decide +kernel
theorem dX10_loses_42 : decode cX10_loses 42 = .ok (.invokevirtual 207, 3) := by decide +kernel
theorem dX10_loses_45 : decode cX10_loses 45 = .ok (.ireturn, 1) := by decide +kernel
theorem dX10_least_0 : decode cX10_least 0 = .ok (.iload_n 1, 1) := by decide +kernel
theorem dX10_least_1 : decode cX10_least 1 = .ok (.invokestatic 195, 3) := by decide +kernel
theorem dX10_least_4 : decode cX10_least 4 = .ok (.ifCond .eq 18, 3) := by decide +kernel
theorem dX10_least_7 : decode cX10_least 7 = .ok (.aload_n 0, 1) := by decide +kernel
theorem dX10_least_8 : decode cX10_least 8 = .ok (.getfield 56, 3) := by decide +kernel
theorem dX10_least_11 : decode cX10_least 11 = .ok (.aload_n 0, 1) := by decide +kernel
theorem dX10_least_12 : decode cX10_least 12 = .ok (.getfield 31, 3) := by decide +kernel
theorem dX10_least_15 : decode cX10_least 15 = .ok (.iload_n 1, 1) := by decide +kernel
theorem dX10_least_16 : decode cX10_least 16 = .ok (.invokevirtual 210, 3) := by decide +kernel
theorem dX10_least_19 : decode cX10_least 19 = .ok (.goto 4, 3) := by decide +kernel
theorem dX10_least_22 : decode cX10_least 22 = .ok (.iconst (-1), 1) := by decide +kernel
theorem dX10_least_23 : decode cX10_least 23 = .ok (.ireturn, 1) := by decide +kernel
theorem dX10_truest_0 : decode cX10_truest 0 = .ok (.iload_n 1, 1) := by decide +kernel
theorem dX10_truest_1 : decode cX10_truest 1 = .ok (.invokestatic 195, 3) := by decide +kernel
theorem dX10_truest_4 : decode cX10_truest 4 = .ok (.ifCond .eq 18, 3) := by decide +kernel
theorem dX10_truest_7 : decode cX10_truest 7 = .ok (.aload_n 0, 1) := by decide +kernel
theorem dX10_truest_8 : decode cX10_truest 8 = .ok (.getfield 56, 3) := by decide +kernel
theorem dX10_truest_11 : decode cX10_truest 11 = .ok (.aload_n 0, 1) := by decide +kernel
theorem dX10_truest_12 : decode cX10_truest 12 = .ok (.getfield 31, 3) := by decide +kernel
theorem dX10_truest_15 : decode cX10_truest 15 = .ok (.iload_n 1, 1) := by decide +kernel
theorem dX10_truest_16 : decode cX10_truest 16 = .ok (.invokevirtual 213, 3) := by decide +kernel
theorem dX10_truest_19 : decode cX10_truest 19 = .ok (.goto 4, 3) := by decide +kernel
theorem dX10_truest_22 : decode cX10_truest 22 = .ok (.iconst (-1), 1) := by decide +kernel
theorem dX10_truest_23 : decode cX10_truest 23 = .ok (.ireturn, 1) := by decide +kernel
theorem dX10_crooked_0 : decode cX10_crooked 0 = .ok (.aload_n 0, 1) := by decide +kernel
theorem dX10_crooked_1 : decode cX10_crooked 1 = .ok (.getfield 20, 3) := by decide +kernel
theorem dX10_crooked_4 : decode cX10_crooked 4 = .ok (.iload_n 1, 1) := by decide +kernel
theorem dX10_crooked_5 : decode cX10_crooked 5 = .ok (.invokevirtual 123, 3) := by decide +kernel
theorem dX10_crooked_8 : decode cX10_crooked 8 = .ok (.ifCond .eq 10, 3) := by decide +kernel
theorem dX10_crooked_11 : decode cX10_crooked 11 = .ok (.iload_n 2, 1) := by decide +kernel
theorem dX10_crooked_12 : decode cX10_crooked 12 = .ok (.invokestatic 188, 3) := by decide +kernel
theorem dX10_crooked_15 : decode cX10_crooked 15 = .ok (.ifCond .ne 5, 3) := by decide +kernel
theorem dX10_crooked_18 : decode cX10_crooked 18 = .ok (.iconst (-1), 1) := by decide +kernel
theorem dX10_crooked_19 : decode cX10_crooked 19 = .ok (.ireturn, 1) := by decide +kernel
theorem dX10_crooked_20 : decode cX10_crooked 20 = .ok (.iconst 0, 1) := by decide +kernel
theorem dX10_crooked_21 : decode cX10_crooked 21 = .ok (.istore_n 3, 1) := by decide +kernel
theorem dX10_crooked_22 : decode cX10_crooked 22 = .ok (.iconst 0, 1) := by decide +kernel
theorem dX10_crooked_23 : decode cX10_crooked 23 = .ok (.istore 4, 2) := by decide +kernel
theorem dX10_crooked_25 : decode cX10_crooked 25 = .ok (.iload 4, 2) := by decide +kernel
theorem dX10_crooked_27 : decode cX10_crooked 27 = .ok (.bipush 8, 2) := by decide +kernel
theorem dX10_crooked_29 : decode cX10_crooked 29 = .ok (.if_icmp .ge 32, 3) := by decide +kernel
theorem dX10_crooked_32 : decode cX10_crooked 32 = .ok (.aload_n 0, 1) := by decide +kernel
theorem dX10_crooked_33 : decode cX10_crooked 33 = .ok (.getfield 47, 3) := by decide +kernel
theorem dX10_crooked_36 : decode cX10_crooked 36 = .ok (.aload_n 0, 1) := by decide +kernel
theorem dX10_crooked_37 : decode cX10_crooked 37 = .ok (.getfield 31, 3) := by decide +kernel
theorem dX10_crooked_40 : decode cX10_crooked 40 = .ok (.iload_n 1, 1) := by decide +kernel
theorem dX10_crooked_41 : decode cX10_crooked 41 = .ok (.iload 4, 2) := by decide +kernel
theorem dX10_crooked_43 : decode cX10_crooked 43 = .ok (.iload_n 2, 1) := by decide +kernel
theorem dX10_crooked_44 : decode cX10_crooked 44 = .ok (.invokevirtual 191, 3) := by decide +kernel
theorem dX10_crooked_47 : decode cX10_crooked 47 = .ok (.iload 4, 2) := by decide +kernel
theorem dX10_crooked_49 : decode cX10_crooked 49 = .ok (.if_icmp .eq 6, 3) := by decide +kernel
theorem dX10_crooked_52 : decode cX10_crooked 52 = .ok (.iinc 3 1, 3) := by decide +kernel
theorem dX10_crooked_55 : decode cX10_crooked 55 = .ok (.iinc 4 1, 3) := by decide +kernel
theorem dX10_crooked_58 : decode cX10_crooked 58 = .ok (.goto (-33), 3) := by decide +kernel
theorem dX10_crooked_61 : decode cX10_crooked 61 = .ok (.iload_n 3, 1) := by decide +kernel
theorem dX10_crooked_62 : decode cX10_crooked 62 = .ok (.ireturn, 1) := by decide +kernel
theorem dX10_altered_0 : decode cX10_altered 0 = .ok (.iload_n 1, 1) := by decide +kernel
theorem dX10_altered_1 : decode cX10_altered 1 = .ok (.invokestatic 195, 3) := by decide +kernel
theorem dX10_altered_4 : decode cX10_altered 4 = .ok (.ifCond .eq 10, 3) := by decide +kernel
theorem dX10_altered_7 : decode cX10_altered 7 = .ok (.iload_n 2, 1) := by decide +kernel
theorem dX10_altered_8 : decode cX10_altered 8 = .ok (.invokestatic 195, 3) := by decide +kernel
theorem dX10_altered_11 : decode cX10_altered 11 = .ok (.ifCond .ne 5, 3) := by decide +kernel
theorem dX10_altered_14 : decode cX10_altered 14 = .ok (.iconst (-1), 1) := by decide +kernel
theorem dX10_altered_15 : decode cX10_altered 15 = .ok (.ireturn, 1) := by decide +kernel
theorem dX10_altered_16 : decode cX10_altered 16 = .ok (.aload_n 0, 1) := by decide +kernel
theorem dX10_altered_17 : decode cX10_altered 17 = .ok (.getfield 56, 3) := by decide +kernel
theorem dX10_altered_20 : decode cX10_altered 20 = .ok (.getfield 216, 3) := by decide +kernel
theorem dX10_altered_23 : decode cX10_altered 23 = .ok (.iload_n 1, 1) := by decide +kernel
theorem dX10_altered_24 : decode cX10_altered 24 = .ok (.iload_n 2, 1) := by decide +kernel
theorem dX10_altered_25 : decode cX10_altered 25 = .ok (.invokevirtual 220, 3) := by decide +kernel
theorem dX10_altered_28 : decode cX10_altered 28 = .ok (.ireturn, 1) := by decide +kernel
theorem dX10_takes_0 : decode cX10_takes 0 = .ok (.aload_n 0, 1) := by decide +kernel
theorem dX10_takes_1 : decode cX10_takes 1 = .ok (.getfield 20, 3) := by decide +kernel
theorem dX10_takes_4 : decode cX10_takes 4 = .ok (.iload_n 1, 1) := by decide +kernel
theorem dX10_takes_5 : decode cX10_takes 5 = .ok (.invokevirtual 106, 3) := by decide +kernel
theorem dX10_takes_8 : decode cX10_takes 8 = .ok (.ifCond .eq 10, 3) := by decide +kernel
theorem dX10_takes_11 : decode cX10_takes 11 = .ok (.iload_n 2, 1) := by decide +kernel
theorem dX10_takes_12 : decode cX10_takes 12 = .ok (.invokestatic 195, 3) := by decide +kernel
theorem dX10_takes_15 : decode cX10_takes 15 = .ok (.ifCond .ne 5, 3) := by decide +kernel
theorem dX10_takes_18 : decode cX10_takes 18 = .ok (.iconst (-1), 1) := by decide +kernel
theorem dX10_takes_19 : decode cX10_takes 19 = .ok (.ireturn, 1) := by decide +kernel
theorem dX10_takes_20 : decode cX10_takes 20 = .ok (.aload_n 0, 1) := by decide +kernel
theorem dX10_takes_21 : decode cX10_takes 21 = .ok (.getfield 47, 3) := by decide +kernel
theorem dX10_takes_24 : decode cX10_takes 24 = .ok (.aload_n 0, 1) := by decide +kernel
theorem dX10_takes_25 : decode cX10_takes 25 = .ok (.getfield 31, 3) := by decide +kernel
theorem dX10_takes_28 : decode cX10_takes 28 = .ok (.iload_n 1, 1) := by decide +kernel
theorem dX10_takes_29 : decode cX10_takes 29 = .ok (.iload_n 2, 1) := by decide +kernel
theorem dX10_takes_30 : decode cX10_takes 30 = .ok (.invokevirtual 223, 3) := by decide +kernel
theorem dX10_takes_33 : decode cX10_takes 33 = .ok (.ireturn, 1) := by decide +kernel
theorem dX10_hires_0 : decode cX10_hires 0 = .ok (.iload_n 1, 1) := by decide +kernel
theorem dX10_hires_1 : decode cX10_hires 1 = .ok (.iconst (-1), 1) := by decide +kernel
theorem dX10_hires_2 : decode cX10_hires 2 = .ok (.if_icmp .eq 16, 3) := by decide +kernel
theorem dX10_hires_5 : decode cX10_hires 5 = .ok (.aload_n 0, 1) := by decide +kernel
theorem dX10_hires_6 : decode cX10_hires 6 = .ok (.getfield 20, 3) := by decide +kernel
theorem dX10_hires_9 : decode cX10_hires 9 = .ok (.iload_n 1, 1) := by decide +kernel
theorem dX10_hires_10 : decode cX10_hires 10 = .ok (.invokevirtual 117, 3) := by decide +kernel
theorem dX10_hires_13 : decode cX10_hires 13 = .ok (.ifCond .ne 5, 3) := by decide +kernel
theorem dX10_hires_16 : decode cX10_hires 16 = .ok (.iconst (-1), 1) := by decide +kernel
theorem dX10_hires_17 : decode cX10_hires 17 = .ok (.ireturn, 1) := by decide +kernel
theorem dX10_hires_18 : decode cX10_hires 18 = .ok (.aload_n 0, 1) := by decide +kernel
theorem dX10_hires_19 : decode cX10_hires 19 = .ok (.getfield 56, 3) := by decide +kernel
theorem dX10_hires_22 : decode cX10_hires 22 = .ok (.aload_n 0, 1) := by decide +kernel
theorem dX10_hires_23 : decode cX10_hires 23 = .ok (.getfield 31, 3) := by decide +kernel
theorem dX10_hires_26 : decode cX10_hires 26 = .ok (.iload_n 1, 1) := by decide +kernel
theorem dX10_hires_27 : decode cX10_hires 27 = .ok (.invokevirtual 226, 3) := by decide +kernel
theorem dX10_hires_30 : decode cX10_hires 30 = .ok (.ireturn, 1) := by decide +kernel
theorem dX10_then_0 : decode cX10_then 0 = .ok (.aload_n 0, 1) := by decide +kernel
theorem dX10_then_1 : decode cX10_then 1 = .ok (.getfield 20, 3) := by decide +kernel
theorem dX10_then_4 : decode cX10_then 4 = .ok (.iload_n 1, 1) := by decide +kernel
theorem dX10_then_5 : decode cX10_then 5 = .ok (.invokevirtual 106, 3) := by decide +kernel
theorem dX10_then_8 : decode cX10_then 8 = .ok (.ifCond .eq 13, 3) := by decide +kernel
theorem dX10_then_11 : decode cX10_then 11 = .ok (.iload_n 2, 1) := by decide +kernel
theorem dX10_then_12 : decode cX10_then 12 = .ok (.ifCond .lt 9, 3) := by decide +kernel
theorem dX10_then_15 : decode cX10_then 15 = .ok (.iload_n 2, 1) := by decide +kernel
theorem dX10_then_16 : decode cX10_then 16 = .ok (.bipush 60, 2) := by decide +kernel
theorem dX10_then_18 : decode cX10_then 18 = .ok (.if_icmp .le 5, 3) := by decide +kernel
theorem dX10_then_21 : decode cX10_then 21 = .ok (.iconst (-1), 1) := by decide +kernel
theorem dX10_then_22 : decode cX10_then 22 = .ok (.ireturn, 1) := by decide +kernel
theorem dX10_then_23 : decode cX10_then 23 = .ok (.aload_n 0, 1) := by decide +kernel
theorem dX10_then_24 : decode cX10_then 24 = .ok (.getfield 63, 3) := by decide +kernel
theorem dX10_then_27 : decode cX10_then 27 = .ok (.aload_n 0, 1) := by decide +kernel
theorem dX10_then_28 : decode cX10_then 28 = .ok (.getfield 31, 3) := by decide +kernel
theorem dX10_then_31 : decode cX10_then 31 = .ok (.iload_n 2, 1) := by decide +kernel
theorem dX10_then_32 : decode cX10_then 32 = .ok (.invokevirtual 229, 3) := by decide +kernel
theorem dX10_then_35 : decode cX10_then 35 = .ok (.iconst 4, 1) := by decide +kernel
theorem dX10_then_36 : decode cX10_then 36 = .ok (.iload_n 1, 1) := by decide +kernel
theorem dX10_then_37 : decode cX10_then 37 = .ok (.iadd, 1) := by decide +kernel
theorem dX10_then_38 : decode cX10_then 38 = .ok (.iaload, 1) := by decide +kernel
theorem dX10_then_39 : decode cX10_then 39 = .ok (.ireturn, 1) := by decide +kernel
theorem dX10_paid_0 : decode cX10_paid 0 = .ok (.aload_n 0, 1) := by decide +kernel
theorem dX10_paid_1 : decode cX10_paid 1 = .ok (.getfield 20, 3) := by decide +kernel
theorem dX10_paid_4 : decode cX10_paid 4 = .ok (.iload_n 1, 1) := by decide +kernel
theorem dX10_paid_5 : decode cX10_paid 5 = .ok (.invokevirtual 123, 3) := by decide +kernel
theorem dX10_paid_8 : decode cX10_paid 8 = .ok (.ifCond .eq 13, 3) := by decide +kernel
theorem dX10_paid_11 : decode cX10_paid 11 = .ok (.iload_n 2, 1) := by decide +kernel
theorem dX10_paid_12 : decode cX10_paid 12 = .ok (.ifCond .lt 9, 3) := by decide +kernel
theorem dX10_paid_15 : decode cX10_paid 15 = .ok (.iload_n 2, 1) := by decide +kernel
theorem dX10_paid_16 : decode cX10_paid 16 = .ok (.bipush 60, 2) := by decide +kernel
theorem dX10_paid_18 : decode cX10_paid 18 = .ok (.if_icmp .le 6, 3) := by decide +kernel
theorem dX10_paid_21 : decode cX10_paid 21 = .ok (.ldc 126, 2) := by decide +kernel
theorem dX10_paid_23 : decode cX10_paid 23 = .ok (.ireturn, 1) := by decide +kernel
theorem dX10_paid_24 : decode cX10_paid 24 = .ok (.iload_n 3, 1) := by decide +kernel
theorem dX10_paid_25 : decode cX10_paid 25 = .ok (.tableswitch 81 0 2 #[27, 45, 63], 27) := by decide +kernel
theorem dX10_paid_52 : decode cX10_paid 52 = .ok (.aload_n 0, 1) := by decide +kernel
theorem dX10_paid_53 : decode cX10_paid 53 = .ok (.getfield 63, 3) := by decide +kernel
theorem dX10_paid_56 : decode cX10_paid 56 = .ok (.aload_n 0, 1) := by decide +kernel
theorem dX10_paid_57 : decode cX10_paid 57 = .ok (.getfield 31, 3) := by decide +kernel
theorem dX10_paid_60 : decode cX10_paid 60 = .ok (.iload_n 2, 1) := by decide +kernel
theorem dX10_paid_61 : decode cX10_paid 61 = .ok (.invokevirtual 229, 3) := by decide +kernel
theorem dX10_paid_64 : decode cX10_paid 64 = .ok (.bipush 40, 2) := by decide +kernel
theorem dX10_paid_66 : decode cX10_paid 66 = .ok (.iload_n 1, 1) := by decide +kernel
theorem dX10_paid_67 : decode cX10_paid 67 = .ok (.iadd, 1) := by decide +kernel
theorem dX10_paid_68 : decode cX10_paid 68 = .ok (.iaload, 1) := by decide +kernel
theorem dX10_paid_69 : decode cX10_paid 69 = .ok (.ireturn, 1) := by decide +kernel
theorem dX10_paid_70 : decode cX10_paid 70 = .ok (.aload_n 0, 1) := by decide +kernel
theorem dX10_paid_71 : decode cX10_paid 71 = .ok (.getfield 63, 3) := by decide +kernel
theorem dX10_paid_74 : decode cX10_paid 74 = .ok (.aload_n 0, 1) := by decide +kernel
theorem dX10_paid_75 : decode cX10_paid 75 = .ok (.getfield 31, 3) := by decide +kernel
theorem dX10_paid_78 : decode cX10_paid 78 = .ok (.iload_n 2, 1) := by decide +kernel
theorem dX10_paid_79 : decode cX10_paid 79 = .ok (.invokevirtual 229, 3) := by decide +kernel
theorem dX10_paid_82 : decode cX10_paid 82 = .ok (.bipush 28, 2) := by decide +kernel
theorem dX10_paid_84 : decode cX10_paid 84 = .ok (.iload_n 1, 1) := by decide +kernel
theorem dX10_paid_85 : decode cX10_paid 85 = .ok (.iadd, 1) := by decide +kernel
theorem dX10_paid_86 : decode cX10_paid 86 = .ok (.iaload, 1) := by decide +kernel
theorem dX10_paid_87 : decode cX10_paid 87 = .ok (.ireturn, 1) := by decide +kernel
theorem dX10_paid_88 : decode cX10_paid 88 = .ok (.aload_n 0, 1) := by decide +kernel
theorem dX10_paid_89 : decode cX10_paid 89 = .ok (.getfield 63, 3) := by decide +kernel
theorem dX10_paid_92 : decode cX10_paid 92 = .ok (.aload_n 0, 1) := by decide +kernel
theorem dX10_paid_93 : decode cX10_paid 93 = .ok (.getfield 31, 3) := by decide +kernel
theorem dX10_paid_96 : decode cX10_paid 96 = .ok (.iload_n 2, 1) := by decide +kernel
theorem dX10_paid_97 : decode cX10_paid 97 = .ok (.invokevirtual 229, 3) := by decide +kernel
theorem dX10_paid_100 : decode cX10_paid 100 = .ok (.bipush 32, 2) := by decide +kernel
theorem dX10_paid_102 : decode cX10_paid 102 = .ok (.iload_n 1, 1) := by decide +kernel
theorem dX10_paid_103 : decode cX10_paid 103 = .ok (.iadd, 1) := by decide +kernel
theorem dX10_paid_104 : decode cX10_paid 104 = .ok (.iaload, 1) := by decide +kernel
theorem dX10_paid_105 : decode cX10_paid 105 = .ok (.ireturn, 1) := by decide +kernel
theorem dX10_paid_106 : decode cX10_paid 106 = .ok (.ldc 126, 2) := by decide +kernel
theorem dX10_paid_108 : decode cX10_paid 108 = .ok (.ireturn, 1) := by decide +kernel
theorem dX10_parts_0 : decode cX10_parts 0 = .ok (.aload_n 0, 1) := by decide +kernel
theorem dX10_parts_1 : decode cX10_parts 1 = .ok (.getfield 20, 3) := by decide +kernel
theorem dX10_parts_4 : decode cX10_parts 4 = .ok (.iload_n 1, 1) := by decide +kernel
theorem dX10_parts_5 : decode cX10_parts 5 = .ok (.invokevirtual 117, 3) := by decide +kernel
theorem dX10_parts_8 : decode cX10_parts 8 = .ok (.ifCond .ne 5, 3) := by decide +kernel
theorem dX10_parts_11 : decode cX10_parts 11 = .ok (.iconst (-1), 1) := by decide +kernel
theorem dX10_parts_12 : decode cX10_parts 12 = .ok (.ireturn, 1) := by decide +kernel
theorem dX10_parts_13 : decode cX10_parts 13 = .ok (.aload_n 0, 1) := by decide +kernel
theorem dX10_parts_14 : decode cX10_parts 14 = .ok (.getfield 63, 3) := by decide +kernel
theorem dX10_parts_17 : decode cX10_parts 17 = .ok (.aload_n 0, 1) := by decide +kernel
theorem dX10_parts_18 : decode cX10_parts 18 = .ok (.getfield 31, 3) := by decide +kernel
theorem dX10_parts_21 : decode cX10_parts 21 = .ok (.iload_n 1, 1) := by decide +kernel
theorem dX10_parts_22 : decode cX10_parts 22 = .ok (.sipush 200, 3) := by decide +kernel
theorem dX10_parts_25 : decode cX10_parts 25 = .ok (.aload_n 0, 1) := by decide +kernel
theorem dX10_parts_26 : decode cX10_parts 26 = .ok (.getfield 20, 3) := by decide +kernel
theorem dX10_parts_29 : decode cX10_parts 29 = .ok (.getfield 167, 3) := by decide +kernel
theorem dX10_parts_32 : decode cX10_parts 32 = .ok (.invokevirtual 233, 3) := by decide +kernel
theorem dX10_parts_35 : decode cX10_parts 35 = .ok (.ireturn, 1) := by decide +kernel
theorem dX10_oaths_0 : decode cX10_oaths 0 = .ok (.iload_n 1, 1) := by decide +kernel
theorem dX10_oaths_1 : decode cX10_oaths 1 = .ok (.iconst 1, 1) := by decide +kernel
theorem dX10_oaths_2 : decode cX10_oaths 2 = .ok (.if_icmp .lt 14, 3) := by decide +kernel
theorem dX10_oaths_5 : decode cX10_oaths 5 = .ok (.iload_n 1, 1) := by decide +kernel
theorem dX10_oaths_6 : decode cX10_oaths 6 = .ok (.bipush 24, 2) := by decide +kernel
theorem dX10_oaths_8 : decode cX10_oaths 8 = .ok (.if_icmp .gt 8, 3) := by decide +kernel
theorem dX10_oaths_11 : decode cX10_oaths 11 = .ok (.iload_n 2, 1) := by decide +kernel
theorem dX10_oaths_12 : decode cX10_oaths 12 = .ok (.iconst (-1), 1) := by decide +kernel
theorem dX10_oaths_13 : decode cX10_oaths 13 = .ok (.if_icmp .ge 5, 3) := by decide +kernel
theorem dX10_oaths_16 : decode cX10_oaths 16 = .ok (.iconst (-1), 1) := by decide +kernel
theorem dX10_oaths_17 : decode cX10_oaths 17 = .ok (.ireturn, 1) := by decide +kernel
theorem dX10_oaths_18 : decode cX10_oaths 18 = .ok (.iconst 0, 1) := by decide +kernel
theorem dX10_oaths_19 : decode cX10_oaths 19 = .ok (.istore_n 3, 1) := by decide +kernel
theorem dX10_oaths_20 : decode cX10_oaths 20 = .ok (.iload_n 3, 1) := by decide +kernel
theorem dX10_oaths_21 : decode cX10_oaths 21 = .ok (.iconst 1, 1) := by decide +kernel
theorem dX10_oaths_22 : decode cX10_oaths 22 = .ok (.aload_n 0, 1) := by decide +kernel
theorem dX10_oaths_23 : decode cX10_oaths 23 = .ok (.getfield 20, 3) := by decide +kernel
theorem dX10_oaths_26 : decode cX10_oaths 26 = .ok (.getfield 144, 3) := by decide +kernel
theorem dX10_oaths_29 : decode cX10_oaths 29 = .ok (.ishl, 1) := by decide +kernel
theorem dX10_oaths_30 : decode cX10_oaths 30 = .ok (.if_icmp .ge 22, 3) := by decide +kernel
theorem dX10_oaths_33 : decode cX10_oaths 33 = .ok (.aload_n 0, 1) := by decide +kernel
theorem dX10_oaths_34 : decode cX10_oaths 34 = .ok (.getfield 63, 3) := by decide +kernel
theorem dX10_oaths_37 : decode cX10_oaths 37 = .ok (.aload_n 0, 1) := by decide +kernel
theorem dX10_oaths_38 : decode cX10_oaths 38 = .ok (.getfield 31, 3) := by decide +kernel
theorem dX10_oaths_41 : decode cX10_oaths 41 = .ok (.iload_n 1, 1) := by decide +kernel
theorem dX10_oaths_42 : decode cX10_oaths 42 = .ok (.iload_n 3, 1) := by decide +kernel
theorem dX10_oaths_43 : decode cX10_oaths 43 = .ok (.invokevirtual 236, 3) := by decide +kernel
theorem dX10_oaths_46 : decode cX10_oaths 46 = .ok (.iinc 3 1, 3) := by decide +kernel
theorem dX10_oaths_49 : decode cX10_oaths 49 = .ok (.goto (-29), 3) := by decide +kernel
theorem dX10_oaths_52 : decode cX10_oaths 52 = .ok (.aload_n 0, 1) := by decide +kernel
theorem dX10_oaths_53 : decode cX10_oaths 53 = .ok (.getfield 63, 3) := by decide +kernel
theorem dX10_oaths_56 : decode cX10_oaths 56 = .ok (.iload_n 2, 1) := by decide +kernel
theorem dX10_oaths_57 : decode cX10_oaths 57 = .ok (.invokevirtual 240, 3) := by decide +kernel
theorem dX10_oaths_60 : decode cX10_oaths 60 = .ok (.ireturn, 1) := by decide +kernel
theorem dX10_year_0 : decode cX10_year 0 = .ok (.aload_n 0, 1) := by decide +kernel
theorem dX10_year_1 : decode cX10_year 1 = .ok (.getfield 20, 3) := by decide +kernel
theorem dX10_year_4 : decode cX10_year 4 = .ok (.iload_n 1, 1) := by decide +kernel
theorem dX10_year_5 : decode cX10_year 5 = .ok (.invokevirtual 117, 3) := by decide +kernel
theorem dX10_year_8 : decode cX10_year 8 = .ok (.ifCond .eq 24, 3) := by decide +kernel
theorem dX10_year_11 : decode cX10_year 11 = .ok (.iload_n 2, 1) := by decide +kernel
theorem dX10_year_12 : decode cX10_year 12 = .ok (.ifCond .lt 20, 3) := by decide +kernel
theorem dX10_year_15 : decode cX10_year 15 = .ok (.iload_n 2, 1) := by decide +kernel
theorem dX10_year_16 : decode cX10_year 16 = .ok (.bipush 60, 2) := by decide +kernel
theorem dX10_year_18 : decode cX10_year 18 = .ok (.if_icmp .gt 14, 3) := by decide +kernel
theorem dX10_year_21 : decode cX10_year 21 = .ok (.iload_n 3, 1) := by decide +kernel
theorem dX10_year_22 : decode cX10_year 22 = .ok (.iconst 1, 1) := by decide +kernel
theorem dX10_year_23 : decode cX10_year 23 = .ok (.if_icmp .lt 9, 3) := by decide +kernel
theorem dX10_year_26 : decode cX10_year 26 = .ok (.iload_n 3, 1) := by decide +kernel
theorem dX10_year_27 : decode cX10_year 27 = .ok (.bipush 20, 2) := by decide +kernel
theorem dX10_year_29 : decode cX10_year 29 = .ok (.if_icmp .le 5, 3) := by decide +kernel
theorem dX10_year_32 : decode cX10_year 32 = .ok (.iconst (-1), 1) := by decide +kernel
theorem dX10_year_33 : decode cX10_year 33 = .ok (.ireturn, 1) := by decide +kernel
theorem dX10_year_34 : decode cX10_year 34 = .ok (.iconst 0, 1) := by decide +kernel
theorem dX10_year_35 : decode cX10_year 35 = .ok (.istore 4, 2) := by decide +kernel
theorem dX10_year_37 : decode cX10_year 37 = .ok (.iconst 0, 1) := by decide +kernel
theorem dX10_year_38 : decode cX10_year 38 = .ok (.istore 5, 2) := by decide +kernel
theorem dX10_year_40 : decode cX10_year 40 = .ok (.iload 5, 2) := by decide +kernel
theorem dX10_year_42 : decode cX10_year 42 = .ok (.iload_n 3, 1) := by decide +kernel
theorem dX10_year_43 : decode cX10_year 43 = .ok (.if_icmp .ge 40, 3) := by decide +kernel
theorem dX10_year_46 : decode cX10_year 46 = .ok (.aload_n 0, 1) := by decide +kernel
theorem dX10_year_47 : decode cX10_year 47 = .ok (.getfield 63, 3) := by decide +kernel
theorem dX10_year_50 : decode cX10_year 50 = .ok (.aload_n 0, 1) := by decide +kernel
theorem dX10_year_51 : decode cX10_year 51 = .ok (.getfield 31, 3) := by decide +kernel
theorem dX10_year_54 : decode cX10_year 54 = .ok (.iload_n 1, 1) := by decide +kernel
theorem dX10_year_55 : decode cX10_year 55 = .ok (.iload_n 2, 1) := by decide +kernel
theorem dX10_year_56 : decode cX10_year 56 = .ok (.aload_n 0, 1) := by decide +kernel
theorem dX10_year_57 : decode cX10_year 57 = .ok (.getfield 20, 3) := by decide +kernel
theorem dX10_year_60 : decode cX10_year 60 = .ok (.getfield 167, 3) := by decide +kernel
theorem dX10_year_63 : decode cX10_year 63 = .ok (.iload 5, 2) := by decide +kernel
theorem dX10_year_65 : decode cX10_year 65 = .ok (.iadd, 1) := by decide +kernel
theorem dX10_year_66 : decode cX10_year 66 = .ok (.invokevirtual 233, 3) := by decide +kernel
theorem dX10_year_69 : decode cX10_year 69 = .ok (.bipush (-2), 2) := by decide +kernel
theorem dX10_year_71 : decode cX10_year 71 = .ok (.if_icmp .eq 6, 3) := by decide +kernel
theorem dX10_year_74 : decode cX10_year 74 = .ok (.iinc 4 1, 3) := by decide +kernel
theorem dX10_year_77 : decode cX10_year 77 = .ok (.iinc 5 1, 3) := by decide +kernel
theorem dX10_year_80 : decode cX10_year 80 = .ok (.goto (-40), 3) := by decide +kernel
theorem dX10_year_83 : decode cX10_year 83 = .ok (.iload 4, 2) := by decide +kernel
theorem dX10_year_85 : decode cX10_year 85 = .ok (.ireturn, 1) := by decide +kernel
theorem dX10_tell_0 : decode cX10_tell 0 = .ok (.iload_n 1, 1) := by decide +kernel
theorem dX10_tell_1 : decode cX10_tell 1 = .ok (.invokestatic 185, 3) := by decide +kernel
theorem dX10_tell_4 : decode cX10_tell 4 = .ok (.ifCond .eq 18, 3) := by decide +kernel
theorem dX10_tell_7 : decode cX10_tell 7 = .ok (.iload_n 2, 1) := by decide +kernel
theorem dX10_tell_8 : decode cX10_tell 8 = .ok (.invokestatic 195, 3) := by decide +kernel
theorem dX10_tell_11 : decode cX10_tell 11 = .ok (.ifCond .eq 11, 3) := by decide +kernel
theorem dX10_tell_14 : decode cX10_tell 14 = .ok (.iload_n 2, 1) := by decide +kernel
theorem dX10_tell_15 : decode cX10_tell 15 = .ok (.invokestatic 243, 3) := by decide +kernel
theorem dX10_tell_18 : decode cX10_tell 18 = .ok (.iconst 1, 1) := by decide +kernel
theorem dX10_tell_19 : decode cX10_tell 19 = .ok (.if_icmp .le 5, 3) := by decide +kernel
theorem dX10_tell_22 : decode cX10_tell 22 = .ok (.iconst (-1), 1) := by decide +kernel
theorem dX10_tell_23 : decode cX10_tell 23 = .ok (.ireturn, 1) := by decide +kernel
theorem dX10_tell_24 : decode cX10_tell 24 = .ok (.aload_n 0, 1) := by decide +kernel
theorem dX10_tell_25 : decode cX10_tell 25 = .ok (.getfield 70, 3) := by decide +kernel
theorem dX10_tell_28 : decode cX10_tell 28 = .ok (.iload_n 1, 1) := by decide +kernel
theorem dX10_tell_29 : decode cX10_tell 29 = .ok (.iload_n 2, 1) := by decide +kernel
theorem dX10_tell_30 : decode cX10_tell 30 = .ok (.invokevirtual 245, 3) := by decide +kernel
theorem dX10_tell_33 : decode cX10_tell 33 = .ok (.ireturn, 1) := by decide +kernel
theorem dX10_forget_0 : decode cX10_forget 0 = .ok (.aload_n 0, 1) := by decide +kernel
theorem dX10_forget_1 : decode cX10_forget 1 = .ok (.getfield 70, 3) := by decide +kernel
theorem dX10_forget_4 : decode cX10_forget 4 = .ok (.getfield 154, 3) := by decide +kernel
theorem dX10_forget_7 : decode cX10_forget 7 = .ok (.istore_n 1, 1) := by decide +kernel
theorem dX10_forget_8 : decode cX10_forget 8 = .ok (.aload_n 0, 1) := by decide +kernel
theorem dX10_forget_9 : decode cX10_forget 9 = .ok (.getfield 70, 3) := by decide +kernel
theorem dX10_forget_12 : decode cX10_forget 12 = .ok (.invokevirtual 105, 3) := by decide +kernel
theorem dX10_forget_15 : decode cX10_forget 15 = .ok (.iload_n 1, 1) := by decide +kernel
theorem dX10_forget_16 : decode cX10_forget 16 = .ok (.ireturn, 1) := by decide +kernel
theorem dX10_who_0 : decode cX10_who 0 = .ok (.aload_n 0, 1) := by decide +kernel
theorem dX10_who_1 : decode cX10_who 1 = .ok (.getfield 70, 3) := by decide +kernel
theorem dX10_who_4 : decode cX10_who 4 = .ok (.iload_n 1, 1) := by decide +kernel
theorem dX10_who_5 : decode cX10_who 5 = .ok (.invokevirtual 248, 3) := by decide +kernel
theorem dX10_who_8 : decode cX10_who 8 = .ok (.ifCond .eq 18, 3) := by decide +kernel
theorem dX10_who_11 : decode cX10_who 11 = .ok (.aload_n 0, 1) := by decide +kernel
theorem dX10_who_12 : decode cX10_who 12 = .ok (.getfield 70, 3) := by decide +kernel
theorem dX10_who_15 : decode cX10_who 15 = .ok (.aload_n 0, 1) := by decide +kernel
theorem dX10_who_16 : decode cX10_who 16 = .ok (.getfield 31, 3) := by decide +kernel
theorem dX10_who_19 : decode cX10_who 19 = .ok (.iload_n 1, 1) := by decide +kernel
theorem dX10_who_20 : decode cX10_who 20 = .ok (.invokevirtual 251, 3) := by decide +kernel
theorem dX10_who_23 : decode cX10_who 23 = .ok (.goto 4, 3) := by decide +kernel
theorem dX10_who_26 : decode cX10_who 26 = .ok (.iconst (-1), 1) := by decide +kernel
theorem dX10_who_27 : decode cX10_who 27 = .ok (.ireturn, 1) := by decide +kernel
theorem dX10_ask_0 : decode cX10_ask 0 = .ok (.aload_n 0, 1) := by decide +kernel
theorem dX10_ask_1 : decode cX10_ask 1 = .ok (.getfield 70, 3) := by decide +kernel
theorem dX10_ask_4 : decode cX10_ask 4 = .ok (.iload_n 1, 1) := by decide +kernel
theorem dX10_ask_5 : decode cX10_ask 5 = .ok (.invokevirtual 248, 3) := by decide +kernel
theorem dX10_ask_8 : decode cX10_ask 8 = .ok (.ifCond .eq 18, 3) := by decide +kernel
theorem dX10_ask_11 : decode cX10_ask 11 = .ok (.aload_n 0, 1) := by decide +kernel
theorem dX10_ask_12 : decode cX10_ask 12 = .ok (.getfield 70, 3) := by decide +kernel
theorem dX10_ask_15 : decode cX10_ask 15 = .ok (.aload_n 0, 1) := by decide +kernel
theorem dX10_ask_16 : decode cX10_ask 16 = .ok (.getfield 31, 3) := by decide +kernel
theorem dX10_ask_19 : decode cX10_ask 19 = .ok (.iload_n 1, 1) := by decide +kernel
theorem dX10_ask_20 : decode cX10_ask 20 = .ok (.invokevirtual 254, 3) := by decide +kernel
theorem dX10_ask_23 : decode cX10_ask 23 = .ok (.goto 4, 3) := by decide +kernel
theorem dX10_ask_26 : decode cX10_ask 26 = .ok (.iconst (-1), 1) := by decide +kernel
theorem dX10_ask_27 : decode cX10_ask 27 = .ok (.ireturn, 1) := by decide +kernel
theorem dX10_isWord_0 : decode cX10_isWord 0 = .ok (.iload_n 0, 1) := by decide +kernel
theorem dX10_isWord_1 : decode cX10_isWord 1 = .ok (.ifCond .lt 13, 3) := by decide +kernel
theorem dX10_isWord_4 : decode cX10_isWord 4 = .ok (.iload_n 0, 1) := by decide +kernel
theorem dX10_isWord_5 : decode cX10_isWord 5 = .ok (.bipush 8, 2) := by decide +kernel
theorem dX10_isWord_7 : decode cX10_isWord 7 = .ok (.if_icmp .ge 7, 3) := by decide +kernel
theorem dX10_isWord_10 : decode cX10_isWord 10 = .ok (.iconst 1, 1) := by decide +kernel
theorem dX10_isWord_11 : decode cX10_isWord 11 = .ok (.goto 4, 3) := by decide +kernel
theorem dX10_isWord_14 : decode cX10_isWord 14 = .ok (.iconst 0, 1) := by decide +kernel
theorem dX10_isWord_15 : decode cX10_isWord 15 = .ok (.ireturn, 1) := by decide +kernel
theorem dX10_isPlace_0 : decode cX10_isPlace 0 = .ok (.iload_n 0, 1) := by decide +kernel
theorem dX10_isPlace_1 : decode cX10_isPlace 1 = .ok (.ifCond .lt 12, 3) := by decide +kernel
theorem dX10_isPlace_4 : decode cX10_isPlace 4 = .ok (.iload_n 0, 1) := by decide +kernel
theorem dX10_isPlace_5 : decode cX10_isPlace 5 = .ok (.iconst 5, 1) := by decide +kernel
theorem dX10_isPlace_6 : decode cX10_isPlace 6 = .ok (.if_icmp .ge 7, 3) := by decide +kernel
theorem dX10_isPlace_9 : decode cX10_isPlace 9 = .ok (.iconst 1, 1) := by decide +kernel
theorem dX10_isPlace_10 : decode cX10_isPlace 10 = .ok (.goto 4, 3) := by decide +kernel
theorem dX10_isPlace_13 : decode cX10_isPlace 13 = .ok (.iconst 0, 1) := by decide +kernel
theorem dX10_isPlace_14 : decode cX10_isPlace 14 = .ok (.ireturn, 1) := by decide +kernel
theorem dX10_within_0 : decode cX10_within 0 = .ok (.iload_n 1, 1) := by decide +kernel
theorem dX10_within_1 : decode cX10_within 1 = .ok (.iload_n 2, 1) := by decide +kernel
theorem dX10_within_2 : decode cX10_within 2 = .ok (.iload_n 0, 1) := by decide +kernel
theorem dX10_within_3 : decode cX10_within 3 = .ok (.invokestatic 257, 3) := by decide +kernel
theorem dX10_within_6 : decode cX10_within 6 = .ok (.invokestatic 262, 3) := by decide +kernel
theorem dX10_within_9 : decode cX10_within 9 = .ok (.ireturn, 1) := by decide +kernel

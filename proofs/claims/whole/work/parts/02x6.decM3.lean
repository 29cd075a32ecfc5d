theorem dX11_third_90 : decode cX11_third 90 = .ok (.iaload, 1) := by decide +kernel
theorem dX11_third_91 : decode cX11_third 91 = .ok (.ireturn, 1) := by decide +kernel
theorem dX11_third_92 : decode cX11_third 92 = .ok (.aload_n 0, 1) := by decide +kernel
theorem dX11_third_93 : decode cX11_third 93 = .ok (.iload_n 1, 1) := by decide +kernel
theorem dX11_third_94 : decode cX11_third 94 = .ok (.invokevirtual 387, 3) := by decide +kernel
theorem dX11_third_97 : decode cX11_third 97 = .ok (.ireturn, 1) := by decide +kernel
theorem dX11_third_98 : decode cX11_third 98 = .ok (.aload_n 0, 1) := by decide +kernel
theorem dX11_third_99 : decode cX11_third 99 = .ok (.iload_n 1, 1) := by decide +kernel
theorem dX11_third_100 : decode cX11_third 100 = .ok (.invokevirtual 348, 3) := by decide +kernel
theorem dX11_third_103 : decode cX11_third 103 = .ok (.ifCond .eq 7, 3) := by decide +kernel
theorem dX11_third_106 : decode cX11_third 106 = .ok (.iconst 1, 1) := by decide +kernel
theorem dX11_third_107 : decode cX11_third 107 = .ok (.goto 4, 3) := by decide +kernel
theorem dX11_third_110 : decode cX11_third 110 = .ok (.iconst 0, 1) := by decide +kernel
theorem dX11_third_111 : decode cX11_third 111 = .ok (.ireturn, 1) := by decide +kernel
theorem dX11_third_112 : decode cX11_third 112 = .ok (.ldc_w 405, 3) := by decide +kernel
theorem dX11_third_115 : decode cX11_third 115 = .ok (.ireturn, 1) := by decide +kernel
theorem dX11_keeps_0 : decode cX11_keeps 0 = .ok (.aload_n 0, 1) := by decide +kernel
theorem dX11_keeps_1 : decode cX11_keeps 1 = .ok (.getfield 251, 3) := by decide +kernel
theorem dX11_keeps_4 : decode cX11_keeps 4 = .ok (.bipush 40, 2) := by decide +kernel
theorem dX11_keeps_6 : decode cX11_keeps 6 = .ok (.if_icmp .ne 43, 3) := by decide +kernel
theorem dX11_keeps_9 : decode cX11_keeps 9 = .ok (.iconst 0, 1) := by decide +kernel
theorem dX11_keeps_10 : decode cX11_keeps 10 = .ok (.istore_n 1, 1) := by decide +kernel
theorem dX11_keeps_11 : decode cX11_keeps 11 = .ok (.iload_n 1, 1) := by decide +kernel
theorem dX11_keeps_12 : decode cX11_keeps 12 = .ok (.sipush 1872, 3) := by decide +kernel
theorem dX11_keeps_15 : decode cX11_keeps 15 = .ok (.if_icmp .ge 24, 3) := by decide +kernel
theorem dX11_keeps_18 : decode cX11_keeps 18 = .ok (.aload_n 0, 1) := by decide +kernel
theorem dX11_keeps_19 : decode cX11_keeps 19 = .ok (.getfield 119, 3) := by decide +kernel
theorem dX11_keeps_22 : decode cX11_keeps 22 = .ok (.iload_n 1, 1) := by decide +kernel
theorem dX11_keeps_23 : decode cX11_keeps 23 = .ok (.aload_n 0, 1) := by decide +kernel
theorem dX11_keeps_24 : decode cX11_keeps 24 = .ok (.getfield 119, 3) := by decide +kernel
theorem dX11_keeps_27 : decode cX11_keeps 27 = .ok (.iload_n 1, 1) := by decide +kernel
theorem dX11_keeps_28 : decode cX11_keeps 28 = .ok (.bipush 48, 2) := by decide +kernel
theorem dX11_keeps_30 : decode cX11_keeps 30 = .ok (.iadd, 1) := by decide +kernel
theorem dX11_keeps_31 : decode cX11_keeps 31 = .ok (.iaload, 1) := by decide +kernel
theorem dX11_keeps_32 : decode cX11_keeps 32 = .ok (.iastore, 1) := by decide +kernel
theorem dX11_keeps_33 : decode cX11_keeps 33 = .ok (.iinc 1 1, 3) := by decide +kernel
theorem dX11_keeps_36 : decode cX11_keeps 36 = .ok (.goto (-25), 3) := by decide +kernel
theorem dX11_keeps_39 : decode cX11_keeps 39 = .ok (.aload_n 0, 1) := by decide +kernel
theorem dX11_keeps_40 : decode cX11_keeps 40 = .ok (.dup, 1) := by decide +kernel
theorem dX11_keeps_41 : decode cX11_keeps 41 = .ok (.getfield 251, 3) := by decide +kernel
theorem dX11_keeps_44 : decode cX11_keeps 44 = .ok (.iconst 1, 1) := by decide +kernel
theorem dX11_keeps_45 : decode cX11_keeps 45 = .ok (.isub, 1) := by decide +kernel
theorem dX11_keeps_46 : decode cX11_keeps 46 = .ok (.putfield 251, 3) := by decide +kernel
theorem dX11_keeps_49 : decode cX11_keeps 49 = .ok (.iconst 0, 1) := by decide +kernel
theorem dX11_keeps_50 : decode cX11_keeps 50 = .ok (.istore_n 1, 1) := by decide +kernel
theorem dX11_keeps_51 : decode cX11_keeps 51 = .ok (.iload_n 1, 1) := by decide +kernel
theorem dX11_keeps_52 : decode cX11_keeps 52 = .ok (.bipush 48, 2) := by decide +kernel
theorem dX11_keeps_54 : decode cX11_keeps 54 = .ok (.if_icmp .ge 29, 3) := by decide +kernel
theorem dX11_keeps_57 : decode cX11_keeps 57 = .ok (.aload_n 0, 1) := by decide +kernel
theorem dX11_keeps_58 : decode cX11_keeps 58 = .ok (.getfield 119, 3) := by decide +kernel
theorem dX11_keeps_61 : decode cX11_keeps 61 = .ok (.bipush 48, 2) := by decide +kernel
theorem dX11_keeps_63 : decode cX11_keeps 63 = .ok (.aload_n 0, 1) := by decide +kernel
theorem dX11_keeps_64 : decode cX11_keeps 64 = .ok (.getfield 251, 3) := by decide +kernel
theorem dX11_keeps_67 : decode cX11_keeps 67 = .ok (.imul, 1) := by decide +kernel
theorem dX11_keeps_68 : decode cX11_keeps 68 = .ok (.iload_n 1, 1) := by decide +kernel
theorem dX11_keeps_69 : decode cX11_keeps 69 = .ok (.iadd, 1) := by decide +kernel
theorem dX11_keeps_70 : decode cX11_keeps 70 = .ok (.aload_n 0, 1) := by decide +kernel
theorem dX11_keeps_71 : decode cX11_keeps 71 = .ok (.getfield 113, 3) := by decide +kernel
theorem dX11_keeps_74 : decode cX11_keeps 74 = .ok (.iload_n 1, 1) := by decide +kernel
theorem dX11_keeps_75 : decode cX11_keeps 75 = .ok (.iaload, 1) := by decide +kernel
theorem dX11_keeps_76 : decode cX11_keeps 76 = .ok (.iastore, 1) := by decide +kernel
theorem dX11_keeps_77 : decode cX11_keeps 77 = .ok (.iinc 1 1, 3) := by decide +kernel
theorem dX11_keeps_80 : decode cX11_keeps 80 = .ok (.goto (-29), 3) := by decide +kernel
theorem dX11_keeps_83 : decode cX11_keeps 83 = .ok (.aload_n 0, 1) := by decide +kernel
theorem dX11_keeps_84 : decode cX11_keeps 84 = .ok (.dup, 1) := by decide +kernel
theorem dX11_keeps_85 : decode cX11_keeps 85 = .ok (.getfield 251, 3) := by decide +kernel
theorem dX11_keeps_88 : decode cX11_keeps 88 = .ok (.iconst 1, 1) := by decide +kernel
theorem dX11_keeps_89 : decode cX11_keeps 89 = .ok (.iadd, 1) := by decide +kernel
theorem dX11_keeps_90 : decode cX11_keeps 90 = .ok (.putfield 251, 3) := by decide +kernel
theorem dX11_keeps_93 : decode cX11_keeps 93 = .ok (.aload_n 0, 1) := by decide +kernel
theorem dX11_keeps_94 : decode cX11_keeps 94 = .ok (.invokevirtual 163, 3) := by decide +kernel
theorem dX11_keeps_97 : decode cX11_keeps 97 = .ok (.return_, 1) := by decide +kernel
theorem dX11_hire_0 : decode cX11_hire 0 = .ok (.aload_n 0, 1) := by decide +kernel
theorem dX11_hire_1 : decode cX11_hire 1 = .ok (.iload_n 1, 1) := by decide +kernel
theorem dX11_hire_2 : decode cX11_hire 2 = .ok (.invokevirtual 399, 3) := by decide +kernel
theorem dX11_hire_5 : decode cX11_hire 5 = .ok (.ifCond .eq 29, 3) := by decide +kernel
theorem dX11_hire_8 : decode cX11_hire 8 = .ok (.iload_n 2, 1) := by decide +kernel
theorem dX11_hire_9 : decode cX11_hire 9 = .ok (.iconst (-1), 1) := by decide +kernel
theorem dX11_hire_10 : decode cX11_hire 10 = .ok (.if_icmp .eq 11, 3) := by decide +kernel
theorem dX11_hire_13 : decode cX11_hire 13 = .ok (.aload_n 0, 1) := by decide +kernel
theorem dX11_hire_14 : decode cX11_hire 14 = .ok (.iload_n 2, 1) := by decide +kernel
theorem dX11_hire_15 : decode cX11_hire 15 = .ok (.invokevirtual 402, 3) := by decide +kernel
theorem dX11_hire_18 : decode cX11_hire 18 = .ok (.ifCond .eq 16, 3) := by decide +kernel
theorem dX11_hire_21 : decode cX11_hire 21 = .ok (.aload_n 0, 1) := by decide +kernel
theorem dX11_hire_22 : decode cX11_hire 22 = .ok (.getfield 113, 3) := by decide +kernel
theorem dX11_hire_25 : decode cX11_hire 25 = .ok (.bipush 15, 2) := by decide +kernel
theorem dX11_hire_27 : decode cX11_hire 27 = .ok (.iload_n 1, 1) := by decide +kernel
theorem dX11_hire_28 : decode cX11_hire 28 = .ok (.iadd, 1) := by decide +kernel
theorem dX11_hire_29 : decode cX11_hire 29 = .ok (.iaload, 1) := by decide +kernel
theorem dX11_hire_30 : decode cX11_hire 30 = .ok (.iconst 1, 1) := by decide +kernel
theorem dX11_hire_31 : decode cX11_hire 31 = .ok (.if_icmp .ne 5, 3) := by decide +kernel
theorem dX11_hire_34 : decode cX11_hire 34 = .ok (.iconst 0, 1) := by decide +kernel
theorem dX11_hire_35 : decode cX11_hire 35 = .ok (.ireturn, 1) := by decide +kernel
theorem dX11_hire_36 : decode cX11_hire 36 = .ok (.iload_n 2, 1) := by decide +kernel
theorem dX11_hire_37 : decode cX11_hire 37 = .ok (.iconst (-1), 1) := by decide +kernel
theorem dX11_hire_38 : decode cX11_hire 38 = .ok (.if_icmp .ne 8, 3) := by decide +kernel
theorem dX11_hire_41 : decode cX11_hire 41 = .ok (.bipush (-2), 2) := by decide +kernel
theorem dX11_hire_43 : decode cX11_hire 43 = .ok (.goto 4, 3) := by decide +kernel
theorem dX11_hire_46 : decode cX11_hire 46 = .ok (.iload_n 2, 1) := by decide +kernel
theorem dX11_hire_47 : decode cX11_hire 47 = .ok (.istore_n 3, 1) := by decide +kernel
theorem dX11_hire_48 : decode cX11_hire 48 = .ok (.aload_n 0, 1) := by decide +kernel
theorem dX11_hire_49 : decode cX11_hire 49 = .ok (.getfield 113, 3) := by decide +kernel
theorem dX11_hire_52 : decode cX11_hire 52 = .ok (.bipush 12, 2) := by decide +kernel
theorem dX11_hire_54 : decode cX11_hire 54 = .ok (.iload_n 1, 1) := by decide +kernel
theorem dX11_hire_55 : decode cX11_hire 55 = .ok (.iadd, 1) := by decide +kernel
theorem dX11_hire_56 : decode cX11_hire 56 = .ok (.iaload, 1) := by decide +kernel
theorem dX11_hire_57 : decode cX11_hire 57 = .ok (.iload_n 3, 1) := by decide +kernel
theorem dX11_hire_58 : decode cX11_hire 58 = .ok (.if_icmp .ne 5, 3) := by decide +kernel
theorem dX11_hire_61 : decode cX11_hire 61 = .ok (.iconst 0, 1) := by decide +kernel
theorem dX11_hire_62 : decode cX11_hire 62 = .ok (.ireturn, 1) := by decide +kernel
theorem dX11_hire_63 : decode cX11_hire 63 = .ok (.aload_n 0, 1) := by decide +kernel
theorem dX11_hire_64 : decode cX11_hire 64 = .ok (.invokevirtual 396, 3) := by decide +kernel
theorem dX11_hire_67 : decode cX11_hire 67 = .ok (.aload_n 0, 1) := by decide +kernel
theorem dX11_hire_68 : decode cX11_hire 68 = .ok (.getfield 116, 3) := by decide +kernel
theorem dX11_hire_71 : decode cX11_hire 71 = .ok (.bipush 12, 2) := by decide +kernel
theorem dX11_hire_73 : decode cX11_hire 73 = .ok (.iload_n 1, 1) := by decide +kernel
theorem dX11_hire_74 : decode cX11_hire 74 = .ok (.iadd, 1) := by decide +kernel
theorem dX11_hire_75 : decode cX11_hire 75 = .ok (.iload_n 3, 1) := by decide +kernel
theorem dX11_hire_76 : decode cX11_hire 76 = .ok (.iastore, 1) := by decide +kernel
theorem dX11_hire_77 : decode cX11_hire 77 = .ok (.aload_n 0, 1) := by decide +kernel
theorem dX11_hire_78 : decode cX11_hire 78 = .ok (.invokevirtual 406, 3) := by decide +kernel
theorem dX11_hire_81 : decode cX11_hire 81 = .ok (.iconst 1, 1) := by decide +kernel
theorem dX11_hire_82 : decode cX11_hire 82 = .ok (.ireturn, 1) := by decide +kernel
theorem dX11_swear_0 : decode cX11_swear 0 = .ok (.aload_n 0, 1) := by decide +kernel
theorem dX11_swear_1 : decode cX11_swear 1 = .ok (.iload_n 1, 1) := by decide +kernel
theorem dX11_swear_2 : decode cX11_swear 2 = .ok (.invokevirtual 402, 3) := by decide +kernel
theorem dX11_swear_5 : decode cX11_swear 5 = .ok (.ifCond .eq 25, 3) := by decide +kernel
theorem dX11_swear_8 : decode cX11_swear 8 = .ok (.aload_n 0, 1) := by decide +kernel
theorem dX11_swear_9 : decode cX11_swear 9 = .ok (.getfield 113, 3) := by decide +kernel
theorem dX11_swear_12 : decode cX11_swear 12 = .ok (.bipush 32, 2) := by decide +kernel
theorem dX11_swear_14 : decode cX11_swear 14 = .ok (.iload_n 1, 1) := by decide +kernel
theorem dX11_swear_15 : decode cX11_swear 15 = .ok (.iadd, 1) := by decide +kernel
theorem dX11_swear_16 : decode cX11_swear 16 = .ok (.iaload, 1) := by decide +kernel
theorem dX11_swear_17 : decode cX11_swear 17 = .ok (.iconst 1, 1) := by decide +kernel
theorem dX11_swear_18 : decode cX11_swear 18 = .ok (.if_icmp .ne 7, 3) := by decide +kernel
theorem dX11_swear_21 : decode cX11_swear 21 = .ok (.iconst 1, 1) := by decide +kernel
theorem dX11_swear_22 : decode cX11_swear 22 = .ok (.goto 4, 3) := by decide +kernel
theorem dX11_swear_25 : decode cX11_swear 25 = .ok (.iconst 0, 1) := by decide +kernel
theorem dX11_swear_26 : decode cX11_swear 26 = .ok (.iload_n 2, 1) := by decide +kernel
theorem dX11_swear_27 : decode cX11_swear 27 = .ok (.if_icmp .ne 5, 3) := by decide +kernel
theorem dX11_swear_30 : decode cX11_swear 30 = .ok (.iconst 0, 1) := by decide +kernel
theorem dX11_swear_31 : decode cX11_swear 31 = .ok (.ireturn, 1) := by decide +kernel
theorem dX11_swear_32 : decode cX11_swear 32 = .ok (.aload_n 0, 1) := by decide +kernel
theorem dX11_swear_33 : decode cX11_swear 33 = .ok (.invokevirtual 396, 3) := by decide +kernel
theorem dX11_swear_36 : decode cX11_swear 36 = .ok (.aload_n 0, 1) := by decide +kernel
theorem dX11_swear_37 : decode cX11_swear 37 = .ok (.getfield 116, 3) := by decide +kernel
theorem dX11_swear_40 : decode cX11_swear 40 = .ok (.bipush 32, 2) := by decide +kernel
theorem dX11_swear_42 : decode cX11_swear 42 = .ok (.iload_n 1, 1) := by decide +kernel
theorem dX11_swear_43 : decode cX11_swear 43 = .ok (.iadd, 1) := by decide +kernel
theorem dX11_swear_44 : decode cX11_swear 44 = .ok (.iload_n 2, 1) := by decide +kernel
theorem dX11_swear_45 : decode cX11_swear 45 = .ok (.ifCond .eq 7, 3) := by decide +kernel
theorem dX11_swear_48 : decode cX11_swear 48 = .ok (.iconst 1, 1) := by decide +kernel
theorem dX11_swear_49 : decode cX11_swear 49 = .ok (.goto 4, 3) := by decide +kernel
theorem dX11_swear_52 : decode cX11_swear 52 = .ok (.iconst 0, 1) := by decide +kernel
theorem dX11_swear_53 : decode cX11_swear 53 = .ok (.iastore, 1) := by decide +kernel
theorem dX11_swear_54 : decode cX11_swear 54 = .ok (.aload_n 0, 1) := by decide +kernel
theorem dX11_swear_55 : decode cX11_swear 55 = .ok (.invokevirtual 406, 3) := by decide +kernel
theorem dX11_swear_58 : decode cX11_swear 58 = .ok (.iconst 1, 1) := by decide +kernel
theorem dX11_swear_59 : decode cX11_swear 59 = .ok (.ireturn, 1) := by decide +kernel
theorem dX11_weeks_0 : decode cX11_weeks 0 = .ok (.iload_n 1, 1) := by decide +kernel
theorem dX11_weeks_1 : decode cX11_weeks 1 = .ok (.iconst 0, 1) := by decide +kernel
theorem dX11_weeks_2 : decode cX11_weeks 2 = .ok (.bipush 60, 2) := by decide +kernel
theorem dX11_weeks_4 : decode cX11_weeks 4 = .ok (.invokestatic 316, 3) := by decide +kernel
theorem dX11_weeks_7 : decode cX11_weeks 7 = .ok (.ifCond .ne 5, 3) := by decide +kernel
theorem dX11_weeks_10 : decode cX11_weeks 10 = .ok (.iconst (-1), 1) := by decide +kernel
theorem dX11_weeks_11 : decode cX11_weeks 11 = .ok (.ireturn, 1) := by decide +kernel
theorem dX11_weeks_12 : decode cX11_weeks 12 = .ok (.iload_n 1, 1) := by decide +kernel
theorem dX11_weeks_13 : decode cX11_weeks 13 = .ok (.ifCond .ne 11, 3) := by decide +kernel
theorem dX11_weeks_16 : decode cX11_weeks 16 = .ok (.aload_n 0, 1) := by decide +kernel
theorem dX11_weeks_17 : decode cX11_weeks 17 = .ok (.getfield 113, 3) := by decide +kernel
theorem dX11_weeks_20 : decode cX11_weeks 20 = .ok (.bipush 44, 2) := by decide +kernel
theorem dX11_weeks_22 : decode cX11_weeks 22 = .ok (.iaload, 1) := by decide +kernel
theorem dX11_weeks_23 : decode cX11_weeks 23 = .ok (.ireturn, 1) := by decide +kernel
theorem dX11_weeks_24 : decode cX11_weeks 24 = .ok (.aload_n 0, 1) := by decide +kernel
theorem dX11_weeks_25 : decode cX11_weeks 25 = .ok (.invokevirtual 396, 3) := by decide +kernel
theorem dX11_weeks_28 : decode cX11_weeks 28 = .ok (.aload_n 0, 1) := by decide +kernel
theorem dX11_weeks_29 : decode cX11_weeks 29 = .ok (.iload_n 1, 1) := by decide +kernel
theorem dX11_weeks_30 : decode cX11_weeks 30 = .ok (.invokevirtual 409, 3) := by decide +kernel
theorem dX11_weeks_33 : decode cX11_weeks 33 = .ok (.aload_n 0, 1) := by decide +kernel
theorem dX11_weeks_34 : decode cX11_weeks 34 = .ok (.invokevirtual 406, 3) := by decide +kernel
theorem dX11_weeks_37 : decode cX11_weeks 37 = .ok (.aload_n 0, 1) := by decide +kernel
theorem dX11_weeks_38 : decode cX11_weeks 38 = .ok (.getfield 113, 3) := by decide +kernel
theorem dX11_weeks_41 : decode cX11_weeks 41 = .ok (.bipush 44, 2) := by decide +kernel
theorem dX11_weeks_43 : decode cX11_weeks 43 = .ok (.iaload, 1) := by decide +kernel
theorem dX11_weeks_44 : decode cX11_weeks 44 = .ok (.ireturn, 1) := by decide +kernel
theorem dX11_undo_0 : decode cX11_undo 0 = .ok (.aload_n 0, 1) := by decide +kernel
theorem dX11_undo_1 : decode cX11_undo 1 = .ok (.getfield 251, 3) := by decide +kernel
theorem dX11_undo_4 : decode cX11_undo 4 = .ok (.ifCond .ne 5, 3) := by decide +kernel
theorem dX11_undo_7 : decode cX11_undo 7 = .ok (.iconst 0, 1) := by decide +kernel
theorem dX11_undo_8 : decode cX11_undo 8 = .ok (.ireturn, 1) := by decide +kernel
theorem dX11_undo_9 : decode cX11_undo 9 = .ok (.aload_n 0, 1) := by decide +kernel
theorem dX11_undo_10 : decode cX11_undo 10 = .ok (.dup, 1) := by decide +kernel
theorem dX11_undo_11 : decode cX11_undo 11 = .ok (.getfield 251, 3) := by decide +kernel
theorem dX11_undo_14 : decode cX11_undo 14 = .ok (.iconst 1, 1) := by decide +kernel
theorem dX11_undo_15 : decode cX11_undo 15 = .ok (.isub, 1) := by decide +kernel
theorem dX11_undo_16 : decode cX11_undo 16 = .ok (.putfield 251, 3) := by decide +kernel
theorem dX11_undo_19 : decode cX11_undo 19 = .ok (.iconst 0, 1) := by decide +kernel
theorem dX11_undo_20 : decode cX11_undo 20 = .ok (.istore_n 1, 1) := by decide +kernel
theorem dX11_undo_21 : decode cX11_undo 21 = .ok (.iload_n 1, 1) := by decide +kernel
theorem dX11_undo_22 : decode cX11_undo 22 = .ok (.bipush 48, 2) := by decide +kernel
theorem dX11_undo_24 : decode cX11_undo 24 = .ok (.if_icmp .ge 29, 3) := by decide +kernel
theorem dX11_undo_27 : decode cX11_undo 27 = .ok (.aload_n 0, 1) := by decide +kernel
theorem dX11_undo_28 : decode cX11_undo 28 = .ok (.getfield 113, 3) := by decide +kernel
theorem dX11_undo_31 : decode cX11_undo 31 = .ok (.iload_n 1, 1) := by decide +kernel
theorem dX11_undo_32 : decode cX11_undo 32 = .ok (.aload_n 0, 1) := by decide +kernel
theorem dX11_undo_33 : decode cX11_undo 33 = .ok (.getfield 119, 3) := by decide +kernel
theorem dX11_undo_36 : decode cX11_undo 36 = .ok (.bipush 48, 2) := by decide +kernel
theorem dX11_undo_38 : decode cX11_undo 38 = .ok (.aload_n 0, 1) := by decide +kernel
theorem dX11_undo_39 : decode cX11_undo 39 = .ok (.getfield 251, 3) := by decide +kernel
theorem dX11_undo_42 : decode cX11_undo 42 = .ok (.imul, 1) := by decide +kernel
theorem dX11_undo_43 : decode cX11_undo 43 = .ok (.iload_n 1, 1) := by decide +kernel
theorem dX11_undo_44 : decode cX11_undo 44 = .ok (.iadd, 1) := by decide +kernel
theorem dX11_undo_45 : decode cX11_undo 45 = .ok (.iaload, 1) := by decide +kernel
theorem dX11_undo_46 : decode cX11_undo 46 = .ok (.iastore, 1) := by decide +kernel
theorem dX11_undo_47 : decode cX11_undo 47 = .ok (.iinc 1 1, 3) := by decide +kernel
theorem dX11_undo_50 : decode cX11_undo 50 = .ok (.goto (-29), 3) := by decide +kernel
theorem dX11_undo_53 : decode cX11_undo 53 = .ok (.iconst 1, 1) := by decide +kernel
theorem dX11_undo_54 : decode cX11_undo 54 = .ok (.ireturn, 1) := by decide +kernel
theorem dX11_isRow_0 : decode cX11_isRow 0 = .ok (.iload_n 0, 1) := by decide +kernel
theorem dX11_isRow_1 : decode cX11_isRow 1 = .ok (.invokestatic 351, 3) := by decide +kernel
theorem dX11_isRow_4 : decode cX11_isRow 4 = .ok (.ifCond .lt 7, 3) := by decide +kernel
theorem dX11_isRow_7 : decode cX11_isRow 7 = .ok (.iconst 1, 1) := by decide +kernel
theorem dX11_isRow_8 : decode cX11_isRow 8 = .ok (.goto 4, 3) := by decide +kernel
theorem dX11_isRow_11 : decode cX11_isRow 11 = .ok (.iconst 0, 1) := by decide +kernel
theorem dX11_isRow_12 : decode cX11_isRow 12 = .ok (.ireturn, 1) := by decide +kernel
theorem dX11_bends_0 : decode cX11_bends 0 = .ok (.aload_n 0, 1) := by decide +kernel
theorem dX11_bends_1 : decode cX11_bends 1 = .ok (.iload_n 1, 1) := by decide +kernel
theorem dX11_bends_2 : decode cX11_bends 2 = .ok (.invokevirtual 402, 3) := by decide +kernel
theorem dX11_bends_5 : decode cX11_bends 5 = .ok (.ifCond .eq 22, 3) := by decide +kernel
theorem dX11_bends_8 : decode cX11_bends 8 = .ok (.iload_n 2, 1) := by decide +kernel
theorem dX11_bends_9 : decode cX11_bends 9 = .ok (.iconst 0, 1) := by decide +kernel
theorem dX11_bends_10 : decode cX11_bends 10 = .ok (.bipush 7, 2) := by decide +kernel
theorem dX11_bends_12 : decode cX11_bends 12 = .ok (.invokestatic 316, 3) := by decide +kernel
theorem dX11_bends_15 : decode cX11_bends 15 = .ok (.ifCond .eq 12, 3) := by decide +kernel
theorem dX11_bends_18 : decode cX11_bends 18 = .ok (.iload_n 3, 1) := by decide +kernel
theorem dX11_bends_19 : decode cX11_bends 19 = .ok (.iconst 0, 1) := by decide +kernel
theorem dX11_bends_20 : decode cX11_bends 20 = .ok (.iconst 4, 1) := by decide +kernel
theorem dX11_bends_21 : decode cX11_bends 21 = .ok (.invokestatic 316, 3) := by decide +kernel
theorem dX11_bends_24 : decode cX11_bends 24 = .ok (.ifCond .ne 5, 3) := by decide +kernel
theorem dX11_bends_27 : decode cX11_bends 27 = .ok (.iconst (-1), 1) := by decide +kernel
theorem dX11_bends_28 : decode cX11_bends 28 = .ok (.ireturn, 1) := by decide +kernel
theorem dX11_bends_29 : decode cX11_bends 29 = .ok (.aload_n 0, 1) := by decide +kernel
theorem dX11_bends_30 : decode cX11_bends 30 = .ok (.invokevirtual 396, 3) := by decide +kernel
theorem dX11_bends_33 : decode cX11_bends 33 = .ok (.aload_n 0, 1) := by decide +kernel
theorem dX11_bends_34 : decode cX11_bends 34 = .ok (.iload_n 1, 1) := by decide +kernel
theorem dX11_bends_35 : decode cX11_bends 35 = .ok (.iload_n 2, 1) := by decide +kernel
theorem dX11_bends_36 : decode cX11_bends 36 = .ok (.iload_n 3, 1) := by decide +kernel
theorem dX11_bends_37 : decode cX11_bends 37 = .ok (.invokevirtual 357, 3) := by decide +kernel
theorem dX11_bends_40 : decode cX11_bends 40 = .ok (.ireturn, 1) := by decide +kernel
theorem dX11_heard_0 : decode cX11_heard 0 = .ok (.aload_n 0, 1) := by decide +kernel
theorem dX11_heard_1 : decode cX11_heard 1 = .ok (.iload_n 1, 1) := by decide +kernel
theorem dX11_heard_2 : decode cX11_heard 2 = .ok (.invokevirtual 402, 3) := by decide +kernel
theorem dX11_heard_5 : decode cX11_heard 5 = .ok (.ifCond .eq 10, 3) := by decide +kernel
theorem dX11_heard_8 : decode cX11_heard 8 = .ok (.iload_n 2, 1) := by decide +kernel
theorem dX11_heard_9 : decode cX11_heard 9 = .ok (.invokestatic 412, 3) := by decide +kernel
theorem dX11_heard_12 : decode cX11_heard 12 = .ok (.ifCond .ne 5, 3) := by decide +kernel
theorem dX11_heard_15 : decode cX11_heard 15 = .ok (.iconst (-1), 1) := by decide +kernel
theorem dX11_heard_16 : decode cX11_heard 16 = .ok (.ireturn, 1) := by decide +kernel
theorem dX11_heard_17 : decode cX11_heard 17 = .ok (.aload_n 0, 1) := by decide +kernel
theorem dX11_heard_18 : decode cX11_heard 18 = .ok (.invokevirtual 396, 3) := by decide +kernel
theorem dX11_heard_21 : decode cX11_heard 21 = .ok (.aload_n 0, 1) := by decide +kernel
theorem dX11_heard_22 : decode cX11_heard 22 = .ok (.iload_n 1, 1) := by decide +kernel
theorem dX11_heard_23 : decode cX11_heard 23 = .ok (.iload_n 2, 1) := by decide +kernel
theorem dX11_heard_24 : decode cX11_heard 24 = .ok (.iconst (-1), 1) := by decide +kernel
theorem dX11_heard_25 : decode cX11_heard 25 = .ok (.invokevirtual 375, 3) := by decide +kernel
theorem dX11_heard_28 : decode cX11_heard 28 = .ok (.ireturn, 1) := by decide +kernel
theorem dX11_chain_0 : decode cX11_chain 0 = .ok (.aload_n 0, 1) := by decide +kernel
theorem dX11_chain_1 : decode cX11_chain 1 = .ok (.iload_n 1, 1) := by decide +kernel
theorem dX11_chain_2 : decode cX11_chain 2 = .ok (.invokevirtual 402, 3) := by decide +kernel
theorem dX11_chain_5 : decode cX11_chain 5 = .ok (.ifCond .eq 18, 3) := by decide +kernel
theorem dX11_chain_8 : decode cX11_chain 8 = .ok (.aload_n 0, 1) := by decide +kernel
theorem dX11_chain_9 : decode cX11_chain 9 = .ok (.iload_n 2, 1) := by decide +kernel
theorem dX11_chain_10 : decode cX11_chain 10 = .ok (.invokevirtual 402, 3) := by decide +kernel
theorem dX11_chain_13 : decode cX11_chain 13 = .ok (.ifCond .eq 10, 3) := by decide +kernel
theorem dX11_chain_16 : decode cX11_chain 16 = .ok (.iload_n 3, 1) := by decide +kernel
theorem dX11_chain_17 : decode cX11_chain 17 = .ok (.invokestatic 412, 3) := by decide +kernel
theorem dX11_chain_20 : decode cX11_chain 20 = .ok (.ifCond .ne 5, 3) := by decide +kernel
theorem dX11_chain_23 : decode cX11_chain 23 = .ok (.iconst (-1), 1) := by decide +kernel
theorem dX11_chain_24 : decode cX11_chain 24 = .ok (.ireturn, 1) := by decide +kernel
theorem dX11_chain_25 : decode cX11_chain 25 = .ok (.aload_n 0, 1) := by decide +kernel
theorem dX11_chain_26 : decode cX11_chain 26 = .ok (.invokevirtual 396, 3) := by decide +kernel
theorem dX11_chain_29 : decode cX11_chain 29 = .ok (.aload_n 0, 1) := by decide +kernel
theorem dX11_chain_30 : decode cX11_chain 30 = .ok (.iload_n 2, 1) := by decide +kernel
theorem dX11_chain_31 : decode cX11_chain 31 = .ok (.aload_n 0, 1) := by decide +kernel
theorem dX11_chain_32 : decode cX11_chain 32 = .ok (.iload_n 1, 1) := by decide +kernel
theorem dX11_chain_33 : decode cX11_chain 33 = .ok (.iload_n 3, 1) := by decide +kernel
theorem dX11_chain_34 : decode cX11_chain 34 = .ok (.iconst (-1), 1) := by decide +kernel
theorem dX11_chain_35 : decode cX11_chain 35 = .ok (.invokevirtual 375, 3) := by decide +kernel
theorem dX11_chain_38 : decode cX11_chain 38 = .ok (.iconst (-1), 1) := by decide +kernel
theorem dX11_chain_39 : decode cX11_chain 39 = .ok (.invokevirtual 375, 3) := by decide +kernel
theorem dX11_chain_42 : decode cX11_chain 42 = .ok (.ireturn, 1) := by decide +kernel
theorem dX11_fillsPut_0 : decode cX11_fillsPut 0 = .ok (.iconst 0, 1) := by decide +kernel
theorem dX11_fillsPut_1 : decode cX11_fillsPut 1 = .ok (.istore_n 2, 1) := by decide +kernel
theorem dX11_fillsPut_2 : decode cX11_fillsPut 2 = .ok (.iload_n 2, 1) := by decide +kernel
theorem dX11_fillsPut_3 : decode cX11_fillsPut 3 = .ok (.bipush 32, 2) := by decide +kernel
theorem dX11_fillsPut_5 : decode cX11_fillsPut 5 = .ok (.if_icmp .ge 28, 3) := by decide +kernel
theorem dX11_fillsPut_8 : decode cX11_fillsPut 8 = .ok (.aload_n 0, 1) := by decide +kernel
theorem dX11_fillsPut_9 : decode cX11_fillsPut 9 = .ok (.getfield 122, 3) := by decide +kernel
theorem dX11_fillsPut_12 : decode cX11_fillsPut 12 = .ok (.iload_n 2, 1) := by decide +kernel
theorem dX11_fillsPut_13 : decode cX11_fillsPut 13 = .ok (.aload_n 0, 1) := by decide +kernel
theorem dX11_fillsPut_14 : decode cX11_fillsPut 14 = .ok (.iload_n 1, 1) := by decide +kernel
theorem dX11_fillsPut_15 : decode cX11_fillsPut 15 = .ok (.iload_n 2, 1) := by decide +kernel
theorem dX11_fillsPut_16 : decode cX11_fillsPut 16 = .ok (.bipush 8, 2) := by decide +kernel
theorem dX11_fillsPut_18 : decode cX11_fillsPut 18 = .ok (.irem, 1) := by decide +kernel
theorem dX11_fillsPut_19 : decode cX11_fillsPut 19 = .ok (.iload_n 2, 1) := by decide +kernel
theorem dX11_fillsPut_20 : decode cX11_fillsPut 20 = .ok (.bipush 8, 2) := by decide +kernel
theorem dX11_fillsPut_22 : decode cX11_fillsPut 22 = .ok (.idiv, 1) := by decide +kernel
theorem dX11_fillsPut_23 : decode cX11_fillsPut 23 = .ok (.invokevirtual 357, 3) := by decide +kernel
theorem dX11_fillsPut_26 : decode cX11_fillsPut 26 = .ok (.iastore, 1) := by decide +kernel
theorem dX11_fillsPut_27 : decode cX11_fillsPut 27 = .ok (.iinc 2 1, 3) := by decide +kernel
theorem dX11_fillsPut_30 : decode cX11_fillsPut 30 = .ok (.goto (-28), 3) := by decide +kernel
theorem dX11_fillsPut_33 : decode cX11_fillsPut 33 = .ok (.return_, 1) := by decide +kernel
theorem dX11_putWith_0 : decode cX11_putWith 0 = .ok (.iconst 1, 1) := by decide +kernel
theorem dX11_putWith_1 : decode cX11_putWith 1 = .ok (.istore_n 3, 1) := by decide +kernel
theorem dX11_putWith_2 : decode cX11_putWith 2 = .ok (.iconst 0, 1) := by decide +kernel
theorem dX11_putWith_3 : decode cX11_putWith 3 = .ok (.istore 4, 2) := by decide +kernel
theorem dX11_putWith_5 : decode cX11_putWith 5 = .ok (.iload 4, 2) := by decide +kernel
theorem dX11_putWith_7 : decode cX11_putWith 7 = .ok (.iload_n 2, 1) := by decide +kernel
theorem dX11_putWith_8 : decode cX11_putWith 8 = .ok (.if_icmp .ge 44, 3) := by decide +kernel
theorem dX11_putWith_11 : decode cX11_putWith 11 = .ok (.aload_n 0, 1) := by decide +kernel
theorem dX11_putWith_12 : decode cX11_putWith 12 = .ok (.getfield 122, 3) := by decide +kernel
theorem dX11_putWith_15 : decode cX11_putWith 15 = .ok (.bipush 8, 2) := by decide +kernel
theorem dX11_putWith_17 : decode cX11_putWith 17 = .ok (.iload 4, 2) := by decide +kernel
theorem dX11_putWith_19 : decode cX11_putWith 19 = .ok (.imul, 1) := by decide +kernel
theorem dX11_putWith_20 : decode cX11_putWith 20 = .ok (.iload_n 1, 1) := by decide +kernel
theorem dX11_putWith_21 : decode cX11_putWith 21 = .ok (.iload_n 2, 1) := by decide +kernel
theorem dX11_putWith_22 : decode cX11_putWith 22 = .ok (.iload 4, 2) := by decide +kernel
theorem dX11_putWith_24 : decode cX11_putWith 24 = .ok (.invokestatic 354, 3) := by decide +kernel
theorem dX11_putWith_27 : decode cX11_putWith 27 = .ok (.iadd, 1) := by decide +kernel
theorem dX11_putWith_28 : decode cX11_putWith 28 = .ok (.iaload, 1) := by decide +kernel
theorem dX11_putWith_29 : decode cX11_putWith 29 = .ok (.istore 5, 2) := by decide +kernel
theorem dX11_putWith_31 : decode cX11_putWith 31 = .ok (.iload 5, 2) := by decide +kernel
theorem dX11_putWith_33 : decode cX11_putWith 33 = .ok (.bipush 8, 2) := by decide +kernel
theorem dX11_putWith_35 : decode cX11_putWith 35 = .ok (.if_icmp .ge 11, 3) := by decide +kernel
theorem dX11_putWith_38 : decode cX11_putWith 38 = .ok (.bipush 8, 2) := by decide +kernel
theorem dX11_putWith_40 : decode cX11_putWith 40 = .ok (.iload_n 3, 1) := by decide +kernel
theorem dX11_putWith_41 : decode cX11_putWith 41 = .ok (.imul, 1) := by decide +kernel
theorem dX11_putWith_42 : decode cX11_putWith 42 = .ok (.iload 5, 2) := by decide +kernel
theorem dX11_putWith_44 : decode cX11_putWith 44 = .ok (.iadd, 1) := by decide +kernel
theorem dX11_putWith_45 : decode cX11_putWith 45 = .ok (.istore_n 3, 1) := by decide +kernel
theorem dX11_putWith_46 : decode cX11_putWith 46 = .ok (.iinc 4 1, 3) := by decide +kernel
theorem dX11_putWith_49 : decode cX11_putWith 49 = .ok (.goto (-44), 3) := by decide +kernel
theorem dX11_putWith_52 : decode cX11_putWith 52 = .ok (.iload_n 3, 1) := by decide +kernel
theorem dX11_putWith_53 : decode cX11_putWith 53 = .ok (.ireturn, 1) := by decide +kernel
theorem dX11_say_0 : decode cX11_say 0 = .ok (.aload_n 0, 1) := by decide +kernel
theorem dX11_say_1 : decode cX11_say 1 = .ok (.iload_n 1, 1) := by decide +kernel
theorem dX11_say_2 : decode cX11_say 2 = .ok (.invokevirtual 402, 3) := by decide +kernel
theorem dX11_say_5 : decode cX11_say 5 = .ok (.ifCond .eq 10, 3) := by decide +kernel
theorem dX11_say_8 : decode cX11_say 8 = .ok (.iload_n 2, 1) := by decide +kernel
theorem dX11_say_9 : decode cX11_say 9 = .ok (.invokestatic 412, 3) := by decide +kernel
theorem dX11_say_12 : decode cX11_say 12 = .ok (.ifCond .ne 5, 3) := by decide +kernel
theorem dX11_say_15 : decode cX11_say 15 = .ok (.iconst (-1), 1) := by decide +kernel
theorem dX11_say_16 : decode cX11_say 16 = .ok (.ireturn, 1) := by decide +kernel
theorem dX11_say_17 : decode cX11_say 17 = .ok (.aload_n 0, 1) := by decide +kernel
theorem dX11_say_18 : decode cX11_say 18 = .ok (.invokevirtual 396, 3) := by decide +kernel
theorem dX11_say_21 : decode cX11_say 21 = .ok (.aload_n 0, 1) := by decide +kernel
theorem dX11_say_22 : decode cX11_say 22 = .ok (.iload_n 1, 1) := by decide +kernel
theorem dX11_say_23 : decode cX11_say 23 = .ok (.invokevirtual 415, 3) := by decide +kernel
theorem dX11_say_26 : decode cX11_say 26 = .ok (.iconst 0, 1) := by decide +kernel
theorem dX11_say_27 : decode cX11_say 27 = .ok (.istore_n 3, 1) := by decide +kernel
theorem dX11_say_28 : decode cX11_say 28 = .ok (.iload_n 3, 1) := by decide +kernel
theorem dX11_say_29 : decode cX11_say 29 = .ok (.iconst 4, 1) := by decide +kernel
theorem dX11_say_30 : decode cX11_say 30 = .ok (.if_icmp .gt 46, 3) := by decide +kernel
theorem dX11_say_33 : decode cX11_say 33 = .ok (.iload_n 3, 1) := by decide +kernel
theorem dX11_say_34 : decode cX11_say 34 = .ok (.invokestatic 330, 3) := by decide +kernel
theorem dX11_say_37 : decode cX11_say 37 = .ok (.istore 4, 2) := by decide +kernel
theorem dX11_say_39 : decode cX11_say 39 = .ok (.iload 4, 2) := by decide +kernel
theorem dX11_say_41 : decode cX11_say 41 = .ok (.iconst 2, 1) := by decide +kernel
theorem dX11_say_42 : decode cX11_say 42 = .ok (.iload_n 3, 1) := by decide +kernel
theorem dX11_say_43 : decode cX11_say 43 = .ok (.invokestatic 330, 3) := by decide +kernel
theorem dX11_say_46 : decode cX11_say 46 = .ok (.imul, 1) := by decide +kernel
theorem dX11_say_47 : decode cX11_say 47 = .ok (.if_icmp .ge 23, 3) := by decide +kernel
theorem dX11_say_50 : decode cX11_say 50 = .ok (.aload_n 0, 1) := by decide +kernel
theorem dX11_say_51 : decode cX11_say 51 = .ok (.iload 4, 2) := by decide +kernel
theorem dX11_say_53 : decode cX11_say 53 = .ok (.iload_n 3, 1) := by decide +kernel
theorem dX11_say_54 : decode cX11_say 54 = .ok (.invokevirtual 418, 3) := by decide +kernel
theorem dX11_say_57 : decode cX11_say 57 = .ok (.iload_n 2, 1) := by decide +kernel
theorem dX11_say_58 : decode cX11_say 58 = .ok (.if_icmp .ne 6, 3) := by decide +kernel
theorem dX11_say_61 : decode cX11_say 61 = .ok (.iload 4, 2) := by decide +kernel
theorem dX11_say_63 : decode cX11_say 63 = .ok (.ireturn, 1) := by decide +kernel
theorem dX11_say_64 : decode cX11_say 64 = .ok (.iinc 4 1, 3) := by decide +kernel
theorem dX11_say_67 : decode cX11_say 67 = .ok (.goto (-28), 3) := by decide +kernel
theorem dX11_say_70 : decode cX11_say 70 = .ok (.iinc 3 1, 3) := by decide +kernel
theorem dX11_say_73 : decode cX11_say 73 = .ok (.goto (-45), 3) := by decide +kernel
theorem dX11_say_76 : decode cX11_say 76 = .ok (.bipush (-2), 2) := by decide +kernel
theorem dX11_say_78 : decode cX11_say 78 = .ok (.ireturn, 1) := by decide +kernel
theorem dX11_alteredOf_0 : decode cX11_alteredOf 0 = .ok (.iload_n 1, 1) := by decide +kernel
theorem dX11_alteredOf_1 : decode cX11_alteredOf 1 = .ok (.invokestatic 351, 3) := by decide +kernel
theorem dX11_alteredOf_4 : decode cX11_alteredOf 4 = .ok (.istore_n 3, 1) := by decide +kernel
theorem dX11_alteredOf_5 : decode cX11_alteredOf 5 = .ok (.iload_n 2, 1) := by decide +kernel
theorem dX11_alteredOf_6 : decode cX11_alteredOf 6 = .ok (.invokestatic 351, 3) := by decide +kernel
theorem dX11_alteredOf_9 : decode cX11_alteredOf 9 = .ok (.istore 4, 2) := by decide +kernel
theorem dX11_alteredOf_11 : decode cX11_alteredOf 11 = .ok (.iconst 0, 1) := by decide +kernel
theorem dX11_alteredOf_12 : decode cX11_alteredOf 12 = .ok (.istore 5, 2) := by decide +kernel
theorem dX11_alteredOf_14 : decode cX11_alteredOf 14 = .ok (.iload 5, 2) := by decide +kernel
theorem dX11_alteredOf_16 : decode cX11_alteredOf 16 = .ok (.iload_n 3, 1) := by decide +kernel
theorem dX11_alteredOf_17 : decode cX11_alteredOf 17 = .ok (.if_icmp .gt 193, 3) := by decide +kernel
theorem dX11_alteredOf_20 : decode cX11_alteredOf 20 = .ok (.iconst 0, 1) := by decide +kernel
theorem dX11_alteredOf_21 : decode cX11_alteredOf 21 = .ok (.istore 6, 2) := by decide +kernel
theorem dX11_alteredOf_23 : decode cX11_alteredOf 23 = .ok (.iload 6, 2) := by decide +kernel
theorem dX11_alteredOf_25 : decode cX11_alteredOf 25 = .ok (.iload 4, 2) := by decide +kernel
theorem dX11_alteredOf_27 : decode cX11_alteredOf 27 = .ok (.if_icmp .gt 177, 3) := by decide +kernel
theorem dX11_alteredOf_30 : decode cX11_alteredOf 30 = .ok (.iload 5, 2) := by decide +kernel
theorem dX11_alteredOf_32 : decode cX11_alteredOf 32 = .ok (.ifCond .ne 8, 3) := by decide +kernel
theorem dX11_alteredOf_35 : decode cX11_alteredOf 35 = .ok (.iload 6, 2) := by decide +kernel
theorem dX11_alteredOf_37 : decode cX11_alteredOf 37 = .ok (.goto 5, 3) := by decide +kernel
theorem dX11_alteredOf_40 : decode cX11_alteredOf 40 = .ok (.iload 5, 2) := by decide +kernel
theorem dX11_alteredOf_42 : decode cX11_alteredOf 42 = .ok (.istore 7, 2) := by decide +kernel
theorem dX11_alteredOf_44 : decode cX11_alteredOf 44 = .ok (.iload 5, 2) := by decide +kernel
theorem dX11_alteredOf_46 : decode cX11_alteredOf 46 = .ok (.ifCond .le 137, 3) := by decide +kernel
theorem dX11_alteredOf_49 : decode cX11_alteredOf 49 = .ok (.iload 6, 2) := by decide +kernel
theorem dX11_alteredOf_51 : decode cX11_alteredOf 51 = .ok (.ifCond .le 132, 3) := by decide +kernel
theorem dX11_alteredOf_54 : decode cX11_alteredOf 54 = .ok (.aload_n 0, 1) := by decide +kernel
theorem dX11_alteredOf_55 : decode cX11_alteredOf 55 = .ok (.getfield 125, 3) := by decide +kernel
theorem dX11_alteredOf_58 : decode cX11_alteredOf 58 = .ok (.bipush 6, 2) := by decide +kernel
theorem dX11_alteredOf_60 : decode cX11_alteredOf 60 = .ok (.iload 5, 2) := by decide +kernel
theorem dX11_alteredOf_62 : decode cX11_alteredOf 62 = .ok (.iconst 1, 1) := by decide +kernel
theorem dX11_alteredOf_63 : decode cX11_alteredOf 63 = .ok (.isub, 1) := by decide +kernel
theorem dX11_alteredOf_64 : decode cX11_alteredOf 64 = .ok (.imul, 1) := by decide +kernel
theorem dX11_alteredOf_65 : decode cX11_alteredOf 65 = .ok (.iload 6, 2) := by decide +kernel
theorem dX11_alteredOf_67 : decode cX11_alteredOf 67 = .ok (.iadd, 1) := by decide +kernel
theorem dX11_alteredOf_68 : decode cX11_alteredOf 68 = .ok (.iconst 1, 1) := by decide +kernel
theorem dX11_alteredOf_69 : decode cX11_alteredOf 69 = .ok (.isub, 1) := by decide +kernel
theorem dX11_alteredOf_70 : decode cX11_alteredOf 70 = .ok (.iaload, 1) := by decide +kernel
theorem dX11_alteredOf_71 : decode cX11_alteredOf 71 = .ok (.iload_n 1, 1) := by decide +kernel
theorem dX11_alteredOf_72 : decode cX11_alteredOf 72 = .ok (.iload_n 3, 1) := by decide +kernel
theorem dX11_alteredOf_73 : decode cX11_alteredOf 73 = .ok (.iload 5, 2) := by decide +kernel
theorem dX11_alteredOf_75 : decode cX11_alteredOf 75 = .ok (.iconst 1, 1) := by decide +kernel
theorem dX11_alteredOf_76 : decode cX11_alteredOf 76 = .ok (.isub, 1) := by decide +kernel
theorem dX11_alteredOf_77 : decode cX11_alteredOf 77 = .ok (.invokestatic 354, 3) := by decide +kernel
theorem dX11_alteredOf_80 : decode cX11_alteredOf 80 = .ok (.iload_n 2, 1) := by decide +kernel
theorem dX11_alteredOf_81 : decode cX11_alteredOf 81 = .ok (.iload 4, 2) := by decide +kernel
theorem dX11_alteredOf_83 : decode cX11_alteredOf 83 = .ok (.iload 6, 2) := by decide +kernel
theorem dX11_alteredOf_85 : decode cX11_alteredOf 85 = .ok (.iconst 1, 1) := by decide +kernel
theorem dX11_alteredOf_86 : decode cX11_alteredOf 86 = .ok (.isub, 1) := by decide +kernel
theorem dX11_alteredOf_87 : decode cX11_alteredOf 87 = .ok (.invokestatic 354, 3) := by decide +kernel
theorem dX11_alteredOf_90 : decode cX11_alteredOf 90 = .ok (.if_icmp .ne 7, 3) := by decide +kernel
theorem dX11_alteredOf_93 : decode cX11_alteredOf 93 = .ok (.iconst 0, 1) := by decide +kernel
theorem dX11_alteredOf_94 : decode cX11_alteredOf 94 = .ok (.goto 4, 3) := by decide +kernel
theorem dX11_alteredOf_97 : decode cX11_alteredOf 97 = .ok (.iconst 1, 1) := by decide +kernel
theorem dX11_alteredOf_98 : decode cX11_alteredOf 98 = .ok (.iadd, 1) := by decide +kernel
theorem dX11_alteredOf_99 : decode cX11_alteredOf 99 = .ok (.istore 7, 2) := by decide +kernel
theorem dX11_alteredOf_101 : decode cX11_alteredOf 101 = .ok (.aload_n 0, 1) := by decide +kernel
theorem dX11_alteredOf_102 : decode cX11_alteredOf 102 = .ok (.getfield 125, 3) := by decide +kernel
theorem dX11_alteredOf_105 : decode cX11_alteredOf 105 = .ok (.bipush 6, 2) := by decide +kernel
theorem dX11_alteredOf_107 : decode cX11_alteredOf 107 = .ok (.iload 5, 2) := by decide +kernel
theorem dX11_alteredOf_109 : decode cX11_alteredOf 109 = .ok (.iconst 1, 1) := by decide +kernel
theorem dX11_alteredOf_110 : decode cX11_alteredOf 110 = .ok (.isub, 1) := by decide +kernel
theorem dX11_alteredOf_111 : decode cX11_alteredOf 111 = .ok (.imul, 1) := by decide +kernel
theorem dX11_alteredOf_112 : decode cX11_alteredOf 112 = .ok (.iload 6, 2) := by decide +kernel
theorem dX11_alteredOf_114 : decode cX11_alteredOf 114 = .ok (.iadd, 1) := by decide +kernel
theorem dX11_alteredOf_115 : decode cX11_alteredOf 115 = .ok (.iaload, 1) := by decide +kernel
theorem dX11_alteredOf_116 : decode cX11_alteredOf 116 = .ok (.iconst 1, 1) := by decide +kernel
theorem dX11_alteredOf_117 : decode cX11_alteredOf 117 = .ok (.iadd, 1) := by decide +kernel
theorem dX11_alteredOf_118 : decode cX11_alteredOf 118 = .ok (.iload 7, 2) := by decide +kernel
theorem dX11_alteredOf_120 : decode cX11_alteredOf 120 = .ok (.if_icmp .ge 22, 3) := by decide +kernel
theorem dX11_alteredOf_123 : decode cX11_alteredOf 123 = .ok (.aload_n 0, 1) := by decide +kernel
theorem dX11_alteredOf_124 : decode cX11_alteredOf 124 = .ok (.getfield 125, 3) := by decide +kernel
theorem dX11_alteredOf_127 : decode cX11_alteredOf 127 = .ok (.bipush 6, 2) := by decide +kernel
theorem dX11_alteredOf_129 : decode cX11_alteredOf 129 = .ok (.iload 5, 2) := by decide +kernel
theorem dX11_alteredOf_131 : decode cX11_alteredOf 131 = .ok (.iconst 1, 1) := by decide +kernel
theorem dX11_alteredOf_132 : decode cX11_alteredOf 132 = .ok (.isub, 1) := by decide +kernel
theorem dX11_alteredOf_133 : decode cX11_alteredOf 133 = .ok (.imul, 1) := by decide +kernel
theorem dX11_alteredOf_134 : decode cX11_alteredOf 134 = .ok (.iload 6, 2) := by decide +kernel
theorem dX11_alteredOf_136 : decode cX11_alteredOf 136 = .ok (.iadd, 1) := by decide +kernel
theorem dX11_alteredOf_137 : decode cX11_alteredOf 137 = .ok (.iaload, 1) := by decide +kernel
theorem dX11_alteredOf_138 : decode cX11_alteredOf 138 = .ok (.iconst 1, 1) := by decide +kernel
theorem dX11_alteredOf_139 : decode cX11_alteredOf 139 = .ok (.iadd, 1) := by decide +kernel
theorem dX11_alteredOf_140 : decode cX11_alteredOf 140 = .ok (.istore 7, 2) := by decide +kernel
theorem dX11_alteredOf_142 : decode cX11_alteredOf 142 = .ok (.aload_n 0, 1) := by decide +kernel
theorem dX11_alteredOf_143 : decode cX11_alteredOf 143 = .ok (.getfield 125, 3) := by decide +kernel
theorem dX11_alteredOf_146 : decode cX11_alteredOf 146 = .ok (.bipush 6, 2) := by decide +kernel
theorem dX11_alteredOf_148 : decode cX11_alteredOf 148 = .ok (.iload 5, 2) := by decide +kernel
theorem dX11_alteredOf_150 : decode cX11_alteredOf 150 = .ok (.imul, 1) := by decide +kernel
theorem dX11_alteredOf_151 : decode cX11_alteredOf 151 = .ok (.iload 6, 2) := by decide +kernel
theorem dX11_alteredOf_153 : decode cX11_alteredOf 153 = .ok (.iadd, 1) := by decide +kernel
theorem dX11_alteredOf_154 : decode cX11_alteredOf 154 = .ok (.iconst 1, 1) := by decide +kernel
theorem dX11_alteredOf_155 : decode cX11_alteredOf 155 = .ok (.isub, 1) := by decide +kernel
theorem dX11_alteredOf_156 : decode cX11_alteredOf 156 = .ok (.iaload, 1) := by decide +kernel
theorem dX11_alteredOf_157 : decode cX11_alteredOf 157 = .ok (.iconst 1, 1) := by decide +kernel
theorem dX11_alteredOf_158 : decode cX11_alteredOf 158 = .ok (.iadd, 1) := by decide +kernel
theorem dX11_alteredOf_159 : decode cX11_alteredOf 159 = .ok (.iload 7, 2) := by decide +kernel
theorem dX11_alteredOf_161 : decode cX11_alteredOf 161 = .ok (.if_icmp .ge 22, 3) := by decide +kernel
theorem dX11_alteredOf_164 : decode cX11_alteredOf 164 = .ok (.aload_n 0, 1) := by decide +kernel
theorem dX11_alteredOf_165 : decode cX11_alteredOf 165 = .ok (.getfield 125, 3) := by decide +kernel
theorem dX11_alteredOf_168 : decode cX11_alteredOf 168 = .ok (.bipush 6, 2) := by decide +kernel
theorem dX11_alteredOf_170 : decode cX11_alteredOf 170 = .ok (.iload 5, 2) := by decide +kernel
theorem dX11_alteredOf_172 : decode cX11_alteredOf 172 = .ok (.imul, 1) := by decide +kernel
theorem dX11_alteredOf_173 : decode cX11_alteredOf 173 = .ok (.iload 6, 2) := by decide +kernel
theorem dX11_alteredOf_175 : decode cX11_alteredOf 175 = .ok (.iadd, 1) := by decide +kernel
theorem dX11_alteredOf_176 : decode cX11_alteredOf 176 = .ok (.iconst 1, 1) := by decide +kernel
theorem dX11_alteredOf_177 : decode cX11_alteredOf 177 = .ok (.isub, 1) := by decide +kernel
theorem dX11_alteredOf_178 : decode cX11_alteredOf 178 = .ok (.iaload, 1) := by decide +kernel
theorem dX11_alteredOf_179 : decode cX11_alteredOf 179 = .ok (.iconst 1, 1) := by decide +kernel
theorem dX11_alteredOf_180 : decode cX11_alteredOf 180 = .ok (.iadd, 1) := by decide +kernel
theorem dX11_alteredOf_181 : decode cX11_alteredOf 181 = .ok (.istore 7, 2) := by decide +kernel
theorem dX11_alteredOf_183 : decode cX11_alteredOf 183 = .ok (.aload_n 0, 1) := by decide +kernel
theorem dX11_alteredOf_184 : decode cX11_alteredOf 184 = .ok (.getfield 125, 3) := by decide +kernel
theorem dX11_alteredOf_187 : decode cX11_alteredOf 187 = .ok (.bipush 6, 2) := by decide +kernel
theorem dX11_alteredOf_189 : decode cX11_alteredOf 189 = .ok (.iload 5, 2) := by decide +kernel
theorem dX11_alteredOf_191 : decode cX11_alteredOf 191 = .ok (.imul, 1) := by decide +kernel
theorem dX11_alteredOf_192 : decode cX11_alteredOf 192 = .ok (.iload 6, 2) := by decide +kernel
theorem dX11_alteredOf_194 : decode cX11_alteredOf 194 = .ok (.iadd, 1) := by decide +kernel
theorem dX11_alteredOf_195 : decode cX11_alteredOf 195 = .ok (.iload 7, 2) := by decide +kernel
theorem dX11_alteredOf_197 : decode cX11_alteredOf 197 = .ok (.iastore, 1) := by decide +kernel
theorem dX11_alteredOf_198 : decode cX11_alteredOf 198 = .ok (.iinc 6 1, 3) := by decide +kernel
theorem dX11_alteredOf_201 : decode cX11_alteredOf 201 = .ok (.goto (-178), 3) := by decide +kernel
theorem dX11_alteredOf_204 : decode cX11_alteredOf 204 = .ok (.iinc 5 1, 3) := by decide +kernel
theorem dX11_alteredOf_207 : decode cX11_alteredOf 207 = .ok (.goto (-193), 3) := by decide +kernel
theorem dX11_alteredOf_210 : decode cX11_alteredOf 210 = .ok (.aload_n 0, 1) := by decide +kernel
theorem dX11_alteredOf_211 : decode cX11_alteredOf 211 = .ok (.getfield 125, 3) := by decide +kernel
theorem dX11_alteredOf_214 : decode cX11_alteredOf 214 = .ok (.bipush 6, 2) := by decide +kernel
theorem dX11_alteredOf_216 : decode cX11_alteredOf 216 = .ok (.iload_n 3, 1) := by decide +kernel
theorem dX11_alteredOf_217 : decode cX11_alteredOf 217 = .ok (.imul, 1) := by decide +kernel
theorem dX11_alteredOf_218 : decode cX11_alteredOf 218 = .ok (.iload 4, 2) := by decide +kernel
theorem dX11_alteredOf_220 : decode cX11_alteredOf 220 = .ok (.iadd, 1) := by decide +kernel
theorem dX11_alteredOf_221 : decode cX11_alteredOf 221 = .ok (.iaload, 1) := by decide +kernel
theorem dX11_alteredOf_222 : decode cX11_alteredOf 222 = .ok (.ireturn, 1) := by decide +kernel
theorem dX11_losesBy_0 : decode cX11_losesBy 0 = .ok (.aload_n 0, 1) := by decide +kernel
theorem dX11_losesBy_1 : decode cX11_losesBy 1 = .ok (.iload_n 3, 1) := by decide +kernel
theorem dX11_losesBy_2 : decode cX11_losesBy 2 = .ok (.aload_n 0, 1) := by decide +kernel
theorem dX11_losesBy_3 : decode cX11_losesBy 3 = .ok (.iload_n 2, 1) := by decide +kernel
theorem dX11_losesBy_4 : decode cX11_losesBy 4 = .ok (.aload_n 0, 1) := by decide +kernel
theorem dX11_losesBy_5 : decode cX11_losesBy 5 = .ok (.iload_n 1, 1) := by decide +kernel
theorem dX11_losesBy_6 : decode cX11_losesBy 6 = .ok (.iload_n 3, 1) := by decide +kernel
theorem dX11_losesBy_7 : decode cX11_losesBy 7 = .ok (.iconst (-1), 1) := by decide +kernel
theorem dX11_losesBy_8 : decode cX11_losesBy 8 = .ok (.invokevirtual 375, 3) := by decide +kernel
theorem dX11_losesBy_11 : decode cX11_losesBy 11 = .ok (.iconst (-1), 1) := by decide +kernel
theorem dX11_losesBy_12 : decode cX11_losesBy 12 = .ok (.invokevirtual 375, 3) := by decide +kernel
theorem dX11_losesBy_15 : decode cX11_losesBy 15 = .ok (.invokevirtual 421, 3) := by decide +kernel
theorem dX11_losesBy_18 : decode cX11_losesBy 18 = .ok (.ireturn, 1) := by decide +kernel
theorem dX11_loses_0 : decode cX11_loses 0 = .ok (.aload_n 0, 1) := by decide +kernel
theorem dX11_loses_1 : decode cX11_loses 1 = .ok (.iload_n 1, 1) := by decide +kernel
theorem dX11_loses_2 : decode cX11_loses 2 = .ok (.invokevirtual 402, 3) := by decide +kernel
theorem dX11_loses_5 : decode cX11_loses 5 = .ok (.ifCond .eq 18, 3) := by decide +kernel
theorem dX11_loses_8 : decode cX11_loses 8 = .ok (.aload_n 0, 1) := by decide +kernel
theorem dX11_loses_9 : decode cX11_loses 9 = .ok (.iload_n 2, 1) := by decide +kernel
theorem dX11_loses_10 : decode cX11_loses 10 = .ok (.invokevirtual 402, 3) := by decide +kernel
theorem dX11_loses_13 : decode cX11_loses 13 = .ok (.ifCond .eq 10, 3) := by decide +kernel
theorem dX11_loses_16 : decode cX11_loses 16 = .ok (.iload_n 3, 1) := by decide +kernel
theorem dX11_loses_17 : decode cX11_loses 17 = .ok (.invokestatic 412, 3) := by decide +kernel
theorem dX11_loses_20 : decode cX11_loses 20 = .ok (.ifCond .ne 5, 3) := by decide +kernel
theorem dX11_loses_23 : decode cX11_loses 23 = .ok (.iconst (-1), 1) := by decide +kernel
theorem dX11_loses_24 : decode cX11_loses 24 = .ok (.ireturn, 1) := by decide +kernel
theorem dX11_loses_25 : decode cX11_loses 25 = .ok (.aload_n 0, 1) := by decide +kernel
theorem dX11_loses_26 : decode cX11_loses 26 = .ok (.invokevirtual 396, 3) := by decide +kernel
theorem dX11_loses_29 : decode cX11_loses 29 = .ok (.aload_n 0, 1) := by decide +kernel
theorem dX11_loses_30 : decode cX11_loses 30 = .ok (.iload_n 1, 1) := by decide +kernel
theorem dX11_loses_31 : decode cX11_loses 31 = .ok (.iload_n 2, 1) := by decide +kernel
theorem dX11_loses_32 : decode cX11_loses 32 = .ok (.iload_n 3, 1) := by decide +kernel
theorem dX11_loses_33 : decode cX11_loses 33 = .ok (.invokevirtual 424, 3) := by decide +kernel
theorem dX11_loses_36 : decode cX11_loses 36 = .ok (.ireturn, 1) := by decide +kernel
theorem dX11_least_0 : decode cX11_least 0 = .ok (.iload_n 1, 1) := by decide +kernel
theorem dX11_least_1 : decode cX11_least 1 = .ok (.invokestatic 412, 3) := by decide +kernel
theorem dX11_least_4 : decode cX11_least 4 = .ok (.ifCond .ne 5, 3) := by decide +kernel
theorem dX11_least_7 : decode cX11_least 7 = .ok (.iconst (-1), 1) := by decide +kernel
theorem dX11_least_8 : decode cX11_least 8 = .ok (.ireturn, 1) := by decide +kernel
theorem dX11_least_9 : decode cX11_least 9 = .ok (.aload_n 0, 1) := by decide +kernel
theorem dX11_least_10 : decode cX11_least 10 = .ok (.invokevirtual 396, 3) := by decide +kernel
theorem dX11_least_13 : decode cX11_least 13 = .ok (.bipush (-2), 2) := by decide +kernel
theorem dX11_least_15 : decode cX11_least 15 = .ok (.istore_n 2, 1) := by decide +kernel
theorem dX11_least_16 : decode cX11_least 16 = .ok (.iconst 0, 1) := by decide +kernel
theorem dX11_least_17 : decode cX11_least 17 = .ok (.istore_n 3, 1) := by decide +kernel
theorem dX11_least_18 : decode cX11_least 18 = .ok (.iconst 0, 1) := by decide +kernel
theorem dX11_least_19 : decode cX11_least 19 = .ok (.istore 4, 2) := by decide +kernel
theorem dX11_least_21 : decode cX11_least 21 = .ok (.iload 4, 2) := by decide +kernel
theorem dX11_least_23 : decode cX11_least 23 = .ok (.aload_n 0, 1) := by decide +kernel
theorem dX11_least_24 : decode cX11_least 24 = .ok (.getfield 61, 3) := by decide +kernel
theorem dX11_least_27 : decode cX11_least 27 = .ok (.aload_n 0, 1) := by decide +kernel
theorem dX11_least_28 : decode cX11_least 28 = .ok (.getfield 233, 3) := by decide +kernel
theorem dX11_least_31 : decode cX11_least 31 = .ok (.iaload, 1) := by decide +kernel
theorem dX11_least_32 : decode cX11_least 32 = .ok (.if_icmp .ge 68, 3) := by decide +kernel
theorem dX11_least_35 : decode cX11_least 35 = .ok (.iconst 0, 1) := by decide +kernel
theorem dX11_least_36 : decode cX11_least 36 = .ok (.istore 5, 2) := by decide +kernel
theorem dX11_least_38 : decode cX11_least 38 = .ok (.iload 5, 2) := by decide +kernel
theorem dX11_least_40 : decode cX11_least 40 = .ok (.aload_n 0, 1) := by decide +kernel
theorem dX11_least_41 : decode cX11_least 41 = .ok (.getfield 61, 3) := by decide +kernel
theorem dX11_least_44 : decode cX11_least 44 = .ok (.aload_n 0, 1) := by decide +kernel
theorem dX11_least_45 : decode cX11_least 45 = .ok (.getfield 233, 3) := by decide +kernel
theorem dX11_least_48 : decode cX11_least 48 = .ok (.iaload, 1) := by decide +kernel
theorem dX11_least_49 : decode cX11_least 49 = .ok (.if_icmp .ge 45, 3) := by decide +kernel
theorem dX11_least_52 : decode cX11_least 52 = .ok (.aload_n 0, 1) := by decide +kernel
theorem dX11_least_53 : decode cX11_least 53 = .ok (.iload 4, 2) := by decide +kernel
theorem dX11_least_55 : decode cX11_least 55 = .ok (.iload 5, 2) := by decide +kernel
theorem dX11_least_57 : decode cX11_least 57 = .ok (.iload_n 1, 1) := by decide +kernel
theorem dX11_least_58 : decode cX11_least 58 = .ok (.invokevirtual 424, 3) := by decide +kernel
theorem dX11_least_61 : decode cX11_least 61 = .ok (.istore 6, 2) := by decide +kernel
theorem dX11_least_63 : decode cX11_least 63 = .ok (.iload_n 2, 1) := by decide +kernel
theorem dX11_least_64 : decode cX11_least 64 = .ok (.ifCond .lt 12, 3) := by decide +kernel
theorem dX11_least_67 : decode cX11_least 67 = .ok (.iload 6, 2) := by decide +kernel
theorem dX11_least_69 : decode cX11_least 69 = .ok (.iload_n 3, 1) := by decide +kernel
theorem dX11_least_70 : decode cX11_least 70 = .ok (.if_icmp .lt 6, 3) := by decide +kernel
theorem dX11_least_73 : decode cX11_least 73 = .ok (.goto 15, 3) := by decide +kernel
theorem dX11_least_76 : decode cX11_least 76 = .ok (.bipush 10, 2) := by decide +kernel
theorem dX11_least_78 : decode cX11_least 78 = .ok (.iload 4, 2) := by decide +kernel
theorem dX11_least_80 : decode cX11_least 80 = .ok (.imul, 1) := by decide +kernel
theorem dX11_least_81 : decode cX11_least 81 = .ok (.iload 5, 2) := by decide +kernel
theorem dX11_least_83 : decode cX11_least 83 = .ok (.iadd, 1) := by decide +kernel
theorem dX11_least_84 : decode cX11_least 84 = .ok (.istore_n 2, 1) := by decide +kernel
theorem dX11_least_85 : decode cX11_least 85 = .ok (.iload 6, 2) := by decide +kernel
theorem dX11_least_87 : decode cX11_least 87 = .ok (.istore_n 3, 1) := by decide +kernel
theorem dX11_least_88 : decode cX11_least 88 = .ok (.iinc 5 1, 3) := by decide +kernel
theorem dX11_least_91 : decode cX11_least 91 = .ok (.goto (-53), 3) := by decide +kernel
theorem dX11_least_94 : decode cX11_least 94 = .ok (.iinc 4 1, 3) := by decide +kernel
theorem dX11_least_97 : decode cX11_least 97 = .ok (.goto (-76), 3) := by decide +kernel
theorem dX11_least_100 : decode cX11_least 100 = .ok (.iload_n 2, 1) := by decide +kernel
theorem dX11_least_101 : decode cX11_least 101 = .ok (.ireturn, 1) := by decide +kernel
theorem dX11_truest_0 : decode cX11_truest 0 = .ok (.iload_n 1, 1) := by decide +kernel
theorem dX11_truest_1 : decode cX11_truest 1 = .ok (.invokestatic 412, 3) := by decide +kernel
theorem dX11_truest_4 : decode cX11_truest 4 = .ok (.ifCond .ne 5, 3) := by decide +kernel
theorem dX11_truest_7 : decode cX11_truest 7 = .ok (.iconst (-1), 1) := by decide +kernel
theorem dX11_truest_8 : decode cX11_truest 8 = .ok (.ireturn, 1) := by decide +kernel
theorem dX11_truest_9 : decode cX11_truest 9 = .ok (.aload_n 0, 1) := by decide +kernel
theorem dX11_truest_10 : decode cX11_truest 10 = .ok (.invokevirtual 396, 3) := by decide +kernel
theorem dX11_truest_13 : decode cX11_truest 13 = .ok (.bipush (-2), 2) := by decide +kernel
theorem dX11_truest_15 : decode cX11_truest 15 = .ok (.istore_n 2, 1) := by decide +kernel
theorem dX11_truest_16 : decode cX11_truest 16 = .ok (.iconst 0, 1) := by decide +kernel
theorem dX11_truest_17 : decode cX11_truest 17 = .ok (.istore_n 3, 1) := by decide +kernel
theorem dX11_truest_18 : decode cX11_truest 18 = .ok (.iconst 0, 1) := by decide +kernel
theorem dX11_truest_19 : decode cX11_truest 19 = .ok (.istore 4, 2) := by decide +kernel
theorem dX11_truest_21 : decode cX11_truest 21 = .ok (.iload 4, 2) := by decide +kernel
theorem dX11_truest_23 : decode cX11_truest 23 = .ok (.aload_n 0, 1) := by decide +kernel
theorem dX11_truest_24 : decode cX11_truest 24 = .ok (.getfield 61, 3) := by decide +kernel
theorem dX11_truest_27 : decode cX11_truest 27 = .ok (.aload_n 0, 1) := by decide +kernel
theorem dX11_truest_28 : decode cX11_truest 28 = .ok (.getfield 233, 3) := by decide +kernel
theorem dX11_truest_31 : decode cX11_truest 31 = .ok (.iaload, 1) := by decide +kernel
theorem dX11_truest_32 : decode cX11_truest 32 = .ok (.if_icmp .ge 43, 3) := by decide +kernel
theorem dX11_truest_35 : decode cX11_truest 35 = .ok (.aload_n 0, 1) := by decide +kernel
theorem dX11_truest_36 : decode cX11_truest 36 = .ok (.iload_n 1, 1) := by decide +kernel
theorem dX11_truest_37 : decode cX11_truest 37 = .ok (.aload_n 0, 1) := by decide +kernel
theorem dX11_truest_38 : decode cX11_truest 38 = .ok (.iload 4, 2) := by decide +kernel
theorem dX11_truest_40 : decode cX11_truest 40 = .ok (.iload_n 1, 1) := by decide +kernel
theorem dX11_truest_41 : decode cX11_truest 41 = .ok (.iconst (-1), 1) := by decide +kernel
theorem dX11_truest_42 : decode cX11_truest 42 = .ok (.invokevirtual 375, 3) := by decide +kernel
theorem dX11_truest_45 : decode cX11_truest 45 = .ok (.invokevirtual 421, 3) := by decide +kernel
theorem dX11_truest_48 : decode cX11_truest 48 = .ok (.istore 5, 2) := by decide +kernel
theorem dX11_truest_50 : decode cX11_truest 50 = .ok (.iload_n 2, 1) := by decide +kernel
theorem dX11_truest_51 : decode cX11_truest 51 = .ok (.ifCond .lt 12, 3) := by decide +kernel
theorem dX11_truest_54 : decode cX11_truest 54 = .ok (.iload 5, 2) := by decide +kernel
theorem dX11_truest_56 : decode cX11_truest 56 = .ok (.iload_n 3, 1) := by decide +kernel
theorem dX11_truest_57 : decode cX11_truest 57 = .ok (.if_icmp .lt 6, 3) := by decide +kernel
theorem dX11_truest_60 : decode cX11_truest 60 = .ok (.goto 9, 3) := by decide +kernel
theorem dX11_truest_63 : decode cX11_truest 63 = .ok (.iload 4, 2) := by decide +kernel
theorem dX11_truest_65 : decode cX11_truest 65 = .ok (.istore_n 2, 1) := by decide +kernel
theorem dX11_truest_66 : decode cX11_truest 66 = .ok (.iload 5, 2) := by decide +kernel
theorem dX11_truest_68 : decode cX11_truest 68 = .ok (.istore_n 3, 1) := by decide +kernel
theorem dX11_truest_69 : decode cX11_truest 69 = .ok (.iinc 4 1, 3) := by decide +kernel
theorem dX11_truest_72 : decode cX11_truest 72 = .ok (.goto (-51), 3) := by decide +kernel
theorem dX11_truest_75 : decode cX11_truest 75 = .ok (.iload_n 2, 1) := by decide +kernel
theorem dX11_truest_76 : decode cX11_truest 76 = .ok (.ireturn, 1) := by decide +kernel
theorem dX11_crooked_0 : decode cX11_crooked 0 = .ok (.aload_n 0, 1) := by decide +kernel
theorem dX11_crooked_1 : decode cX11_crooked 1 = .ok (.iload_n 1, 1) := by decide +kernel
theorem dX11_crooked_2 : decode cX11_crooked 2 = .ok (.invokevirtual 402, 3) := by decide +kernel
theorem dX11_crooked_5 : decode cX11_crooked 5 = .ok (.ifCond .eq 12, 3) := by decide +kernel
theorem dX11_crooked_8 : decode cX11_crooked 8 = .ok (.iload_n 2, 1) := by decide +kernel
theorem dX11_crooked_9 : decode cX11_crooked 9 = .ok (.iconst 0, 1) := by decide +kernel
theorem dX11_crooked_10 : decode cX11_crooked 10 = .ok (.iconst 4, 1) := by decide +kernel
theorem dX11_crooked_11 : decode cX11_crooked 11 = .ok (.invokestatic 316, 3) := by decide +kernel
theorem dX11_crooked_14 : decode cX11_crooked 14 = .ok (.ifCond .ne 5, 3) := by decide +kernel
theorem dX11_crooked_17 : decode cX11_crooked 17 = .ok (.iconst (-1), 1) := by decide +kernel
theorem dX11_crooked_18 : decode cX11_crooked 18 = .ok (.ireturn, 1) := by decide +kernel
theorem dX11_crooked_19 : decode cX11_crooked 19 = .ok (.aload_n 0, 1) := by decide +kernel
theorem dX11_crooked_20 : decode cX11_crooked 20 = .ok (.invokevirtual 396, 3) := by decide +kernel
theorem dX11_crooked_23 : decode cX11_crooked 23 = .ok (.iconst 0, 1) := by decide +kernel
theorem dX11_crooked_24 : decode cX11_crooked 24 = .ok (.istore_n 3, 1) := by decide +kernel
theorem dX11_crooked_25 : decode cX11_crooked 25 = .ok (.iconst 0, 1) := by decide +kernel
theorem dX11_crooked_26 : decode cX11_crooked 26 = .ok (.istore 4, 2) := by decide +kernel
theorem dX11_crooked_28 : decode cX11_crooked 28 = .ok (.iload 4, 2) := by decide +kernel
theorem dX11_crooked_30 : decode cX11_crooked 30 = .ok (.bipush 8, 2) := by decide +kernel
theorem dX11_crooked_32 : decode cX11_crooked 32 = .ok (.if_icmp .ge 25, 3) := by decide +kernel
theorem dX11_crooked_35 : decode cX11_crooked 35 = .ok (.aload_n 0, 1) := by decide +kernel
theorem dX11_crooked_36 : decode cX11_crooked 36 = .ok (.iload_n 1, 1) := by decide +kernel
theorem dX11_crooked_37 : decode cX11_crooked 37 = .ok (.iload 4, 2) := by decide +kernel
theorem dX11_crooked_39 : decode cX11_crooked 39 = .ok (.iload_n 2, 1) := by decide +kernel
theorem dX11_crooked_40 : decode cX11_crooked 40 = .ok (.invokevirtual 357, 3) := by decide +kernel
theorem dX11_crooked_43 : decode cX11_crooked 43 = .ok (.iload 4, 2) := by decide +kernel
theorem dX11_crooked_45 : decode cX11_crooked 45 = .ok (.if_icmp .eq 6, 3) := by decide +kernel
theorem dX11_crooked_48 : decode cX11_crooked 48 = .ok (.iinc 3 1, 3) := by decide +kernel
theorem dX11_crooked_51 : decode cX11_crooked 51 = .ok (.iinc 4 1, 3) := by decide +kernel
theorem dX11_crooked_54 : decode cX11_crooked 54 = .ok (.goto (-26), 3) := by decide +kernel
theorem dX11_crooked_57 : decode cX11_crooked 57 = .ok (.iload_n 3, 1) := by decide +kernel
theorem dX11_crooked_58 : decode cX11_crooked 58 = .ok (.ireturn, 1) := by decide +kernel
theorem dX11_altered_0 : decode cX11_altered 0 = .ok (.iload_n 1, 1) := by decide +kernel
theorem dX11_altered_1 : decode cX11_altered 1 = .ok (.invokestatic 412, 3) := by decide +kernel
theorem dX11_altered_4 : decode cX11_altered 4 = .ok (.ifCond .eq 19, 3) := by decide +kernel
theorem dX11_altered_7 : decode cX11_altered 7 = .ok (.iload_n 2, 1) := by decide +kernel
theorem dX11_altered_8 : decode cX11_altered 8 = .ok (.invokestatic 412, 3) := by decide +kernel
theorem dX11_altered_11 : decode cX11_altered 11 = .ok (.ifCond .eq 12, 3) := by decide +kernel
theorem dX11_altered_14 : decode cX11_altered 14 = .ok (.aload_n 0, 1) := by decide +kernel
theorem dX11_altered_15 : decode cX11_altered 15 = .ok (.iload_n 1, 1) := by decide +kernel
theorem dX11_altered_16 : decode cX11_altered 16 = .ok (.iload_n 2, 1) := by decide +kernel
theorem dX11_altered_17 : decode cX11_altered 17 = .ok (.invokevirtual 421, 3) := by decide +kernel
theorem dX11_altered_20 : decode cX11_altered 20 = .ok (.goto 4, 3) := by decide +kernel
theorem dX11_altered_23 : decode cX11_altered 23 = .ok (.iconst (-1), 1) := by decide +kernel
theorem dX11_altered_24 : decode cX11_altered 24 = .ok (.ireturn, 1) := by decide +kernel
theorem dX11_takes_0 : decode cX11_takes 0 = .ok (.aload_n 0, 1) := by decide +kernel
theorem dX11_takes_1 : decode cX11_takes 1 = .ok (.iload_n 1, 1) := by decide +kernel
theorem dX11_takes_2 : decode cX11_takes 2 = .ok (.invokevirtual 393, 3) := by decide +kernel
theorem dX11_takes_5 : decode cX11_takes 5 = .ok (.ifCond .eq 10, 3) := by decide +kernel
theorem dX11_takes_8 : decode cX11_takes 8 = .ok (.iload_n 2, 1) := by decide +kernel
theorem dX11_takes_9 : decode cX11_takes 9 = .ok (.invokestatic 412, 3) := by decide +kernel
theorem dX11_takes_12 : decode cX11_takes 12 = .ok (.ifCond .ne 5, 3) := by decide +kernel
theorem dX11_takes_15 : decode cX11_takes 15 = .ok (.iconst (-1), 1) := by decide +kernel
theorem dX11_takes_16 : decode cX11_takes 16 = .ok (.ireturn, 1) := by decide +kernel
theorem dX11_takes_17 : decode cX11_takes 17 = .ok (.aload_n 0, 1) := by decide +kernel
theorem dX11_takes_18 : decode cX11_takes 18 = .ok (.invokevirtual 396, 3) := by decide +kernel
theorem dX11_takes_21 : decode cX11_takes 21 = .ok (.aload_n 0, 1) := by decide +kernel
theorem dX11_takes_22 : decode cX11_takes 22 = .ok (.iload_n 1, 1) := by decide +kernel
theorem dX11_takes_23 : decode cX11_takes 23 = .ok (.iload_n 2, 1) := by decide +kernel
theorem dX11_takes_24 : decode cX11_takes 24 = .ok (.invokevirtual 378, 3) := by decide +kernel
theorem dX11_takes_27 : decode cX11_takes 27 = .ok (.ireturn, 1) := by decide +kernel
theorem dX11_fours_0 : decode cX11_fours 0 = .ok (.iconst 1, 1) := by decide +kernel
theorem dX11_fours_1 : decode cX11_fours 1 = .ok (.istore_n 1, 1) := by decide +kernel
theorem dX11_fours_2 : decode cX11_fours 2 = .ok (.iconst 0, 1) := by decide +kernel
theorem dX11_fours_3 : decode cX11_fours 3 = .ok (.istore_n 2, 1) := by decide +kernel
theorem dX11_fours_4 : decode cX11_fours 4 = .ok (.iload_n 2, 1) := by decide +kernel
theorem dX11_fours_5 : decode cX11_fours 5 = .ok (.iload_n 0, 1) := by decide +kernel
theorem dX11_fours_6 : decode cX11_fours 6 = .ok (.if_icmp .ge 13, 3) := by decide +kernel
theorem dX11_fours_9 : decode cX11_fours 9 = .ok (.iload_n 1, 1) := by decide +kernel
theorem dX11_fours_10 : decode cX11_fours 10 = .ok (.iconst 4, 1) := by decide +kernel
theorem dX11_fours_11 : decode cX11_fours 11 = .ok (.imul, 1) := by decide +kernel
theorem dX11_fours_12 : decode cX11_fours 12 = .ok (.istore_n 1, 1) := by decide +kernel
theorem dX11_fours_13 : decode cX11_fours 13 = .ok (.iinc 2 1, 3) := by decide +kernel
theorem dX11_fours_16 : decode cX11_fours 16 = .ok (.goto (-12), 3) := by decide +kernel
theorem dX11_fours_19 : decode cX11_fours 19 = .ok (.iload_n 1, 1) := by decide +kernel
theorem dX11_fours_20 : decode cX11_fours 20 = .ok (.ireturn, 1) := by decide +kernel
theorem dX11_sumBy_0 : decode cX11_sumBy 0 = .ok (.iconst 0, 1) := by decide +kernel
theorem dX11_sumBy_1 : decode cX11_sumBy 1 = .ok (.istore_n 2, 1) := by decide +kernel
theorem dX11_sumBy_2 : decode cX11_sumBy 2 = .ok (.iconst 0, 1) := by decide +kernel
theorem dX11_sumBy_3 : decode cX11_sumBy 3 = .ok (.istore_n 3, 1) := by decide +kernel
theorem dX11_sumBy_4 : decode cX11_sumBy 4 = .ok (.iconst 0, 1) := by decide +kernel
theorem dX11_sumBy_5 : decode cX11_sumBy 5 = .ok (.istore 4, 2) := by decide +kernel
theorem dX11_sumBy_7 : decode cX11_sumBy 7 = .ok (.iload 4, 2) := by decide +kernel
theorem dX11_sumBy_9 : decode cX11_sumBy 9 = .ok (.aload_n 0, 1) := by decide +kernel
theorem dX11_sumBy_10 : decode cX11_sumBy 10 = .ok (.getfield 427, 3) := by decide +kernel
theorem dX11_sumBy_13 : decode cX11_sumBy 13 = .ok (.if_icmp .ge 70, 3) := by decide +kernel
theorem dX11_sumBy_16 : decode cX11_sumBy 16 = .ok (.iload_n 1, 1) := by decide +kernel
theorem dX11_sumBy_17 : decode cX11_sumBy 17 = .ok (.aload_n 0, 1) := by decide +kernel
theorem dX11_sumBy_18 : decode cX11_sumBy 18 = .ok (.getfield 427, 3) := by decide +kernel
theorem dX11_sumBy_21 : decode cX11_sumBy 21 = .ok (.iconst 1, 1) := by decide +kernel
theorem dX11_sumBy_22 : decode cX11_sumBy 22 = .ok (.isub, 1) := by decide +kernel
theorem dX11_sumBy_23 : decode cX11_sumBy 23 = .ok (.iload 4, 2) := by decide +kernel
theorem dX11_sumBy_25 : decode cX11_sumBy 25 = .ok (.isub, 1) := by decide +kernel
theorem dX11_sumBy_26 : decode cX11_sumBy 26 = .ok (.invokestatic 430, 3) := by decide +kernel
theorem dX11_sumBy_29 : decode cX11_sumBy 29 = .ok (.idiv, 1) := by decide +kernel
theorem dX11_sumBy_30 : decode cX11_sumBy 30 = .ok (.iconst 4, 1) := by decide +kernel
theorem dX11_sumBy_31 : decode cX11_sumBy 31 = .ok (.irem, 1) := by decide +kernel
theorem dX11_sumBy_32 : decode cX11_sumBy 32 = .ok (.istore 5, 2) := by decide +kernel
theorem dX11_sumBy_34 : decode cX11_sumBy 34 = .ok (.aload_n 0, 1) := by decide +kernel
theorem dX11_sumBy_35 : decode cX11_sumBy 35 = .ok (.iload 5, 2) := by decide +kernel
theorem dX11_sumBy_37 : decode cX11_sumBy 37 = .ok (.invokevirtual 402, 3) := by decide +kernel
theorem dX11_sumBy_40 : decode cX11_sumBy 40 = .ok (.ifCond .eq 13, 3) := by decide +kernel
theorem dX11_sumBy_43 : decode cX11_sumBy 43 = .ok (.iload_n 2, 1) := by decide +kernel
theorem dX11_sumBy_44 : decode cX11_sumBy 44 = .ok (.iload 5, 2) := by decide +kernel
theorem dX11_sumBy_46 : decode cX11_sumBy 46 = .ok (.ishr, 1) := by decide +kernel
theorem dX11_sumBy_47 : decode cX11_sumBy 47 = .ok (.iconst 1, 1) := by decide +kernel
theorem dX11_sumBy_48 : decode cX11_sumBy 48 = .ok (.iand, 1) := by decide +kernel
theorem dX11_sumBy_49 : decode cX11_sumBy 49 = .ok (.iconst 1, 1) := by decide +kernel
theorem dX11_sumBy_50 : decode cX11_sumBy 50 = .ok (.if_icmp .ne 5, 3) := by decide +kernel
theorem dX11_sumBy_53 : decode cX11_sumBy 53 = .ok (.iconst (-1), 1) := by decide +kernel
theorem dX11_sumBy_54 : decode cX11_sumBy 54 = .ok (.ireturn, 1) := by decide +kernel
theorem dX11_sumBy_55 : decode cX11_sumBy 55 = .ok (.iload_n 2, 1) := by decide +kernel
theorem dX11_sumBy_56 : decode cX11_sumBy 56 = .ok (.iconst 1, 1) := by decide +kernel
theorem dX11_sumBy_57 : decode cX11_sumBy 57 = .ok (.iload 5, 2) := by decide +kernel
theorem dX11_sumBy_59 : decode cX11_sumBy 59 = .ok (.ishl, 1) := by decide +kernel
theorem dX11_sumBy_60 : decode cX11_sumBy 60 = .ok (.ior, 1) := by decide +kernel
theorem dX11_sumBy_61 : decode cX11_sumBy 61 = .ok (.istore_n 2, 1) := by decide +kernel
theorem dX11_sumBy_62 : decode cX11_sumBy 62 = .ok (.iload_n 3, 1) := by decide +kernel
theorem dX11_sumBy_63 : decode cX11_sumBy 63 = .ok (.aload_n 0, 1) := by decide +kernel
theorem dX11_sumBy_64 : decode cX11_sumBy 64 = .ok (.getfield 131, 3) := by decide +kernel
theorem dX11_sumBy_67 : decode cX11_sumBy 67 = .ok (.iconst 4, 1) := by decide +kernel
theorem dX11_sumBy_68 : decode cX11_sumBy 68 = .ok (.iload 4, 2) := by decide +kernel
theorem dX11_sumBy_70 : decode cX11_sumBy 70 = .ok (.imul, 1) := by decide +kernel
theorem dX11_sumBy_71 : decode cX11_sumBy 71 = .ok (.iload 5, 2) := by decide +kernel
theorem dX11_sumBy_73 : decode cX11_sumBy 73 = .ok (.iadd, 1) := by decide +kernel
theorem dX11_sumBy_74 : decode cX11_sumBy 74 = .ok (.iaload, 1) := by decide +kernel
theorem dX11_sumBy_75 : decode cX11_sumBy 75 = .ok (.iadd, 1) := by decide +kernel
theorem dX11_sumBy_76 : decode cX11_sumBy 76 = .ok (.istore_n 3, 1) := by decide +kernel
theorem dX11_sumBy_77 : decode cX11_sumBy 77 = .ok (.iinc 4 1, 3) := by decide +kernel
theorem dX11_sumBy_80 : decode cX11_sumBy 80 = .ok (.goto (-73), 3) := by decide +kernel
theorem dX11_sumBy_83 : decode cX11_sumBy 83 = .ok (.iload_n 3, 1) := by decide +kernel
theorem dX11_sumBy_84 : decode cX11_sumBy 84 = .ok (.ireturn, 1) := by decide +kernel
theorem dX11_fillsHire_0 : decode cX11_fillsHire 0 = .ok (.aload_n 0, 1) := by decide +kernel
theorem dX11_fillsHire_1 : decode cX11_fillsHire 1 = .ok (.invokevirtual 396, 3) := by decide +kernel
theorem dX11_fillsHire_4 : decode cX11_fillsHire 4 = .ok (.aload_n 0, 1) := by decide +kernel
theorem dX11_fillsHire_5 : decode cX11_fillsHire 5 = .ok (.iconst 0, 1) := by decide +kernel
theorem dX11_fillsHire_6 : decode cX11_fillsHire 6 = .ok (.putfield 427, 3) := by decide +kernel
theorem dX11_fillsHire_9 : decode cX11_fillsHire 9 = .ok (.iconst 0, 1) := by decide +kernel
theorem dX11_fillsHire_10 : decode cX11_fillsHire 10 = .ok (.istore_n 1, 1) := by decide +kernel
theorem dX11_fillsHire_11 : decode cX11_fillsHire 11 = .ok (.iload_n 1, 1) := by decide +kernel
theorem dX11_fillsHire_12 : decode cX11_fillsHire 12 = .ok (.aload_n 0, 1) := by decide +kernel
theorem dX11_fillsHire_13 : decode cX11_fillsHire 13 = .ok (.getfield 55, 3) := by decide +kernel
theorem dX11_fillsHire_16 : decode cX11_fillsHire 16 = .ok (.aload_n 0, 1) := by decide +kernel
theorem dX11_fillsHire_17 : decode cX11_fillsHire 17 = .ok (.getfield 233, 3) := by decide +kernel
theorem dX11_fillsHire_20 : decode cX11_fillsHire 20 = .ok (.iaload, 1) := by decide +kernel
theorem dX11_fillsHire_21 : decode cX11_fillsHire 21 = .ok (.if_icmp .ge 101, 3) := by decide +kernel
theorem dX11_fillsHire_24 : decode cX11_fillsHire 24 = .ok (.aload_n 0, 1) := by decide +kernel
theorem dX11_fillsHire_25 : decode cX11_fillsHire 25 = .ok (.getfield 116, 3) := by decide +kernel
theorem dX11_fillsHire_28 : decode cX11_fillsHire 28 = .ok (.bipush 15, 2) := by decide +kernel
theorem dX11_fillsHire_30 : decode cX11_fillsHire 30 = .ok (.iload_n 1, 1) := by decide +kernel
theorem dX11_fillsHire_31 : decode cX11_fillsHire 31 = .ok (.iadd, 1) := by decide +kernel
theorem dX11_fillsHire_32 : decode cX11_fillsHire 32 = .ok (.iaload, 1) := by decide +kernel
theorem dX11_fillsHire_33 : decode cX11_fillsHire 33 = .ok (.iconst 1, 1) := by decide +kernel
theorem dX11_fillsHire_34 : decode cX11_fillsHire 34 = .ok (.if_icmp .ne 6, 3) := by decide +kernel
theorem dX11_fillsHire_37 : decode cX11_fillsHire 37 = .ok (.goto 79, 3) := by decide +kernel
theorem dX11_fillsHire_40 : decode cX11_fillsHire 40 = .ok (.aload_n 0, 1) := by decide +kernel
theorem dX11_fillsHire_41 : decode cX11_fillsHire 41 = .ok (.aload_n 0, 1) := by decide +kernel
theorem dX11_fillsHire_42 : decode cX11_fillsHire 42 = .ok (.iload_n 1, 1) := by decide +kernel
theorem dX11_fillsHire_43 : decode cX11_fillsHire 43 = .ok (.invokevirtual 369, 3) := by decide +kernel
theorem dX11_fillsHire_46 : decode cX11_fillsHire 46 = .ok (.invokevirtual 372, 3) := by decide +kernel
theorem dX11_fillsHire_49 : decode cX11_fillsHire 49 = .ok (.istore_n 2, 1) := by decide +kernel
theorem dX11_fillsHire_50 : decode cX11_fillsHire 50 = .ok (.iconst 0, 1) := by decide +kernel
theorem dX11_fillsHire_51 : decode cX11_fillsHire 51 = .ok (.istore_n 3, 1) := by decide +kernel
theorem dX11_fillsHire_52 : decode cX11_fillsHire 52 = .ok (.iload_n 3, 1) := by decide +kernel
theorem dX11_fillsHire_53 : decode cX11_fillsHire 53 = .ok (.aload_n 0, 1) := by decide +kernel
theorem dX11_fillsHire_54 : decode cX11_fillsHire 54 = .ok (.getfield 61, 3) := by decide +kernel
theorem dX11_fillsHire_57 : decode cX11_fillsHire 57 = .ok (.aload_n 0, 1) := by decide +kernel
theorem dX11_fillsHire_58 : decode cX11_fillsHire 58 = .ok (.getfield 233, 3) := by decide +kernel
theorem dX11_fillsHire_61 : decode cX11_fillsHire 61 = .ok (.iaload, 1) := by decide +kernel
theorem dX11_fillsHire_62 : decode cX11_fillsHire 62 = .ok (.if_icmp .ge 34, 3) := by decide +kernel
theorem dX11_fillsHire_65 : decode cX11_fillsHire 65 = .ok (.aload_n 0, 1) := by decide +kernel
theorem dX11_fillsHire_66 : decode cX11_fillsHire 66 = .ok (.getfield 131, 3) := by decide +kernel
theorem dX11_fillsHire_69 : decode cX11_fillsHire 69 = .ok (.iconst 4, 1) := by decide +kernel
theorem dX11_fillsHire_70 : decode cX11_fillsHire 70 = .ok (.aload_n 0, 1) := by decide +kernel
theorem dX11_fillsHire_71 : decode cX11_fillsHire 71 = .ok (.getfield 427, 3) := by decide +kernel
theorem dX11_fillsHire_74 : decode cX11_fillsHire 74 = .ok (.imul, 1) := by decide +kernel
theorem dX11_fillsHire_75 : decode cX11_fillsHire 75 = .ok (.iload_n 3, 1) := by decide +kernel
theorem dX11_fillsHire_76 : decode cX11_fillsHire 76 = .ok (.iadd, 1) := by decide +kernel
theorem dX11_fillsHire_77 : decode cX11_fillsHire 77 = .ok (.aload_n 0, 1) := by decide +kernel
theorem dX11_fillsHire_78 : decode cX11_fillsHire 78 = .ok (.iload_n 2, 1) := by decide +kernel
theorem dX11_fillsHire_79 : decode cX11_fillsHire 79 = .ok (.aload_n 0, 1) := by decide +kernel
theorem dX11_fillsHire_80 : decode cX11_fillsHire 80 = .ok (.iload_n 3, 1) := by decide +kernel
theorem dX11_fillsHire_81 : decode cX11_fillsHire 81 = .ok (.iload_n 2, 1) := by decide +kernel
theorem dX11_fillsHire_82 : decode cX11_fillsHire 82 = .ok (.iconst (-1), 1) := by decide +kernel
theorem dX11_fillsHire_83 : decode cX11_fillsHire 83 = .ok (.invokevirtual 375, 3) := by decide +kernel
theorem dX11_fillsHire_86 : decode cX11_fillsHire 86 = .ok (.invokevirtual 421, 3) := by decide +kernel
theorem dX11_fillsHire_89 : decode cX11_fillsHire 89 = .ok (.iastore, 1) := by decide +kernel
theorem dX11_fillsHire_90 : decode cX11_fillsHire 90 = .ok (.iinc 3 1, 3) := by decide +kernel
theorem dX11_fillsHire_93 : decode cX11_fillsHire 93 = .ok (.goto (-41), 3) := by decide +kernel
theorem dX11_fillsHire_96 : decode cX11_fillsHire 96 = .ok (.aload_n 0, 1) := by decide +kernel
theorem dX11_fillsHire_97 : decode cX11_fillsHire 97 = .ok (.getfield 128, 3) := by decide +kernel
theorem dX11_fillsHire_100 : decode cX11_fillsHire 100 = .ok (.aload_n 0, 1) := by decide +kernel
theorem dX11_fillsHire_101 : decode cX11_fillsHire 101 = .ok (.getfield 427, 3) := by decide +kernel
theorem dX11_fillsHire_104 : decode cX11_fillsHire 104 = .ok (.iload_n 1, 1) := by decide +kernel
theorem dX11_fillsHire_105 : decode cX11_fillsHire 105 = .ok (.iastore, 1) := by decide +kernel
theorem dX11_fillsHire_106 : decode cX11_fillsHire 106 = .ok (.aload_n 0, 1) := by decide +kernel
theorem dX11_fillsHire_107 : decode cX11_fillsHire 107 = .ok (.dup, 1) := by decide +kernel
theorem dX11_fillsHire_108 : decode cX11_fillsHire 108 = .ok (.getfield 427, 3) := by decide +kernel
theorem dX11_fillsHire_111 : decode cX11_fillsHire 111 = .ok (.iconst 1, 1) := by decide +kernel
theorem dX11_fillsHire_112 : decode cX11_fillsHire 112 = .ok (.iadd, 1) := by decide +kernel
theorem dX11_fillsHire_113 : decode cX11_fillsHire 113 = .ok (.putfield 427, 3) := by decide +kernel
theorem dX11_fillsHire_116 : decode cX11_fillsHire 116 = .ok (.iinc 1 1, 3) := by decide +kernel
theorem dX11_fillsHire_119 : decode cX11_fillsHire 119 = .ok (.goto (-108), 3) := by decide +kernel
theorem dX11_fillsHire_122 : decode cX11_fillsHire 122 = .ok (.aload_n 0, 1) := by decide +kernel
theorem dX11_fillsHire_123 : decode cX11_fillsHire 123 = .ok (.iconst (-1), 1) := by decide +kernel
theorem dX11_fillsHire_124 : decode cX11_fillsHire 124 = .ok (.putfield 433, 3) := by decide +kernel
theorem dX11_fillsHire_127 : decode cX11_fillsHire 127 = .ok (.iconst 0, 1) := by decide +kernel
theorem dX11_fillsHire_128 : decode cX11_fillsHire 128 = .ok (.istore_n 1, 1) := by decide +kernel
theorem dX11_fillsHire_129 : decode cX11_fillsHire 129 = .ok (.iload_n 1, 1) := by decide +kernel
theorem dX11_fillsHire_130 : decode cX11_fillsHire 130 = .ok (.aload_n 0, 1) := by decide +kernel
theorem dX11_fillsHire_131 : decode cX11_fillsHire 131 = .ok (.getfield 427, 3) := by decide +kernel
theorem dX11_fillsHire_134 : decode cX11_fillsHire 134 = .ok (.invokestatic 430, 3) := by decide +kernel
theorem dX11_fillsHire_137 : decode cX11_fillsHire 137 = .ok (.if_icmp .ge 47, 3) := by decide +kernel
theorem dX11_fillsHire_140 : decode cX11_fillsHire 140 = .ok (.aload_n 0, 1) := by decide +kernel
theorem dX11_fillsHire_141 : decode cX11_fillsHire 141 = .ok (.iload_n 1, 1) := by decide +kernel
theorem dX11_fillsHire_142 : decode cX11_fillsHire 142 = .ok (.invokevirtual 436, 3) := by decide +kernel
theorem dX11_fillsHire_145 : decode cX11_fillsHire 145 = .ok (.istore_n 2, 1) := by decide +kernel
theorem dX11_fillsHire_146 : decode cX11_fillsHire 146 = .ok (.iload_n 2, 1) := by decide +kernel
theorem dX11_fillsHire_147 : decode cX11_fillsHire 147 = .ok (.ifCond .lt 31, 3) := by decide +kernel
theorem dX11_fillsHire_150 : decode cX11_fillsHire 150 = .ok (.aload_n 0, 1) := by decide +kernel
theorem dX11_fillsHire_151 : decode cX11_fillsHire 151 = .ok (.getfield 433, 3) := by decide +kernel
theorem dX11_fillsHire_154 : decode cX11_fillsHire 154 = .ok (.ifCond .lt 14, 3) := by decide +kernel
theorem dX11_fillsHire_157 : decode cX11_fillsHire 157 = .ok (.iload_n 2, 1) := by decide +kernel
theorem dX11_fillsHire_158 : decode cX11_fillsHire 158 = .ok (.aload_n 0, 1) := by decide +kernel
theorem dX11_fillsHire_159 : decode cX11_fillsHire 159 = .ok (.getfield 439, 3) := by decide +kernel
theorem dX11_fillsHire_162 : decode cX11_fillsHire 162 = .ok (.if_icmp .lt 6, 3) := by decide +kernel
theorem dX11_fillsHire_165 : decode cX11_fillsHire 165 = .ok (.goto 13, 3) := by decide +kernel
theorem dX11_fillsHire_168 : decode cX11_fillsHire 168 = .ok (.aload_n 0, 1) := by decide +kernel
theorem dX11_fillsHire_169 : decode cX11_fillsHire 169 = .ok (.iload_n 2, 1) := by decide +kernel
theorem dX11_fillsHire_170 : decode cX11_fillsHire 170 = .ok (.putfield 439, 3) := by decide +kernel
theorem dX11_fillsHire_173 : decode cX11_fillsHire 173 = .ok (.aload_n 0, 1) := by decide +kernel
theorem dX11_fillsHire_174 : decode cX11_fillsHire 174 = .ok (.iload_n 1, 1) := by decide +kernel
theorem dX11_fillsHire_175 : decode cX11_fillsHire 175 = .ok (.putfield 433, 3) := by decide +kernel
theorem dX11_fillsHire_178 : decode cX11_fillsHire 178 = .ok (.iinc 1 1, 3) := by decide +kernel
theorem dX11_fillsHire_181 : decode cX11_fillsHire 181 = .ok (.goto (-52), 3) := by decide +kernel
theorem dX11_fillsHire_184 : decode cX11_fillsHire 184 = .ok (.return_, 1) := by decide +kernel
theorem dX11_hires_0 : decode cX11_hires 0 = .ok (.iload_n 1, 1) := by decide +kernel
theorem dX11_hires_1 : decode cX11_hires 1 = .ok (.iconst (-1), 1) := by decide +kernel
theorem dX11_hires_2 : decode cX11_hires 2 = .ok (.if_icmp .eq 13, 3) := by decide +kernel
theorem dX11_hires_5 : decode cX11_hires 5 = .ok (.aload_n 0, 1) := by decide +kernel
theorem dX11_hires_6 : decode cX11_hires 6 = .ok (.iload_n 1, 1) := by decide +kernel
theorem dX11_hires_7 : decode cX11_hires 7 = .ok (.invokevirtual 399, 3) := by decide +kernel
theorem dX11_hires_10 : decode cX11_hires 10 = .ok (.ifCond .ne 5, 3) := by decide +kernel
theorem dX11_hires_13 : decode cX11_hires 13 = .ok (.iconst (-1), 1) := by decide +kernel
theorem dX11_hires_14 : decode cX11_hires 14 = .ok (.ireturn, 1) := by decide +kernel
theorem dX11_hires_15 : decode cX11_hires 15 = .ok (.aload_n 0, 1) := by decide +kernel
theorem dX11_hires_16 : decode cX11_hires 16 = .ok (.invokevirtual 442, 3) := by decide +kernel
theorem dX11_hires_19 : decode cX11_hires 19 = .ok (.aload_n 0, 1) := by decide +kernel
theorem dX11_hires_20 : decode cX11_hires 20 = .ok (.getfield 433, 3) := by decide +kernel
theorem dX11_hires_23 : decode cX11_hires 23 = .ok (.ifCond .ge 6, 3) := by decide +kernel
theorem dX11_hires_26 : decode cX11_hires 26 = .ok (.bipush (-2), 2) := by decide +kernel
theorem dX11_hires_28 : decode cX11_hires 28 = .ok (.ireturn, 1) := by decide +kernel
theorem dX11_hires_29 : decode cX11_hires 29 = .ok (.iload_n 1, 1) := by decide +kernel
theorem dX11_hires_30 : decode cX11_hires 30 = .ok (.iconst (-1), 1) := by decide +kernel
theorem dX11_hires_31 : decode cX11_hires 31 = .ok (.if_icmp .ne 8, 3) := by decide +kernel
theorem dX11_hires_34 : decode cX11_hires 34 = .ok (.aload_n 0, 1) := by decide +kernel
theorem dX11_hires_35 : decode cX11_hires 35 = .ok (.getfield 439, 3) := by decide +kernel
theorem dX11_hires_38 : decode cX11_hires 38 = .ok (.ireturn, 1) := by decide +kernel
theorem dX11_hires_39 : decode cX11_hires 39 = .ok (.iconst 0, 1) := by decide +kernel
theorem dX11_hires_40 : decode cX11_hires 40 = .ok (.istore_n 2, 1) := by decide +kernel
theorem dX11_hires_41 : decode cX11_hires 41 = .ok (.iload_n 2, 1) := by decide +kernel
theorem dX11_hires_42 : decode cX11_hires 42 = .ok (.aload_n 0, 1) := by decide +kernel
theorem dX11_hires_43 : decode cX11_hires 43 = .ok (.getfield 427, 3) := by decide +kernel
theorem dX11_hires_46 : decode cX11_hires 46 = .ok (.if_icmp .ge 38, 3) := by decide +kernel
theorem dX11_hires_49 : decode cX11_hires 49 = .ok (.aload_n 0, 1) := by decide +kernel
theorem dX11_hires_50 : decode cX11_hires 50 = .ok (.getfield 128, 3) := by decide +kernel
theorem dX11_hires_53 : decode cX11_hires 53 = .ok (.iload_n 2, 1) := by decide +kernel
theorem dX11_hires_54 : decode cX11_hires 54 = .ok (.iaload, 1) := by decide +kernel
theorem dX11_hires_55 : decode cX11_hires 55 = .ok (.iload_n 1, 1) := by decide +kernel
theorem dX11_hires_56 : decode cX11_hires 56 = .ok (.if_icmp .ne 22, 3) := by decide +kernel
theorem dX11_hires_59 : decode cX11_hires 59 = .ok (.aload_n 0, 1) := by decide +kernel
theorem dX11_hires_60 : decode cX11_hires 60 = .ok (.getfield 433, 3) := by decide +kernel
theorem dX11_hires_63 : decode cX11_hires 63 = .ok (.aload_n 0, 1) := by decide +kernel
theorem dX11_hires_64 : decode cX11_hires 64 = .ok (.getfield 427, 3) := by decide +kernel
theorem dX11_hires_67 : decode cX11_hires 67 = .ok (.iconst 1, 1) := by decide +kernel
theorem dX11_hires_68 : decode cX11_hires 68 = .ok (.isub, 1) := by decide +kernel
theorem dX11_hires_69 : decode cX11_hires 69 = .ok (.iload_n 2, 1) := by decide +kernel
theorem dX11_hires_70 : decode cX11_hires 70 = .ok (.isub, 1) := by decide +kernel
theorem dX11_hires_71 : decode cX11_hires 71 = .ok (.invokestatic 430, 3) := by decide +kernel
theorem dX11_hires_74 : decode cX11_hires 74 = .ok (.idiv, 1) := by decide +kernel
theorem dX11_hires_75 : decode cX11_hires 75 = .ok (.iconst 4, 1) := by decide +kernel
theorem dX11_hires_76 : decode cX11_hires 76 = .ok (.irem, 1) := by decide +kernel
theorem dX11_hires_77 : decode cX11_hires 77 = .ok (.ireturn, 1) := by decide +kernel
theorem dX11_hires_78 : decode cX11_hires 78 = .ok (.iinc 2 1, 3) := by decide +kernel
theorem dX11_hires_81 : decode cX11_hires 81 = .ok (.goto (-40), 3) := by decide +kernel
theorem dX11_hires_84 : decode cX11_hires 84 = .ok (.bipush (-2), 2) := by decide +kernel
theorem dX11_hires_86 : decode cX11_hires 86 = .ok (.ireturn, 1) := by decide +kernel
theorem dX11_isLong_0 : decode cX11_isLong 0 = .ok (.iload_n 0, 1) := by decide +kernel
theorem dX11_isLong_1 : decode cX11_isLong 1 = .ok (.iconst 0, 1) := by decide +kernel
theorem dX11_isLong_2 : decode cX11_isLong 2 = .ok (.bipush 60, 2) := by decide +kernel
theorem dX11_isLong_4 : decode cX11_isLong 4 = .ok (.invokestatic 316, 3) := by decide +kernel
theorem dX11_isLong_7 : decode cX11_isLong 7 = .ok (.ireturn, 1) := by decide +kernel
theorem dX11_then_0 : decode cX11_then 0 = .ok (.aload_n 0, 1) := by decide +kernel
theorem dX11_then_1 : decode cX11_then 1 = .ok (.iload_n 1, 1) := by decide +kernel
theorem dX11_then_2 : decode cX11_then 2 = .ok (.invokevirtual 393, 3) := by decide +kernel
theorem dX11_then_5 : decode cX11_then 5 = .ok (.ifCond .eq 10, 3) := by decide +kernel
theorem dX11_then_8 : decode cX11_then 8 = .ok (.iload_n 2, 1) := by decide +kernel
theorem dX11_then_9 : decode cX11_then 9 = .ok (.invokestatic 445, 3) := by decide +kernel
theorem dX11_then_12 : decode cX11_then 12 = .ok (.ifCond .ne 5, 3) := by decide +kernel
theorem dX11_then_15 : decode cX11_then 15 = .ok (.iconst (-1), 1) := by decide +kernel
theorem dX11_then_16 : decode cX11_then 16 = .ok (.ireturn, 1) := by decide +kernel
theorem dX11_then_17 : decode cX11_then 17 = .ok (.aload_n 0, 1) := by decide +kernel
theorem dX11_then_18 : decode cX11_then 18 = .ok (.invokevirtual 396, 3) := by decide +kernel
theorem dX11_then_21 : decode cX11_then 21 = .ok (.aload_n 0, 1) := by decide +kernel
theorem dX11_then_22 : decode cX11_then 22 = .ok (.iload_n 2, 1) := by decide +kernel
theorem dX11_then_23 : decode cX11_then 23 = .ok (.invokevirtual 409, 3) := by decide +kernel
theorem dX11_then_26 : decode cX11_then 26 = .ok (.aload_n 0, 1) := by decide +kernel
theorem dX11_then_27 : decode cX11_then 27 = .ok (.getfield 116, 3) := by decide +kernel
theorem dX11_then_30 : decode cX11_then 30 = .ok (.iload_n 1, 1) := by decide +kernel
theorem dX11_then_31 : decode cX11_then 31 = .ok (.iaload, 1) := by decide +kernel
theorem dX11_then_32 : decode cX11_then 32 = .ok (.ireturn, 1) := by decide +kernel
theorem dX11_paid_0 : decode cX11_paid 0 = .ok (.aload_n 0, 1) := by decide +kernel
theorem dX11_paid_1 : decode cX11_paid 1 = .ok (.iload_n 1, 1) := by decide +kernel
theorem dX11_paid_2 : decode cX11_paid 2 = .ok (.invokevirtual 402, 3) := by decide +kernel
theorem dX11_paid_5 : decode cX11_paid 5 = .ok (.ifCond .eq 19, 3) := by decide +kernel
theorem dX11_paid_8 : decode cX11_paid 8 = .ok (.iload_n 2, 1) := by decide +kernel
theorem dX11_paid_9 : decode cX11_paid 9 = .ok (.invokestatic 445, 3) := by decide +kernel
theorem dX11_paid_12 : decode cX11_paid 12 = .ok (.ifCond .eq 12, 3) := by decide +kernel
theorem dX11_paid_15 : decode cX11_paid 15 = .ok (.iload_n 3, 1) := by decide +kernel
theorem dX11_paid_16 : decode cX11_paid 16 = .ok (.iconst 0, 1) := by decide +kernel
theorem dX11_paid_17 : decode cX11_paid 17 = .ok (.iconst 2, 1) := by decide +kernel
theorem dX11_paid_18 : decode cX11_paid 18 = .ok (.invokestatic 316, 3) := by decide +kernel
theorem dX11_paid_21 : decode cX11_paid 21 = .ok (.ifCond .ne 7, 3) := by decide +kernel
theorem dX11_paid_24 : decode cX11_paid 24 = .ok (.ldc_w 405, 3) := by decide +kernel
theorem dX11_paid_27 : decode cX11_paid 27 = .ok (.ireturn, 1) := by decide +kernel
theorem dX11_paid_28 : decode cX11_paid 28 = .ok (.aload_n 0, 1) := by decide +kernel
theorem dX11_paid_29 : decode cX11_paid 29 = .ok (.invokevirtual 396, 3) := by decide +kernel
theorem dX11_paid_32 : decode cX11_paid 32 = .ok (.aload_n 0, 1) := by decide +kernel
theorem dX11_paid_33 : decode cX11_paid 33 = .ok (.iload_n 2, 1) := by decide +kernel
theorem dX11_paid_34 : decode cX11_paid 34 = .ok (.invokevirtual 409, 3) := by decide +kernel
theorem dX11_paid_37 : decode cX11_paid 37 = .ok (.iload_n 3, 1) := by decide +kernel
theorem dX11_paid_38 : decode cX11_paid 38 = .ok (.ifCond .ne 15, 3) := by decide +kernel
theorem dX11_paid_41 : decode cX11_paid 41 = .ok (.aload_n 0, 1) := by decide +kernel
theorem dX11_paid_42 : decode cX11_paid 42 = .ok (.getfield 116, 3) := by decide +kernel
theorem dX11_paid_45 : decode cX11_paid 45 = .ok (.bipush 36, 2) := by decide +kernel
theorem dX11_paid_47 : decode cX11_paid 47 = .ok (.iload_n 1, 1) := by decide +kernel
theorem dX11_paid_48 : decode cX11_paid 48 = .ok (.iadd, 1) := by decide +kernel
theorem dX11_paid_49 : decode cX11_paid 49 = .ok (.iaload, 1) := by decide +kernel
theorem dX11_paid_50 : decode cX11_paid 50 = .ok (.goto 16, 3) := by decide +kernel
theorem dX11_paid_53 : decode cX11_paid 53 = .ok (.aload_n 0, 1) := by decide +kernel
theorem dX11_paid_54 : decode cX11_paid 54 = .ok (.getfield 116, 3) := by decide +kernel
theorem dX11_paid_57 : decode cX11_paid 57 = .ok (.bipush 20, 2) := by decide +kernel
theorem dX11_paid_59 : decode cX11_paid 59 = .ok (.iconst 4, 1) := by decide +kernel
theorem dX11_paid_60 : decode cX11_paid 60 = .ok (.iload_n 3, 1) := by decide +kernel
theorem dX11_paid_61 : decode cX11_paid 61 = .ok (.imul, 1) := by decide +kernel
theorem dX11_paid_62 : decode cX11_paid 62 = .ok (.iadd, 1) := by decide +kernel
theorem dX11_paid_63 : decode cX11_paid 63 = .ok (.iload_n 1, 1) := by decide +kernel
theorem dX11_paid_64 : decode cX11_paid 64 = .ok (.iadd, 1) := by decide +kernel
theorem dX11_paid_65 : decode cX11_paid 65 = .ok (.iaload, 1) := by decide +kernel
theorem dX11_paid_66 : decode cX11_paid 66 = .ok (.ireturn, 1) := by decide +kernel
theorem dX11_parts_0 : decode cX11_parts 0 = .ok (.aload_n 0, 1) := by decide +kernel
theorem dX11_parts_1 : decode cX11_parts 1 = .ok (.iload_n 1, 1) := by decide +kernel
theorem dX11_parts_2 : decode cX11_parts 2 = .ok (.invokevirtual 399, 3) := by decide +kernel
theorem dX11_parts_5 : decode cX11_parts 5 = .ok (.ifCond .ne 5, 3) := by decide +kernel
theorem dX11_parts_8 : decode cX11_parts 8 = .ok (.iconst (-1), 1) := by decide +kernel
theorem dX11_parts_9 : decode cX11_parts 9 = .ok (.ireturn, 1) := by decide +kernel
theorem dX11_parts_10 : decode cX11_parts 10 = .ok (.aload_n 0, 1) := by decide +kernel
theorem dX11_parts_11 : decode cX11_parts 11 = .ok (.invokevirtual 396, 3) := by decide +kernel
theorem dX11_parts_14 : decode cX11_parts 14 = .ok (.iconst 0, 1) := by decide +kernel
theorem dX11_parts_15 : decode cX11_parts 15 = .ok (.istore_n 2, 1) := by decide +kernel
theorem dX11_parts_16 : decode cX11_parts 16 = .ok (.iload_n 2, 1) := by decide +kernel
theorem dX11_parts_17 : decode cX11_parts 17 = .ok (.sipush 200, 3) := by decide +kernel
theorem dX11_parts_20 : decode cX11_parts 20 = .ok (.if_icmp .gt 28, 3) := by decide +kernel
theorem dX11_parts_23 : decode cX11_parts 23 = .ok (.aload_n 0, 1) := by decide +kernel
theorem dX11_parts_24 : decode cX11_parts 24 = .ok (.getfield 116, 3) := by decide +kernel
theorem dX11_parts_27 : decode cX11_parts 27 = .ok (.bipush 15, 2) := by decide +kernel
theorem dX11_parts_29 : decode cX11_parts 29 = .ok (.iload_n 1, 1) := by decide +kernel
theorem dX11_parts_30 : decode cX11_parts 30 = .ok (.iadd, 1) := by decide +kernel
theorem dX11_parts_31 : decode cX11_parts 31 = .ok (.iaload, 1) := by decide +kernel
theorem dX11_parts_32 : decode cX11_parts 32 = .ok (.iconst 1, 1) := by decide +kernel
theorem dX11_parts_33 : decode cX11_parts 33 = .ok (.if_icmp .ne 5, 3) := by decide +kernel
theorem dX11_parts_36 : decode cX11_parts 36 = .ok (.iload_n 2, 1) := by decide +kernel
theorem dX11_parts_37 : decode cX11_parts 37 = .ok (.ireturn, 1) := by decide +kernel
theorem dX11_parts_38 : decode cX11_parts 38 = .ok (.aload_n 0, 1) := by decide +kernel
theorem dX11_parts_39 : decode cX11_parts 39 = .ok (.invokevirtual 390, 3) := by decide +kernel
theorem dX11_parts_42 : decode cX11_parts 42 = .ok (.iinc 2 1, 3) := by decide +kernel
theorem dX11_parts_45 : decode cX11_parts 45 = .ok (.goto (-29), 3) := by decide +kernel
theorem dX11_parts_48 : decode cX11_parts 48 = .ok (.bipush (-2), 2) := by decide +kernel
theorem dX11_parts_50 : decode cX11_parts 50 = .ok (.ireturn, 1) := by decide +kernel
theorem dX11_fillsPaid_0 : decode cX11_fillsPaid 0 = .ok (.aload_n 0, 1) := by decide +kernel
theorem dX11_fillsPaid_1 : decode cX11_fillsPaid 1 = .ok (.invokevirtual 396, 3) := by decide +kernel
theorem dX11_fillsPaid_4 : decode cX11_fillsPaid 4 = .ok (.iconst 0, 1) := by decide +kernel
theorem dX11_fillsPaid_5 : decode cX11_fillsPaid 5 = .ok (.istore_n 3, 1) := by decide +kernel
theorem dX11_fillsPaid_6 : decode cX11_fillsPaid 6 = .ok (.iload_n 3, 1) := by decide +kernel
theorem dX11_fillsPaid_7 : decode cX11_fillsPaid 7 = .ok (.iconst 4, 1) := by decide +kernel
theorem dX11_fillsPaid_8 : decode cX11_fillsPaid 8 = .ok (.if_icmp .ge 23, 3) := by decide +kernel
theorem dX11_fillsPaid_11 : decode cX11_fillsPaid 11 = .ok (.aload_n 0, 1) := by decide +kernel
theorem dX11_fillsPaid_12 : decode cX11_fillsPaid 12 = .ok (.getfield 116, 3) := by decide +kernel
theorem dX11_fillsPaid_15 : decode cX11_fillsPaid 15 = .ok (.bipush 32, 2) := by decide +kernel
theorem dX11_fillsPaid_17 : decode cX11_fillsPaid 17 = .ok (.iload_n 3, 1) := by decide +kernel
theorem dX11_fillsPaid_18 : decode cX11_fillsPaid 18 = .ok (.iadd, 1) := by decide +kernel
theorem dX11_fillsPaid_19 : decode cX11_fillsPaid 19 = .ok (.iload_n 1, 1) := by decide +kernel
theorem dX11_fillsPaid_20 : decode cX11_fillsPaid 20 = .ok (.iload_n 3, 1) := by decide +kernel
theorem dX11_fillsPaid_21 : decode cX11_fillsPaid 21 = .ok (.ishr, 1) := by decide +kernel
theorem dX11_fillsPaid_22 : decode cX11_fillsPaid 22 = .ok (.iconst 1, 1) := by decide +kernel
theorem dX11_fillsPaid_23 : decode cX11_fillsPaid 23 = .ok (.iand, 1) := by decide +kernel
theorem dX11_fillsPaid_24 : decode cX11_fillsPaid 24 = .ok (.iastore, 1) := by decide +kernel
theorem dX11_fillsPaid_25 : decode cX11_fillsPaid 25 = .ok (.iinc 3 1, 3) := by decide +kernel
theorem dX11_fillsPaid_28 : decode cX11_fillsPaid 28 = .ok (.goto (-22), 3) := by decide +kernel
theorem dX11_fillsPaid_31 : decode cX11_fillsPaid 31 = .ok (.aload_n 0, 1) := by decide +kernel
theorem dX11_fillsPaid_32 : decode cX11_fillsPaid 32 = .ok (.iload_n 2, 1) := by decide +kernel
theorem dX11_fillsPaid_33 : decode cX11_fillsPaid 33 = .ok (.invokevirtual 409, 3) := by decide +kernel
theorem dX11_fillsPaid_36 : decode cX11_fillsPaid 36 = .ok (.iconst 0, 1) := by decide +kernel
theorem dX11_fillsPaid_37 : decode cX11_fillsPaid 37 = .ok (.istore_n 3, 1) := by decide +kernel
theorem dX11_fillsPaid_38 : decode cX11_fillsPaid 38 = .ok (.iload_n 3, 1) := by decide +kernel
theorem dX11_fillsPaid_39 : decode cX11_fillsPaid 39 = .ok (.iconst 4, 1) := by decide +kernel
theorem dX11_fillsPaid_40 : decode cX11_fillsPaid 40 = .ok (.if_icmp .ge 28, 3) := by decide +kernel
theorem dX11_fillsPaid_43 : decode cX11_fillsPaid 43 = .ok (.aload_n 0, 1) := by decide +kernel
theorem dX11_fillsPaid_44 : decode cX11_fillsPaid 44 = .ok (.getfield 134, 3) := by decide +kernel
theorem dX11_fillsPaid_47 : decode cX11_fillsPaid 47 = .ok (.iconst 4, 1) := by decide +kernel
theorem dX11_fillsPaid_48 : decode cX11_fillsPaid 48 = .ok (.iload_n 1, 1) := by decide +kernel
theorem dX11_fillsPaid_49 : decode cX11_fillsPaid 49 = .ok (.imul, 1) := by decide +kernel
theorem dX11_fillsPaid_50 : decode cX11_fillsPaid 50 = .ok (.iload_n 3, 1) := by decide +kernel
theorem dX11_fillsPaid_51 : decode cX11_fillsPaid 51 = .ok (.iadd, 1) := by decide +kernel
theorem dX11_fillsPaid_52 : decode cX11_fillsPaid 52 = .ok (.aload_n 0, 1) := by decide +kernel
theorem dX11_fillsPaid_53 : decode cX11_fillsPaid 53 = .ok (.getfield 116, 3) := by decide +kernel
theorem dX11_fillsPaid_56 : decode cX11_fillsPaid 56 = .ok (.bipush 36, 2) := by decide +kernel
theorem dX11_fillsPaid_58 : decode cX11_fillsPaid 58 = .ok (.iload_n 3, 1) := by decide +kernel
theorem dX11_fillsPaid_59 : decode cX11_fillsPaid 59 = .ok (.iadd, 1) := by decide +kernel
theorem dX11_fillsPaid_60 : decode cX11_fillsPaid 60 = .ok (.iaload, 1) := by decide +kernel
theorem dX11_fillsPaid_61 : decode cX11_fillsPaid 61 = .ok (.iastore, 1) := by decide +kernel
theorem dX11_fillsPaid_62 : decode cX11_fillsPaid 62 = .ok (.iinc 3 1, 3) := by decide +kernel
theorem dX11_fillsPaid_65 : decode cX11_fillsPaid 65 = .ok (.goto (-27), 3) := by decide +kernel
theorem dX11_fillsPaid_68 : decode cX11_fillsPaid 68 = .ok (.return_, 1) := by decide +kernel
theorem dX11_isResting_0 : decode cX11_isResting 0 = .ok (.iconst 0, 1) := by decide +kernel
theorem dX11_isResting_1 : decode cX11_isResting 1 = .ok (.istore_n 2, 1) := by decide +kernel
theorem dX11_isResting_2 : decode cX11_isResting 2 = .ok (.iload_n 2, 1) := by decide +kernel
theorem dX11_isResting_3 : decode cX11_isResting 3 = .ok (.aload_n 0, 1) := by decide +kernel
theorem dX11_isResting_4 : decode cX11_isResting 4 = .ok (.getfield 61, 3) := by decide +kernel
theorem dX11_isResting_7 : decode cX11_isResting 7 = .ok (.aload_n 0, 1) := by decide +kernel
theorem dX11_isResting_8 : decode cX11_isResting 8 = .ok (.getfield 233, 3) := by decide +kernel
theorem dX11_isResting_11 : decode cX11_isResting 11 = .ok (.iaload, 1) := by decide +kernel
theorem dX11_isResting_12 : decode cX11_isResting 12 = .ok (.if_icmp .ge 38, 3) := by decide +kernel
theorem dX11_isResting_15 : decode cX11_isResting 15 = .ok (.aload_n 0, 1) := by decide +kernel
theorem dX11_isResting_16 : decode cX11_isResting 16 = .ok (.getfield 134, 3) := by decide +kernel
theorem dX11_isResting_19 : decode cX11_isResting 19 = .ok (.iconst 4, 1) := by decide +kernel
theorem dX11_isResting_20 : decode cX11_isResting 20 = .ok (.iload_n 1, 1) := by decide +kernel
theorem dX11_isResting_21 : decode cX11_isResting 21 = .ok (.iconst 1, 1) := by decide +kernel
theorem dX11_isResting_22 : decode cX11_isResting 22 = .ok (.iload_n 2, 1) := by decide +kernel
theorem dX11_isResting_23 : decode cX11_isResting 23 = .ok (.ishl, 1) := by decide +kernel
theorem dX11_isResting_24 : decode cX11_isResting 24 = .ok (.ixor, 1) := by decide +kernel
theorem dX11_isResting_25 : decode cX11_isResting 25 = .ok (.imul, 1) := by decide +kernel
theorem dX11_isResting_26 : decode cX11_isResting 26 = .ok (.iload_n 2, 1) := by decide +kernel
theorem dX11_isResting_27 : decode cX11_isResting 27 = .ok (.iadd, 1) := by decide +kernel
theorem dX11_isResting_28 : decode cX11_isResting 28 = .ok (.iaload, 1) := by decide +kernel
theorem dX11_isResting_29 : decode cX11_isResting 29 = .ok (.aload_n 0, 1) := by decide +kernel
theorem dX11_isResting_30 : decode cX11_isResting 30 = .ok (.getfield 134, 3) := by decide +kernel
theorem dX11_isResting_33 : decode cX11_isResting 33 = .ok (.iconst 4, 1) := by decide +kernel
theorem dX11_isResting_34 : decode cX11_isResting 34 = .ok (.iload_n 1, 1) := by decide +kernel
theorem dX11_isResting_35 : decode cX11_isResting 35 = .ok (.imul, 1) := by decide +kernel
theorem dX11_isResting_36 : decode cX11_isResting 36 = .ok (.iload_n 2, 1) := by decide +kernel
theorem dX11_isResting_37 : decode cX11_isResting 37 = .ok (.iadd, 1) := by decide +kernel
theorem dX11_isResting_38 : decode cX11_isResting 38 = .ok (.iaload, 1) := by decide +kernel
theorem dX11_isResting_39 : decode cX11_isResting 39 = .ok (.if_icmp .le 5, 3) := by decide +kernel
theorem dX11_isResting_42 : decode cX11_isResting 42 = .ok (.iconst 0, 1) := by decide +kernel
theorem dX11_isResting_43 : decode cX11_isResting 43 = .ok (.ireturn, 1) := by decide +kernel
theorem dX11_isResting_44 : decode cX11_isResting 44 = .ok (.iinc 2 1, 3) := by decide +kernel
theorem dX11_isResting_47 : decode cX11_isResting 47 = .ok (.goto (-45), 3) := by decide +kernel
theorem dX11_isResting_50 : decode cX11_isResting 50 = .ok (.iconst 1, 1) := by decide +kernel
theorem dX11_isResting_51 : decode cX11_isResting 51 = .ok (.ireturn, 1) := by decide +kernel
theorem dX11_oaths_0 : decode cX11_oaths 0 = .ok (.iload_n 1, 1) := by decide +kernel
theorem dX11_oaths_1 : decode cX11_oaths 1 = .ok (.iconst 1, 1) := by decide +kernel
theorem dX11_oaths_2 : decode cX11_oaths 2 = .ok (.bipush 24, 2) := by decide +kernel
theorem dX11_oaths_4 : decode cX11_oaths 4 = .ok (.invokestatic 316, 3) := by decide +kernel
theorem dX11_oaths_7 : decode cX11_oaths 7 = .ok (.ifCond .eq 8, 3) := by decide +kernel
theorem dX11_oaths_10 : decode cX11_oaths 10 = .ok (.iload_n 2, 1) := by decide +kernel
theorem dX11_oaths_11 : decode cX11_oaths 11 = .ok (.iconst (-1), 1) := by decide +kernel
theorem dX11_oaths_12 : decode cX11_oaths 12 = .ok (.if_icmp .ge 5, 3) := by decide +kernel
theorem dX11_oaths_15 : decode cX11_oaths 15 = .ok (.iconst (-1), 1) := by decide +kernel
theorem dX11_oaths_16 : decode cX11_oaths 16 = .ok (.ireturn, 1) := by decide +kernel
theorem dX11_oaths_17 : decode cX11_oaths 17 = .ok (.iconst 1, 1) := by decide +kernel
theorem dX11_oaths_18 : decode cX11_oaths 18 = .ok (.aload_n 0, 1) := by decide +kernel
theorem dX11_oaths_19 : decode cX11_oaths 19 = .ok (.getfield 61, 3) := by decide +kernel
theorem dX11_oaths_22 : decode cX11_oaths 22 = .ok (.aload_n 0, 1) := by decide +kernel
theorem dX11_oaths_23 : decode cX11_oaths 23 = .ok (.getfield 233, 3) := by decide +kernel
theorem dX11_oaths_26 : decode cX11_oaths 26 = .ok (.iaload, 1) := by decide +kernel
theorem dX11_oaths_27 : decode cX11_oaths 27 = .ok (.ishl, 1) := by decide +kernel
theorem dX11_oaths_28 : decode cX11_oaths 28 = .ok (.istore_n 3, 1) := by decide +kernel
theorem dX11_oaths_29 : decode cX11_oaths 29 = .ok (.iconst 0, 1) := by decide +kernel
theorem dX11_oaths_30 : decode cX11_oaths 30 = .ok (.istore 4, 2) := by decide +kernel
theorem dX11_oaths_32 : decode cX11_oaths 32 = .ok (.iload 4, 2) := by decide +kernel
theorem dX11_oaths_34 : decode cX11_oaths 34 = .ok (.iload_n 3, 1) := by decide +kernel
theorem dX11_oaths_35 : decode cX11_oaths 35 = .ok (.if_icmp .ge 16, 3) := by decide +kernel
theorem dX11_oaths_38 : decode cX11_oaths 38 = .ok (.aload_n 0, 1) := by decide +kernel
theorem dX11_oaths_39 : decode cX11_oaths 39 = .ok (.iload 4, 2) := by decide +kernel
theorem dX11_oaths_41 : decode cX11_oaths 41 = .ok (.iload_n 1, 1) := by decide +kernel
theorem dX11_oaths_42 : decode cX11_oaths 42 = .ok (.invokevirtual 448, 3) := by decide +kernel
theorem dX11_oaths_45 : decode cX11_oaths 45 = .ok (.iinc 4 1, 3) := by decide +kernel
theorem dX11_oaths_48 : decode cX11_oaths 48 = .ok (.goto (-16), 3) := by decide +kernel
theorem dX11_oaths_51 : decode cX11_oaths 51 = .ok (.iconst 0, 1) := by decide +kernel
theorem dX11_oaths_52 : decode cX11_oaths 52 = .ok (.istore 4, 2) := by decide +kernel
theorem dX11_oaths_54 : decode cX11_oaths 54 = .ok (.iconst 0, 1) := by decide +kernel
theorem dX11_oaths_55 : decode cX11_oaths 55 = .ok (.istore 5, 2) := by decide +kernel
theorem dX11_oaths_57 : decode cX11_oaths 57 = .ok (.iload 5, 2) := by decide +kernel
theorem dX11_oaths_59 : decode cX11_oaths 59 = .ok (.iload_n 3, 1) := by decide +kernel
theorem dX11_oaths_60 : decode cX11_oaths 60 = .ok (.if_icmp .ge 33, 3) := by decide +kernel
theorem dX11_oaths_63 : decode cX11_oaths 63 = .ok (.aload_n 0, 1) := by decide +kernel
theorem dX11_oaths_64 : decode cX11_oaths 64 = .ok (.iload 5, 2) := by decide +kernel
theorem dX11_oaths_66 : decode cX11_oaths 66 = .ok (.invokevirtual 451, 3) := by decide +kernel
theorem dX11_oaths_69 : decode cX11_oaths 69 = .ok (.ifCond .ne 6, 3) := by decide +kernel
theorem dX11_oaths_72 : decode cX11_oaths 72 = .ok (.goto 15, 3) := by decide +kernel
theorem dX11_oaths_75 : decode cX11_oaths 75 = .ok (.iload 4, 2) := by decide +kernel
theorem dX11_oaths_77 : decode cX11_oaths 77 = .ok (.iload_n 2, 1) := by decide +kernel
theorem dX11_oaths_78 : decode cX11_oaths 78 = .ok (.if_icmp .ne 6, 3) := by decide +kernel
theorem dX11_oaths_81 : decode cX11_oaths 81 = .ok (.iload 5, 2) := by decide +kernel
theorem dX11_oaths_83 : decode cX11_oaths 83 = .ok (.ireturn, 1) := by decide +kernel
theorem dX11_oaths_84 : decode cX11_oaths 84 = .ok (.iinc 4 1, 3) := by decide +kernel
theorem dX11_oaths_87 : decode cX11_oaths 87 = .ok (.iinc 5 1, 3) := by decide +kernel
theorem dX11_oaths_90 : decode cX11_oaths 90 = .ok (.goto (-33), 3) := by decide +kernel
theorem dX11_oaths_93 : decode cX11_oaths 93 = .ok (.iload_n 2, 1) := by decide +kernel
theorem dX11_oaths_94 : decode cX11_oaths 94 = .ok (.iconst (-1), 1) := by decide +kernel
theorem dX11_oaths_95 : decode cX11_oaths 95 = .ok (.if_icmp .ne 8, 3) := by decide +kernel
theorem dX11_oaths_98 : decode cX11_oaths 98 = .ok (.iload 4, 2) := by decide +kernel
theorem dX11_oaths_100 : decode cX11_oaths 100 = .ok (.goto 4, 3) := by decide +kernel
theorem dX11_oaths_103 : decode cX11_oaths 103 = .ok (.iconst (-1), 1) := by decide +kernel
theorem dX11_oaths_104 : decode cX11_oaths 104 = .ok (.ireturn, 1) := by decide +kernel
theorem dX11_year_0 : decode cX11_year 0 = .ok (.aload_n 0, 1) := by decide +kernel
theorem dX11_year_1 : decode cX11_year 1 = .ok (.iload_n 1, 1) := by decide +kernel
theorem dX11_year_2 : decode cX11_year 2 = .ok (.invokevirtual 399, 3) := by decide +kernel
theorem dX11_year_5 : decode cX11_year 5 = .ok (.ifCond .eq 20, 3) := by decide +kernel
theorem dX11_year_8 : decode cX11_year 8 = .ok (.iload_n 2, 1) := by decide +kernel
theorem dX11_year_9 : decode cX11_year 9 = .ok (.invokestatic 445, 3) := by decide +kernel
theorem dX11_year_12 : decode cX11_year 12 = .ok (.ifCond .eq 13, 3) := by decide +kernel
theorem dX11_year_15 : decode cX11_year 15 = .ok (.iload_n 3, 1) := by decide +kernel
theorem dX11_year_16 : decode cX11_year 16 = .ok (.iconst 1, 1) := by decide +kernel
theorem dX11_year_17 : decode cX11_year 17 = .ok (.bipush 20, 2) := by decide +kernel
theorem dX11_year_19 : decode cX11_year 19 = .ok (.invokestatic 316, 3) := by decide +kernel
theorem dX11_year_22 : decode cX11_year 22 = .ok (.ifCond .ne 5, 3) := by decide +kernel
theorem dX11_year_25 : decode cX11_year 25 = .ok (.iconst (-1), 1) := by decide +kernel
theorem dX11_year_26 : decode cX11_year 26 = .ok (.ireturn, 1) := by decide +kernel
theorem dX11_year_27 : decode cX11_year 27 = .ok (.iconst 0, 1) := by decide +kernel
theorem dX11_year_28 : decode cX11_year 28 = .ok (.istore 4, 2) := by decide +kernel
theorem dX11_year_30 : decode cX11_year 30 = .ok (.iconst 0, 1) := by decide +kernel
theorem dX11_year_31 : decode cX11_year 31 = .ok (.istore 5, 2) := by decide +kernel
theorem dX11_year_33 : decode cX11_year 33 = .ok (.iload 5, 2) := by decide +kernel
theorem dX11_year_35 : decode cX11_year 35 = .ok (.iload_n 3, 1) := by decide +kernel
theorem dX11_year_36 : decode cX11_year 36 = .ok (.if_icmp .ge 43, 3) := by decide +kernel
theorem dX11_year_39 : decode cX11_year 39 = .ok (.aload_n 0, 1) := by decide +kernel
theorem dX11_year_40 : decode cX11_year 40 = .ok (.invokevirtual 396, 3) := by decide +kernel
theorem dX11_year_43 : decode cX11_year 43 = .ok (.aload_n 0, 1) := by decide +kernel
theorem dX11_year_44 : decode cX11_year 44 = .ok (.dup, 1) := by decide +kernel
theorem dX11_year_45 : decode cX11_year 45 = .ok (.getfield 320, 3) := by decide +kernel
theorem dX11_year_48 : decode cX11_year 48 = .ok (.iload 5, 2) := by decide +kernel
theorem dX11_year_50 : decode cX11_year 50 = .ok (.iadd, 1) := by decide +kernel
theorem dX11_year_51 : decode cX11_year 51 = .ok (.putfield 320, 3) := by decide +kernel
theorem dX11_year_54 : decode cX11_year 54 = .ok (.aload_n 0, 1) := by decide +kernel
theorem dX11_year_55 : decode cX11_year 55 = .ok (.iload_n 2, 1) := by decide +kernel
theorem dX11_year_56 : decode cX11_year 56 = .ok (.invokevirtual 409, 3) := by decide +kernel
theorem dX11_year_59 : decode cX11_year 59 = .ok (.iload 4, 2) := by decide +kernel
theorem dX11_year_61 : decode cX11_year 61 = .ok (.aload_n 0, 1) := by decide +kernel
theorem dX11_year_62 : decode cX11_year 62 = .ok (.getfield 116, 3) := by decide +kernel
theorem dX11_year_65 : decode cX11_year 65 = .ok (.bipush 15, 2) := by decide +kernel
theorem dX11_year_67 : decode cX11_year 67 = .ok (.iload_n 1, 1) := by decide +kernel
theorem dX11_year_68 : decode cX11_year 68 = .ok (.iadd, 1) := by decide +kernel
theorem dX11_year_69 : decode cX11_year 69 = .ok (.iaload, 1) := by decide +kernel
theorem dX11_year_70 : decode cX11_year 70 = .ok (.iadd, 1) := by decide +kernel
theorem dX11_year_71 : decode cX11_year 71 = .ok (.istore 4, 2) := by decide +kernel
theorem dX11_year_73 : decode cX11_year 73 = .ok (.iinc 5 1, 3) := by decide +kernel
theorem dX11_year_76 : decode cX11_year 76 = .ok (.goto (-43), 3) := by decide +kernel
theorem dX11_year_79 : decode cX11_year 79 = .ok (.iload 4, 2) := by decide +kernel
theorem dX11_year_81 : decode cX11_year 81 = .ok (.ireturn, 1) := by decide +kernel
theorem dX11_tell_0 : decode cX11_tell 0 = .ok (.aload_n 0, 1) := by decide +kernel
theorem dX11_tell_1 : decode cX11_tell 1 = .ok (.getfield 254, 3) := by decide +kernel
theorem dX11_tell_4 : decode cX11_tell 4 = .ok (.bipush 20, 2) := by decide +kernel
theorem dX11_tell_6 : decode cX11_tell 6 = .ok (.if_icmp .eq 29, 3) := by decide +kernel
theorem dX11_tell_9 : decode cX11_tell 9 = .ok (.iload_n 1, 1) := by decide +kernel
theorem dX11_tell_10 : decode cX11_tell 10 = .ok (.iconst 0, 1) := by decide +kernel
theorem dX11_tell_11 : decode cX11_tell 11 = .ok (.bipush 7, 2) := by decide +kernel
theorem dX11_tell_13 : decode cX11_tell 13 = .ok (.invokestatic 316, 3) := by decide +kernel
theorem dX11_tell_16 : decode cX11_tell 16 = .ok (.ifCond .eq 19, 3) := by decide +kernel
theorem dX11_tell_19 : decode cX11_tell 19 = .ok (.iload_n 2, 1) := by decide +kernel
theorem dX11_tell_20 : decode cX11_tell 20 = .ok (.iconst 1, 1) := by decide +kernel
theorem dX11_tell_21 : decode cX11_tell 21 = .ok (.if_icmp .eq 16, 3) := by decide +kernel
theorem dX11_tell_24 : decode cX11_tell 24 = .ok (.iload_n 2, 1) := by decide +kernel
theorem dX11_tell_25 : decode cX11_tell 25 = .ok (.bipush 8, 2) := by decide +kernel
theorem dX11_tell_27 : decode cX11_tell 27 = .ok (.bipush 15, 2) := by decide +kernel
theorem dX11_tell_29 : decode cX11_tell 29 = .ok (.invokestatic 316, 3) := by decide +kernel
theorem dX11_tell_32 : decode cX11_tell 32 = .ok (.ifCond .ne 5, 3) := by decide +kernel
theorem dX11_tell_35 : decode cX11_tell 35 = .ok (.iconst (-1), 1) := by decide +kernel
theorem dX11_tell_36 : decode cX11_tell 36 = .ok (.ireturn, 1) := by decide +kernel
theorem dX11_tell_37 : decode cX11_tell 37 = .ok (.aload_n 0, 1) := by decide +kernel
theorem dX11_tell_38 : decode cX11_tell 38 = .ok (.getfield 137, 3) := by decide +kernel
theorem dX11_tell_41 : decode cX11_tell 41 = .ok (.aload_n 0, 1) := by decide +kernel
theorem dX11_tell_42 : decode cX11_tell 42 = .ok (.getfield 254, 3) := by decide +kernel
theorem dX11_tell_45 : decode cX11_tell 45 = .ok (.iload_n 1, 1) := by decide +kernel
theorem dX11_tell_46 : decode cX11_tell 46 = .ok (.iastore, 1) := by decide +kernel
theorem dX11_tell_47 : decode cX11_tell 47 = .ok (.aload_n 0, 1) := by decide +kernel
theorem dX11_tell_48 : decode cX11_tell 48 = .ok (.getfield 140, 3) := by decide +kernel
theorem dX11_tell_51 : decode cX11_tell 51 = .ok (.aload_n 0, 1) := by decide +kernel
theorem dX11_tell_52 : decode cX11_tell 52 = .ok (.getfield 254, 3) := by decide +kernel
theorem dX11_tell_55 : decode cX11_tell 55 = .ok (.iload_n 2, 1) := by decide +kernel
theorem dX11_tell_56 : decode cX11_tell 56 = .ok (.iconst 1, 1) := by decide +kernel
theorem dX11_tell_57 : decode cX11_tell 57 = .ok (.if_icmp .ne 8, 3) := by decide +kernel
theorem dX11_tell_60 : decode cX11_tell 60 = .ok (.bipush 8, 2) := by decide +kernel
theorem dX11_tell_62 : decode cX11_tell 62 = .ok (.goto 7, 3) := by decide +kernel
theorem dX11_tell_65 : decode cX11_tell 65 = .ok (.iload_n 2, 1) := by decide +kernel
theorem dX11_tell_66 : decode cX11_tell 66 = .ok (.bipush 8, 2) := by decide +kernel
theorem dX11_tell_68 : decode cX11_tell 68 = .ok (.isub, 1) := by decide +kernel
theorem dX11_tell_69 : decode cX11_tell 69 = .ok (.iastore, 1) := by decide +kernel
theorem dX11_tell_70 : decode cX11_tell 70 = .ok (.aload_n 0, 1) := by decide +kernel
theorem dX11_tell_71 : decode cX11_tell 71 = .ok (.dup, 1) := by decide +kernel
theorem dX11_tell_72 : decode cX11_tell 72 = .ok (.getfield 254, 3) := by decide +kernel
theorem dX11_tell_75 : decode cX11_tell 75 = .ok (.iconst 1, 1) := by decide +kernel
theorem dX11_tell_76 : decode cX11_tell 76 = .ok (.iadd, 1) := by decide +kernel
theorem dX11_tell_77 : decode cX11_tell 77 = .ok (.putfield 254, 3) := by decide +kernel
theorem dX11_tell_80 : decode cX11_tell 80 = .ok (.aload_n 0, 1) := by decide +kernel
theorem dX11_tell_81 : decode cX11_tell 81 = .ok (.getfield 254, 3) := by decide +kernel
theorem dX11_tell_84 : decode cX11_tell 84 = .ok (.iconst 1, 1) := by decide +kernel
theorem dX11_tell_85 : decode cX11_tell 85 = .ok (.isub, 1) := by decide +kernel
theorem dX11_tell_86 : decode cX11_tell 86 = .ok (.ireturn, 1) := by decide +kernel
theorem dX11_forget_0 : decode cX11_forget 0 = .ok (.aload_n 0, 1) := by decide +kernel
theorem dX11_forget_1 : decode cX11_forget 1 = .ok (.getfield 254, 3) := by decide +kernel
theorem dX11_forget_4 : decode cX11_forget 4 = .ok (.istore_n 1, 1) := by decide +kernel
theorem dX11_forget_5 : decode cX11_forget 5 = .ok (.aload_n 0, 1) := by decide +kernel
theorem dX11_forget_6 : decode cX11_forget 6 = .ok (.iconst 0, 1) := by decide +kernel
theorem dX11_forget_7 : decode cX11_forget 7 = .ok (.putfield 254, 3) := by decide +kernel
theorem dX11_forget_10 : decode cX11_forget 10 = .ok (.iload_n 1, 1) := by decide +kernel
theorem dX11_forget_11 : decode cX11_forget 11 = .ok (.ireturn, 1) := by decide +kernel
theorem dX11_whoMay_0 : decode cX11_whoMay 0 = .ok (.aload_n 0, 1) := by decide +kernel
theorem dX11_whoMay_1 : decode cX11_whoMay 1 = .ok (.invokevirtual 396, 3) := by decide +kernel
theorem dX11_whoMay_4 : decode cX11_whoMay 4 = .ok (.iconst 0, 1) := by decide +kernel
theorem dX11_whoMay_5 : decode cX11_whoMay 5 = .ok (.istore_n 2, 1) := by decide +kernel
theorem dX11_whoMay_6 : decode cX11_whoMay 6 = .ok (.iconst 0, 1) := by decide +kernel
theorem dX11_whoMay_7 : decode cX11_whoMay 7 = .ok (.istore_n 3, 1) := by decide +kernel
theorem dX11_whoMay_8 : decode cX11_whoMay 8 = .ok (.iload_n 3, 1) := by decide +kernel
theorem dX11_whoMay_9 : decode cX11_whoMay 9 = .ok (.aload_n 0, 1) := by decide +kernel
theorem dX11_whoMay_10 : decode cX11_whoMay 10 = .ok (.getfield 61, 3) := by decide +kernel
theorem dX11_whoMay_13 : decode cX11_whoMay 13 = .ok (.aload_n 0, 1) := by decide +kernel
theorem dX11_whoMay_14 : decode cX11_whoMay 14 = .ok (.getfield 233, 3) := by decide +kernel
theorem dX11_whoMay_17 : decode cX11_whoMay 17 = .ok (.iaload, 1) := by decide +kernel
theorem dX11_whoMay_18 : decode cX11_whoMay 18 = .ok (.if_icmp .ge 73, 3) := by decide +kernel
theorem dX11_whoMay_21 : decode cX11_whoMay 21 = .ok (.iconst 1, 1) := by decide +kernel
theorem dX11_whoMay_22 : decode cX11_whoMay 22 = .ok (.istore 4, 2) := by decide +kernel
theorem dX11_whoMay_24 : decode cX11_whoMay 24 = .ok (.iconst 0, 1) := by decide +kernel
theorem dX11_whoMay_25 : decode cX11_whoMay 25 = .ok (.istore 5, 2) := by decide +kernel
theorem dX11_whoMay_27 : decode cX11_whoMay 27 = .ok (.iload 5, 2) := by decide +kernel
theorem dX11_whoMay_29 : decode cX11_whoMay 29 = .ok (.iload_n 1, 1) := by decide +kernel
theorem dX11_whoMay_30 : decode cX11_whoMay 30 = .ok (.if_icmp .ge 44, 3) := by decide +kernel
theorem dX11_whoMay_33 : decode cX11_whoMay 33 = .ok (.iload 4, 2) := by decide +kernel
theorem dX11_whoMay_35 : decode cX11_whoMay 35 = .ok (.ifCond .eq 39, 3) := by decide +kernel
theorem dX11_whoMay_38 : decode cX11_whoMay 38 = .ok (.aload_n 0, 1) := by decide +kernel
theorem dX11_whoMay_39 : decode cX11_whoMay 39 = .ok (.iload_n 3, 1) := by decide +kernel
theorem dX11_whoMay_40 : decode cX11_whoMay 40 = .ok (.aload_n 0, 1) := by decide +kernel
theorem dX11_whoMay_41 : decode cX11_whoMay 41 = .ok (.getfield 137, 3) := by decide +kernel
theorem dX11_whoMay_44 : decode cX11_whoMay 44 = .ok (.iload 5, 2) := by decide +kernel
theorem dX11_whoMay_46 : decode cX11_whoMay 46 = .ok (.iaload, 1) := by decide +kernel
theorem dX11_whoMay_47 : decode cX11_whoMay 47 = .ok (.iconst 0, 1) := by decide +kernel
theorem dX11_whoMay_48 : decode cX11_whoMay 48 = .ok (.invokevirtual 357, 3) := by decide +kernel
theorem dX11_whoMay_51 : decode cX11_whoMay 51 = .ok (.aload_n 0, 1) := by decide +kernel
theorem dX11_whoMay_52 : decode cX11_whoMay 52 = .ok (.getfield 140, 3) := by decide +kernel
theorem dX11_whoMay_55 : decode cX11_whoMay 55 = .ok (.iload 5, 2) := by decide +kernel
theorem dX11_whoMay_57 : decode cX11_whoMay 57 = .ok (.iaload, 1) := by decide +kernel
theorem dX11_whoMay_58 : decode cX11_whoMay 58 = .ok (.if_icmp .ne 7, 3) := by decide +kernel
theorem dX11_whoMay_61 : decode cX11_whoMay 61 = .ok (.iconst 1, 1) := by decide +kernel
theorem dX11_whoMay_62 : decode cX11_whoMay 62 = .ok (.goto 4, 3) := by decide +kernel
theorem dX11_whoMay_65 : decode cX11_whoMay 65 = .ok (.iconst 0, 1) := by decide +kernel
theorem dX11_whoMay_66 : decode cX11_whoMay 66 = .ok (.istore 4, 2) := by decide +kernel
theorem dX11_whoMay_68 : decode cX11_whoMay 68 = .ok (.iinc 5 1, 3) := by decide +kernel
theorem dX11_whoMay_71 : decode cX11_whoMay 71 = .ok (.goto (-44), 3) := by decide +kernel
theorem dX11_whoMay_74 : decode cX11_whoMay 74 = .ok (.iload 4, 2) := by decide +kernel
theorem dX11_whoMay_76 : decode cX11_whoMay 76 = .ok (.ifCond .eq 9, 3) := by decide +kernel
theorem dX11_whoMay_79 : decode cX11_whoMay 79 = .ok (.iload_n 2, 1) := by decide +kernel
theorem dX11_whoMay_80 : decode cX11_whoMay 80 = .ok (.iconst 1, 1) := by decide +kernel
theorem dX11_whoMay_81 : decode cX11_whoMay 81 = .ok (.iload_n 3, 1) := by decide +kernel
theorem dX11_whoMay_82 : decode cX11_whoMay 82 = .ok (.ishl, 1) := by decide +kernel
theorem dX11_whoMay_83 : decode cX11_whoMay 83 = .ok (.ior, 1) := by decide +kernel
theorem dX11_whoMay_84 : decode cX11_whoMay 84 = .ok (.istore_n 2, 1) := by decide +kernel
theorem dX11_whoMay_85 : decode cX11_whoMay 85 = .ok (.iinc 3 1, 3) := by decide +kernel
theorem dX11_whoMay_88 : decode cX11_whoMay 88 = .ok (.goto (-80), 3) := by decide +kernel
theorem dX11_whoMay_91 : decode cX11_whoMay 91 = .ok (.iload_n 2, 1) := by decide +kernel
theorem dX11_whoMay_92 : decode cX11_whoMay 92 = .ok (.ireturn, 1) := by decide +kernel
theorem dX11_who_0 : decode cX11_who 0 = .ok (.iload_n 1, 1) := by decide +kernel
theorem dX11_who_1 : decode cX11_who 1 = .ok (.iconst 0, 1) := by decide +kernel
theorem dX11_who_2 : decode cX11_who 2 = .ok (.aload_n 0, 1) := by decide +kernel
theorem dX11_who_3 : decode cX11_who 3 = .ok (.getfield 254, 3) := by decide +kernel
theorem dX11_who_6 : decode cX11_who 6 = .ok (.invokestatic 316, 3) := by decide +kernel
theorem dX11_who_9 : decode cX11_who 9 = .ok (.ifCond .eq 11, 3) := by decide +kernel
theorem dX11_who_12 : decode cX11_who 12 = .ok (.aload_n 0, 1) := by decide +kernel
theorem dX11_who_13 : decode cX11_who 13 = .ok (.iload_n 1, 1) := by decide +kernel
theorem dX11_who_14 : decode cX11_who 14 = .ok (.invokevirtual 454, 3) := by decide +kernel
theorem dX11_who_17 : decode cX11_who 17 = .ok (.goto 4, 3) := by decide +kernel
theorem dX11_who_20 : decode cX11_who 20 = .ok (.iconst (-1), 1) := by decide +kernel
theorem dX11_who_21 : decode cX11_who 21 = .ok (.ireturn, 1) := by decide +kernel
theorem dX11_worstOf_0 : decode cX11_worstOf 0 = .ok (.iconst 0, 1) := by decide +kernel
theorem dX11_worstOf_1 : decode cX11_worstOf 1 = .ok (.istore_n 3, 1) := by decide +kernel
theorem dX11_worstOf_2 : decode cX11_worstOf 2 = .ok (.iload_n 3, 1) := by decide +kernel
theorem dX11_worstOf_3 : decode cX11_worstOf 3 = .ok (.bipush 9, 2) := by decide +kernel
theorem dX11_worstOf_5 : decode cX11_worstOf 5 = .ok (.if_icmp .ge 16, 3) := by decide +kernel
theorem dX11_worstOf_8 : decode cX11_worstOf 8 = .ok (.aload_n 0, 1) := by decide +kernel
theorem dX11_worstOf_9 : decode cX11_worstOf 9 = .ok (.getfield 143, 3) := by decide +kernel
theorem dX11_worstOf_12 : decode cX11_worstOf 12 = .ok (.iload_n 3, 1) := by decide +kernel
theorem dX11_worstOf_13 : decode cX11_worstOf 13 = .ok (.iconst 0, 1) := by decide +kernel
theorem dX11_worstOf_14 : decode cX11_worstOf 14 = .ok (.iastore, 1) := by decide +kernel
theorem dX11_worstOf_15 : decode cX11_worstOf 15 = .ok (.iinc 3 1, 3) := by decide +kernel
theorem dX11_worstOf_18 : decode cX11_worstOf 18 = .ok (.goto (-16), 3) := by decide +kernel
theorem dX11_worstOf_21 : decode cX11_worstOf 21 = .ok (.iconst 0, 1) := by decide +kernel
theorem dX11_worstOf_22 : decode cX11_worstOf 22 = .ok (.istore_n 3, 1) := by decide +kernel
theorem dX11_worstOf_23 : decode cX11_worstOf 23 = .ok (.iload_n 3, 1) := by decide +kernel
theorem dX11_worstOf_24 : decode cX11_worstOf 24 = .ok (.aload_n 0, 1) := by decide +kernel
theorem dX11_worstOf_25 : decode cX11_worstOf 25 = .ok (.getfield 61, 3) := by decide +kernel
theorem dX11_worstOf_28 : decode cX11_worstOf 28 = .ok (.aload_n 0, 1) := by decide +kernel
theorem dX11_worstOf_29 : decode cX11_worstOf 29 = .ok (.getfield 233, 3) := by decide +kernel
theorem dX11_worstOf_32 : decode cX11_worstOf 32 = .ok (.iaload, 1) := by decide +kernel
theorem dX11_worstOf_33 : decode cX11_worstOf 33 = .ok (.if_icmp .ge 34, 3) := by decide +kernel
theorem dX11_worstOf_36 : decode cX11_worstOf 36 = .ok (.iload_n 1, 1) := by decide +kernel
theorem dX11_worstOf_37 : decode cX11_worstOf 37 = .ok (.iload_n 3, 1) := by decide +kernel
theorem dX11_worstOf_38 : decode cX11_worstOf 38 = .ok (.ishr, 1) := by decide +kernel
theorem dX11_worstOf_39 : decode cX11_worstOf 39 = .ok (.iconst 1, 1) := by decide +kernel
theorem dX11_worstOf_40 : decode cX11_worstOf 40 = .ok (.iand, 1) := by decide +kernel
theorem dX11_worstOf_41 : decode cX11_worstOf 41 = .ok (.iconst 1, 1) := by decide +kernel
theorem dX11_worstOf_42 : decode cX11_worstOf 42 = .ok (.if_icmp .ne 19, 3) := by decide +kernel
theorem dX11_worstOf_45 : decode cX11_worstOf 45 = .ok (.aload_n 0, 1) := by decide +kernel
theorem dX11_worstOf_46 : decode cX11_worstOf 46 = .ok (.getfield 143, 3) := by decide +kernel
theorem dX11_worstOf_49 : decode cX11_worstOf 49 = .ok (.aload_n 0, 1) := by decide +kernel
theorem dX11_worstOf_50 : decode cX11_worstOf 50 = .ok (.iload_n 3, 1) := by decide +kernel
theorem dX11_worstOf_51 : decode cX11_worstOf 51 = .ok (.iload_n 2, 1) := by decide +kernel
theorem dX11_worstOf_52 : decode cX11_worstOf 52 = .ok (.iconst 0, 1) := by decide +kernel
theorem dX11_worstOf_53 : decode cX11_worstOf 53 = .ok (.invokevirtual 357, 3) := by decide +kernel
theorem dX11_worstOf_56 : decode cX11_worstOf 56 = .ok (.dup2, 1) := by decide +kernel
theorem dX11_worstOf_57 : decode cX11_worstOf 57 = .ok (.iaload, 1) := by decide +kernel
theorem dX11_worstOf_58 : decode cX11_worstOf 58 = .ok (.iconst 1, 1) := by decide +kernel
theorem dX11_worstOf_59 : decode cX11_worstOf 59 = .ok (.iadd, 1) := by decide +kernel
theorem dX11_worstOf_60 : decode cX11_worstOf 60 = .ok (.iastore, 1) := by decide +kernel
theorem dX11_worstOf_61 : decode cX11_worstOf 61 = .ok (.iinc 3 1, 3) := by decide +kernel
theorem dX11_worstOf_64 : decode cX11_worstOf 64 = .ok (.goto (-41), 3) := by decide +kernel
theorem dX11_worstOf_67 : decode cX11_worstOf 67 = .ok (.iconst 0, 1) := by decide +kernel
theorem dX11_worstOf_68 : decode cX11_worstOf 68 = .ok (.istore_n 3, 1) := by decide +kernel
theorem dX11_worstOf_69 : decode cX11_worstOf 69 = .ok (.iconst 0, 1) := by decide +kernel
theorem dX11_worstOf_70 : decode cX11_worstOf 70 = .ok (.istore 4, 2) := by decide +kernel
theorem dX11_worstOf_72 : decode cX11_worstOf 72 = .ok (.iload 4, 2) := by decide +kernel
theorem dX11_worstOf_74 : decode cX11_worstOf 74 = .ok (.bipush 9, 2) := by decide +kernel
theorem dX11_worstOf_76 : decode cX11_worstOf 76 = .ok (.if_icmp .ge 28, 3) := by decide +kernel
theorem dX11_worstOf_79 : decode cX11_worstOf 79 = .ok (.aload_n 0, 1) := by decide +kernel
theorem dX11_worstOf_80 : decode cX11_worstOf 80 = .ok (.getfield 143, 3) := by decide +kernel
theorem dX11_worstOf_83 : decode cX11_worstOf 83 = .ok (.iload 4, 2) := by decide +kernel
theorem dX11_worstOf_85 : decode cX11_worstOf 85 = .ok (.iaload, 1) := by decide +kernel
theorem dX11_worstOf_86 : decode cX11_worstOf 86 = .ok (.iload_n 3, 1) := by decide +kernel
theorem dX11_worstOf_87 : decode cX11_worstOf 87 = .ok (.if_icmp .le 11, 3) := by decide +kernel
theorem dX11_worstOf_90 : decode cX11_worstOf 90 = .ok (.aload_n 0, 1) := by decide +kernel
theorem dX11_worstOf_91 : decode cX11_worstOf 91 = .ok (.getfield 143, 3) := by decide +kernel
theorem dX11_worstOf_94 : decode cX11_worstOf 94 = .ok (.iload 4, 2) := by decide +kernel
theorem dX11_worstOf_96 : decode cX11_worstOf 96 = .ok (.iaload, 1) := by decide +kernel
theorem dX11_worstOf_97 : decode cX11_worstOf 97 = .ok (.istore_n 3, 1) := by decide +kernel
theorem dX11_worstOf_98 : decode cX11_worstOf 98 = .ok (.iinc 4 1, 3) := by decide +kernel
theorem dX11_worstOf_101 : decode cX11_worstOf 101 = .ok (.goto (-29), 3) := by decide +kernel
theorem dX11_worstOf_104 : decode cX11_worstOf 104 = .ok (.iload_n 3, 1) := by decide +kernel
theorem dX11_worstOf_105 : decode cX11_worstOf 105 = .ok (.ireturn, 1) := by decide +kernel
theorem dX11_ask_0 : decode cX11_ask 0 = .ok (.iload_n 1, 1) := by decide +kernel
theorem dX11_ask_1 : decode cX11_ask 1 = .ok (.iconst 0, 1) := by decide +kernel
theorem dX11_ask_2 : decode cX11_ask 2 = .ok (.aload_n 0, 1) := by decide +kernel
theorem dX11_ask_3 : decode cX11_ask 3 = .ok (.getfield 254, 3) := by decide +kernel
theorem dX11_ask_6 : decode cX11_ask 6 = .ok (.invokestatic 316, 3) := by decide +kernel
theorem dX11_ask_9 : decode cX11_ask 9 = .ok (.ifCond .ne 5, 3) := by decide +kernel
theorem dX11_ask_12 : decode cX11_ask 12 = .ok (.iconst (-1), 1) := by decide +kernel
theorem dX11_ask_13 : decode cX11_ask 13 = .ok (.ireturn, 1) := by decide +kernel
theorem dX11_ask_14 : decode cX11_ask 14 = .ok (.aload_n 0, 1) := by decide +kernel
theorem dX11_ask_15 : decode cX11_ask 15 = .ok (.iload_n 1, 1) := by decide +kernel
theorem dX11_ask_16 : decode cX11_ask 16 = .ok (.invokevirtual 454, 3) := by decide +kernel
theorem dX11_ask_19 : decode cX11_ask 19 = .ok (.istore_n 2, 1) := by decide +kernel
theorem dX11_ask_20 : decode cX11_ask 20 = .ok (.iload_n 2, 1) := by decide +kernel
theorem dX11_ask_21 : decode cX11_ask 21 = .ok (.ifCond .ne 6, 3) := by decide +kernel
theorem dX11_ask_24 : decode cX11_ask 24 = .ok (.bipush (-2), 2) := by decide +kernel
theorem dX11_ask_26 : decode cX11_ask 26 = .ok (.ireturn, 1) := by decide +kernel
theorem dX11_ask_27 : decode cX11_ask 27 = .ok (.iconst 0, 1) := by decide +kernel
theorem dX11_ask_28 : decode cX11_ask 28 = .ok (.istore_n 3, 1) := by decide +kernel
theorem dX11_ask_29 : decode cX11_ask 29 = .ok (.iconst 1, 1) := by decide +kernel
theorem dX11_ask_30 : decode cX11_ask 30 = .ok (.istore 4, 2) := by decide +kernel
theorem dX11_ask_32 : decode cX11_ask 32 = .ok (.iload 4, 2) := by decide +kernel
theorem dX11_ask_34 : decode cX11_ask 34 = .ok (.bipush 8, 2) := by decide +kernel
theorem dX11_ask_36 : decode cX11_ask 36 = .ok (.if_icmp .ge 28, 3) := by decide +kernel
theorem dX11_ask_39 : decode cX11_ask 39 = .ok (.aload_n 0, 1) := by decide +kernel
theorem dX11_ask_40 : decode cX11_ask 40 = .ok (.iload_n 2, 1) := by decide +kernel
theorem dX11_ask_41 : decode cX11_ask 41 = .ok (.iload 4, 2) := by decide +kernel
theorem dX11_ask_43 : decode cX11_ask 43 = .ok (.invokevirtual 457, 3) := by decide +kernel
theorem dX11_ask_46 : decode cX11_ask 46 = .ok (.aload_n 0, 1) := by decide +kernel
theorem dX11_ask_47 : decode cX11_ask 47 = .ok (.iload_n 2, 1) := by decide +kernel
theorem dX11_ask_48 : decode cX11_ask 48 = .ok (.iload_n 3, 1) := by decide +kernel
theorem dX11_ask_49 : decode cX11_ask 49 = .ok (.invokevirtual 457, 3) := by decide +kernel
theorem dX11_ask_52 : decode cX11_ask 52 = .ok (.if_icmp .ge 6, 3) := by decide +kernel
theorem dX11_ask_55 : decode cX11_ask 55 = .ok (.iload 4, 2) := by decide +kernel
theorem dX11_ask_57 : decode cX11_ask 57 = .ok (.istore_n 3, 1) := by decide +kernel
theorem dX11_ask_58 : decode cX11_ask 58 = .ok (.iinc 4 1, 3) := by decide +kernel
theorem dX11_ask_61 : decode cX11_ask 61 = .ok (.goto (-29), 3) := by decide +kernel
theorem dX11_ask_64 : decode cX11_ask 64 = .ok (.iload_n 3, 1) := by decide +kernel
theorem dX11_ask_65 : decode cX11_ask 65 = .ok (.ireturn, 1) := by decide +kernel
theorem dX11_hold_0 : decode cX11_hold 0 = .ok (.iload_n 1, 1) := by decide +kernel
theorem dX11_hold_1 : decode cX11_hold 1 = .ok (.iconst 0, 1) := by decide +kernel
theorem dX11_hold_2 : decode cX11_hold 2 = .ok (.iconst 2, 1) := by decide +kernel
theorem dX11_hold_3 : decode cX11_hold 3 = .ok (.invokestatic 316, 3) := by decide +kernel
theorem dX11_hold_6 : decode cX11_hold 6 = .ok (.ifCond .ne 5, 3) := by decide +kernel
theorem dX11_hold_9 : decode cX11_hold 9 = .ok (.iconst 0, 1) := by decide +kernel
theorem dX11_hold_10 : decode cX11_hold 10 = .ok (.ireturn, 1) := by decide +kernel
theorem dX11_hold_11 : decode cX11_hold 11 = .ok (.aload_n 0, 1) := by decide +kernel
theorem dX11_hold_12 : decode cX11_hold 12 = .ok (.getfield 146, 3) := by decide +kernel
theorem dX11_hold_15 : decode cX11_hold 15 = .ok (.iload_n 1, 1) := by decide +kernel
theorem dX11_hold_16 : decode cX11_hold 16 = .ok (.iconst 1, 1) := by decide +kernel
theorem dX11_hold_17 : decode cX11_hold 17 = .ok (.bastore, 1) := by decide +kernel
theorem dX11_hold_18 : decode cX11_hold 18 = .ok (.iconst 0, 1) := by decide +kernel
theorem dX11_hold_19 : decode cX11_hold 19 = .ok (.istore_n 2, 1) := by decide +kernel
theorem dX11_hold_20 : decode cX11_hold 20 = .ok (.iload_n 2, 1) := by decide +kernel
theorem dX11_hold_21 : decode cX11_hold 21 = .ok (.bipush 48, 2) := by decide +kernel
theorem dX11_hold_23 : decode cX11_hold 23 = .ok (.if_icmp .ge 26, 3) := by decide +kernel
theorem dX11_hold_26 : decode cX11_hold 26 = .ok (.aload_n 0, 1) := by decide +kernel
theorem dX11_hold_27 : decode cX11_hold 27 = .ok (.getfield 149, 3) := by decide +kernel
theorem dX11_hold_30 : decode cX11_hold 30 = .ok (.bipush 48, 2) := by decide +kernel
theorem dX11_hold_32 : decode cX11_hold 32 = .ok (.iload_n 1, 1) := by decide +kernel
theorem dX11_hold_33 : decode cX11_hold 33 = .ok (.imul, 1) := by decide +kernel
theorem dX11_hold_34 : decode cX11_hold 34 = .ok (.iload_n 2, 1) := by decide +kernel
theorem dX11_hold_35 : decode cX11_hold 35 = .ok (.iadd, 1) := by decide +kernel
theorem dX11_hold_36 : decode cX11_hold 36 = .ok (.aload_n 0, 1) := by decide +kernel
theorem dX11_hold_37 : decode cX11_hold 37 = .ok (.getfield 113, 3) := by decide +kernel
theorem dX11_hold_40 : decode cX11_hold 40 = .ok (.iload_n 2, 1) := by decide +kernel
theorem dX11_hold_41 : decode cX11_hold 41 = .ok (.iaload, 1) := by decide +kernel
theorem dX11_hold_42 : decode cX11_hold 42 = .ok (.iastore, 1) := by decide +kernel
theorem dX11_hold_43 : decode cX11_hold 43 = .ok (.iinc 2 1, 3) := by decide +kernel
theorem dX11_hold_46 : decode cX11_hold 46 = .ok (.goto (-26), 3) := by decide +kernel
theorem dX11_hold_49 : decode cX11_hold 49 = .ok (.iconst 1, 1) := by decide +kernel
theorem dX11_hold_50 : decode cX11_hold 50 = .ok (.ireturn, 1) := by decide +kernel
theorem dX11_restore_0 : decode cX11_restore 0 = .ok (.iload_n 1, 1) := by decide +kernel
theorem dX11_restore_1 : decode cX11_restore 1 = .ok (.iconst 0, 1) := by decide +kernel
theorem dX11_restore_2 : decode cX11_restore 2 = .ok (.iconst 2, 1) := by decide +kernel
theorem dX11_restore_3 : decode cX11_restore 3 = .ok (.invokestatic 316, 3) := by decide +kernel
theorem dX11_restore_6 : decode cX11_restore 6 = .ok (.ifCond .eq 12, 3) := by decide +kernel
theorem dX11_restore_9 : decode cX11_restore 9 = .ok (.aload_n 0, 1) := by decide +kernel
theorem dX11_restore_10 : decode cX11_restore 10 = .ok (.getfield 146, 3) := by decide +kernel
theorem dX11_restore_13 : decode cX11_restore 13 = .ok (.iload_n 1, 1) := by decide +kernel
theorem dX11_restore_14 : decode cX11_restore 14 = .ok (.baload, 1) := by decide +kernel
theorem dX11_restore_15 : decode cX11_restore 15 = .ok (.ifCond .ne 5, 3) := by decide +kernel
theorem dX11_restore_18 : decode cX11_restore 18 = .ok (.iconst 0, 1) := by decide +kernel
theorem dX11_restore_19 : decode cX11_restore 19 = .ok (.ireturn, 1) := by decide +kernel
theorem dX11_restore_20 : decode cX11_restore 20 = .ok (.iconst 0, 1) := by decide +kernel
theorem dX11_restore_21 : decode cX11_restore 21 = .ok (.istore_n 2, 1) := by decide +kernel
theorem dX11_restore_22 : decode cX11_restore 22 = .ok (.iload_n 2, 1) := by decide +kernel
theorem dX11_restore_23 : decode cX11_restore 23 = .ok (.bipush 48, 2) := by decide +kernel
theorem dX11_restore_25 : decode cX11_restore 25 = .ok (.if_icmp .ge 26, 3) := by decide +kernel
theorem dX11_restore_28 : decode cX11_restore 28 = .ok (.aload_n 0, 1) := by decide +kernel
theorem dX11_restore_29 : decode cX11_restore 29 = .ok (.getfield 113, 3) := by decide +kernel
theorem dX11_restore_32 : decode cX11_restore 32 = .ok (.iload_n 2, 1) := by decide +kernel
theorem dX11_restore_33 : decode cX11_restore 33 = .ok (.aload_n 0, 1) := by decide +kernel
theorem dX11_restore_34 : decode cX11_restore 34 = .ok (.getfield 149, 3) := by decide +kernel
theorem dX11_restore_37 : decode cX11_restore 37 = .ok (.bipush 48, 2) := by decide +kernel
theorem dX11_restore_39 : decode cX11_restore 39 = .ok (.iload_n 1, 1) := by decide +kernel
theorem dX11_restore_40 : decode cX11_restore 40 = .ok (.imul, 1) := by decide +kernel
theorem dX11_restore_41 : decode cX11_restore 41 = .ok (.iload_n 2, 1) := by decide +kernel
theorem dX11_restore_42 : decode cX11_restore 42 = .ok (.iadd, 1) := by decide +kernel
theorem dX11_restore_43 : decode cX11_restore 43 = .ok (.iaload, 1) := by decide +kernel
theorem dX11_restore_44 : decode cX11_restore 44 = .ok (.iastore, 1) := by decide +kernel
theorem dX11_restore_45 : decode cX11_restore 45 = .ok (.iinc 2 1, 3) := by decide +kernel
theorem dX11_restore_48 : decode cX11_restore 48 = .ok (.goto (-26), 3) := by decide +kernel
theorem dX11_restore_51 : decode cX11_restore 51 = .ok (.aload_n 0, 1) := by decide +kernel
theorem dX11_restore_52 : decode cX11_restore 52 = .ok (.iconst 0, 1) := by decide +kernel
theorem dX11_restore_53 : decode cX11_restore 53 = .ok (.putfield 251, 3) := by decide +kernel
theorem dX11_restore_56 : decode cX11_restore 56 = .ok (.iconst 1, 1) := by decide +kernel
theorem dX11_restore_57 : decode cX11_restore 57 = .ok (.ireturn, 1) := by decide +kernel
theorem dX11_sumNow_0 : decode cX11_sumNow 0 = .ok (.iconst 0, 1) := by decide +kernel
theorem dX11_sumNow_1 : decode cX11_sumNow 1 = .ok (.istore_n 3, 1) := by decide +kernel
theorem dX11_sumNow_2 : decode cX11_sumNow 2 = .ok (.iload_n 1, 1) := by decide +kernel
theorem dX11_sumNow_3 : decode cX11_sumNow 3 = .ok (.istore 4, 2) := by decide +kernel
theorem dX11_sumNow_5 : decode cX11_sumNow 5 = .ok (.iload 4, 2) := by decide +kernel
theorem dX11_sumNow_7 : decode cX11_sumNow 7 = .ok (.iload_n 1, 1) := by decide +kernel
theorem dX11_sumNow_8 : decode cX11_sumNow 8 = .ok (.iload_n 2, 1) := by decide +kernel
theorem dX11_sumNow_9 : decode cX11_sumNow 9 = .ok (.iadd, 1) := by decide +kernel
theorem dX11_sumNow_10 : decode cX11_sumNow 10 = .ok (.if_icmp .ge 19, 3) := by decide +kernel
theorem dX11_sumNow_13 : decode cX11_sumNow 13 = .ok (.iload_n 3, 1) := by decide +kernel
theorem dX11_sumNow_14 : decode cX11_sumNow 14 = .ok (.aload_n 0, 1) := by decide +kernel
theorem dX11_sumNow_15 : decode cX11_sumNow 15 = .ok (.getfield 113, 3) := by decide +kernel
theorem dX11_sumNow_18 : decode cX11_sumNow 18 = .ok (.iload 4, 2) := by decide +kernel
theorem dX11_sumNow_20 : decode cX11_sumNow 20 = .ok (.iaload, 1) := by decide +kernel
theorem dX11_sumNow_21 : decode cX11_sumNow 21 = .ok (.iadd, 1) := by decide +kernel
theorem dX11_sumNow_22 : decode cX11_sumNow 22 = .ok (.istore_n 3, 1) := by decide +kernel
theorem dX11_sumNow_23 : decode cX11_sumNow 23 = .ok (.iinc 4 1, 3) := by decide +kernel
theorem dX11_sumNow_26 : decode cX11_sumNow 26 = .ok (.goto (-21), 3) := by decide +kernel
theorem dX11_sumNow_29 : decode cX11_sumNow 29 = .ok (.iload_n 3, 1) := by decide +kernel
theorem dX11_sumNow_30 : decode cX11_sumNow 30 = .ok (.ireturn, 1) := by decide +kernel
theorem dX11_bitsNow_0 : decode cX11_bitsNow 0 = .ok (.iconst 0, 1) := by decide +kernel
theorem dX11_bitsNow_1 : decode cX11_bitsNow 1 = .ok (.istore_n 3, 1) := by decide +kernel
theorem dX11_bitsNow_2 : decode cX11_bitsNow 2 = .ok (.iconst 0, 1) := by decide +kernel
theorem dX11_bitsNow_3 : decode cX11_bitsNow 3 = .ok (.istore 4, 2) := by decide +kernel
theorem dX11_bitsNow_5 : decode cX11_bitsNow 5 = .ok (.iload 4, 2) := by decide +kernel
theorem dX11_bitsNow_7 : decode cX11_bitsNow 7 = .ok (.iload_n 2, 1) := by decide +kernel
theorem dX11_bitsNow_8 : decode cX11_bitsNow 8 = .ok (.if_icmp .ge 29, 3) := by decide +kernel
theorem dX11_bitsNow_11 : decode cX11_bitsNow 11 = .ok (.aload_n 0, 1) := by decide +kernel
theorem dX11_bitsNow_12 : decode cX11_bitsNow 12 = .ok (.getfield 113, 3) := by decide +kernel
theorem dX11_bitsNow_15 : decode cX11_bitsNow 15 = .ok (.iload_n 1, 1) := by decide +kernel
theorem dX11_bitsNow_16 : decode cX11_bitsNow 16 = .ok (.iload 4, 2) := by decide +kernel
theorem dX11_bitsNow_18 : decode cX11_bitsNow 18 = .ok (.iadd, 1) := by decide +kernel
theorem dX11_bitsNow_19 : decode cX11_bitsNow 19 = .ok (.iaload, 1) := by decide +kernel
theorem dX11_bitsNow_20 : decode cX11_bitsNow 20 = .ok (.iconst 1, 1) := by decide +kernel
theorem dX11_bitsNow_21 : decode cX11_bitsNow 21 = .ok (.if_icmp .ne 10, 3) := by decide +kernel
theorem dX11_bitsNow_24 : decode cX11_bitsNow 24 = .ok (.iload_n 3, 1) := by decide +kernel
theorem dX11_bitsNow_25 : decode cX11_bitsNow 25 = .ok (.iconst 1, 1) := by decide +kernel
theorem dX11_bitsNow_26 : decode cX11_bitsNow 26 = .ok (.iload 4, 2) := by decide +kernel
theorem dX11_bitsNow_28 : decode cX11_bitsNow 28 = .ok (.ishl, 1) := by decide +kernel
theorem dX11_bitsNow_29 : decode cX11_bitsNow 29 = .ok (.ior, 1) := by decide +kernel
theorem dX11_bitsNow_30 : decode cX11_bitsNow 30 = .ok (.istore_n 3, 1) := by decide +kernel
theorem dX11_bitsNow_31 : decode cX11_bitsNow 31 = .ok (.iinc 4 1, 3) := by decide +kernel
theorem dX11_bitsNow_34 : decode cX11_bitsNow 34 = .ok (.goto (-29), 3) := by decide +kernel
theorem dX11_bitsNow_37 : decode cX11_bitsNow 37 = .ok (.iload_n 3, 1) := by decide +kernel
theorem dX11_bitsNow_38 : decode cX11_bitsNow 38 = .ok (.ireturn, 1) := by decide +kernel
theorem dX11_count_0 : decode cX11_count 0 = .ok (.iload_n 1, 1) := by decide +kernel
theorem dX11_count_1 : decode cX11_count 1 = .ok (.tableswitch 211 0 13 #[71, 81, 91, 101, 109, 117, 125, 125, 135, 140, 145, 150, 195, 203], 71) := by decide +kernel
theorem dX11_count_72 : decode cX11_count 72 = .ok (.aload_n 0, 1) := by decide +kernel
theorem dX11_count_73 : decode cX11_count 73 = .ok (.getfield 46, 3) := by decide +kernel
theorem dX11_count_76 : decode cX11_count 76 = .ok (.aload_n 0, 1) := by decide +kernel
theorem dX11_count_77 : decode cX11_count 77 = .ok (.getfield 233, 3) := by decide +kernel
theorem dX11_count_80 : decode cX11_count 80 = .ok (.iaload, 1) := by decide +kernel
theorem dX11_count_81 : decode cX11_count 81 = .ok (.ireturn, 1) := by decide +kernel
theorem dX11_count_82 : decode cX11_count 82 = .ok (.aload_n 0, 1) := by decide +kernel
theorem dX11_count_83 : decode cX11_count 83 = .ok (.getfield 55, 3) := by decide +kernel
theorem dX11_count_86 : decode cX11_count 86 = .ok (.aload_n 0, 1) := by decide +kernel
theorem dX11_count_87 : decode cX11_count 87 = .ok (.getfield 233, 3) := by decide +kernel
theorem dX11_count_90 : decode cX11_count 90 = .ok (.iaload, 1) := by decide +kernel
theorem dX11_count_91 : decode cX11_count 91 = .ok (.ireturn, 1) := by decide +kernel
theorem dX11_count_92 : decode cX11_count 92 = .ok (.aload_n 0, 1) := by decide +kernel
theorem dX11_count_93 : decode cX11_count 93 = .ok (.getfield 61, 3) := by decide +kernel
theorem dX11_count_96 : decode cX11_count 96 = .ok (.aload_n 0, 1) := by decide +kernel
theorem dX11_count_97 : decode cX11_count 97 = .ok (.getfield 233, 3) := by decide +kernel
theorem dX11_count_100 : decode cX11_count 100 = .ok (.iaload, 1) := by decide +kernel
theorem dX11_count_101 : decode cX11_count 101 = .ok (.ireturn, 1) := by decide +kernel
theorem dX11_count_102 : decode cX11_count 102 = .ok (.aload_n 0, 1) := by decide +kernel
theorem dX11_count_103 : decode cX11_count 103 = .ok (.getfield 113, 3) := by decide +kernel
theorem dX11_count_106 : decode cX11_count 106 = .ok (.bipush 44, 2) := by decide +kernel
theorem dX11_count_108 : decode cX11_count 108 = .ok (.iaload, 1) := by decide +kernel
theorem dX11_count_109 : decode cX11_count 109 = .ok (.ireturn, 1) := by decide +kernel
theorem dX11_count_110 : decode cX11_count 110 = .ok (.aload_n 0, 1) := by decide +kernel
theorem dX11_count_111 : decode cX11_count 111 = .ok (.bipush 15, 2) := by decide +kernel
theorem dX11_count_113 : decode cX11_count 113 = .ok (.iconst 3, 1) := by decide +kernel
theorem dX11_count_114 : decode cX11_count 114 = .ok (.invokevirtual 460, 3) := by decide +kernel
theorem dX11_count_117 : decode cX11_count 117 = .ok (.ireturn, 1) := by decide +kernel
theorem dX11_count_118 : decode cX11_count 118 = .ok (.aload_n 0, 1) := by decide +kernel
theorem dX11_count_119 : decode cX11_count 119 = .ok (.bipush 32, 2) := by decide +kernel
theorem dX11_count_121 : decode cX11_count 121 = .ok (.iconst 4, 1) := by decide +kernel
theorem dX11_count_122 : decode cX11_count 122 = .ok (.invokevirtual 460, 3) := by decide +kernel
theorem dX11_count_125 : decode cX11_count 125 = .ok (.ireturn, 1) := by decide +kernel
theorem dX11_count_126 : decode cX11_count 126 = .ok (.aload_n 0, 1) := by decide +kernel
theorem dX11_count_127 : decode cX11_count 127 = .ok (.getfield 113, 3) := by decide +kernel
theorem dX11_count_130 : decode cX11_count 130 = .ok (.bipush 39, 2) := by decide +kernel
theorem dX11_count_132 : decode cX11_count 132 = .ok (.iload_n 1, 1) := by decide +kernel
theorem dX11_count_133 : decode cX11_count 133 = .ok (.iadd, 1) := by decide +kernel
theorem dX11_count_134 : decode cX11_count 134 = .ok (.iaload, 1) := by decide +kernel
theorem dX11_count_135 : decode cX11_count 135 = .ok (.ireturn, 1) := by decide +kernel
theorem dX11_count_136 : decode cX11_count 136 = .ok (.aload_n 0, 1) := by decide +kernel
theorem dX11_count_137 : decode cX11_count 137 = .ok (.getfield 166, 3) := by decide +kernel
theorem dX11_count_140 : decode cX11_count 140 = .ok (.ireturn, 1) := by decide +kernel
theorem dX11_count_141 : decode cX11_count 141 = .ok (.aload_n 0, 1) := by decide +kernel
theorem dX11_count_142 : decode cX11_count 142 = .ok (.getfield 251, 3) := by decide +kernel
theorem dX11_count_145 : decode cX11_count 145 = .ok (.ireturn, 1) := by decide +kernel
theorem dX11_count_146 : decode cX11_count 146 = .ok (.aload_n 0, 1) := by decide +kernel
theorem dX11_count_147 : decode cX11_count 147 = .ok (.getfield 254, 3) := by decide +kernel
theorem dX11_count_150 : decode cX11_count 150 = .ok (.ireturn, 1) := by decide +kernel
theorem dX11_count_151 : decode cX11_count 151 = .ok (.aload_n 0, 1) := by decide +kernel
theorem dX11_count_152 : decode cX11_count 152 = .ok (.getfield 146, 3) := by decide +kernel
theorem dX11_count_155 : decode cX11_count 155 = .ok (.iconst 0, 1) := by decide +kernel
theorem dX11_count_156 : decode cX11_count 156 = .ok (.baload, 1) := by decide +kernel
theorem dX11_count_157 : decode cX11_count 157 = .ok (.ifCond .eq 7, 3) := by decide +kernel
theorem dX11_count_160 : decode cX11_count 160 = .ok (.iconst 1, 1) := by decide +kernel
theorem dX11_count_161 : decode cX11_count 161 = .ok (.goto 4, 3) := by decide +kernel
theorem dX11_count_164 : decode cX11_count 164 = .ok (.iconst 0, 1) := by decide +kernel
theorem dX11_count_165 : decode cX11_count 165 = .ok (.aload_n 0, 1) := by decide +kernel
theorem dX11_count_166 : decode cX11_count 166 = .ok (.getfield 146, 3) := by decide +kernel
theorem dX11_count_169 : decode cX11_count 169 = .ok (.iconst 1, 1) := by decide +kernel
theorem dX11_count_170 : decode cX11_count 170 = .ok (.baload, 1) := by decide +kernel
theorem dX11_count_171 : decode cX11_count 171 = .ok (.ifCond .eq 7, 3) := by decide +kernel
theorem dX11_count_174 : decode cX11_count 174 = .ok (.iconst 1, 1) := by decide +kernel
theorem dX11_count_175 : decode cX11_count 175 = .ok (.goto 4, 3) := by decide +kernel
theorem dX11_count_178 : decode cX11_count 178 = .ok (.iconst 0, 1) := by decide +kernel
theorem dX11_count_179 : decode cX11_count 179 = .ok (.iadd, 1) := by decide +kernel
theorem dX11_count_180 : decode cX11_count 180 = .ok (.aload_n 0, 1) := by decide +kernel
theorem dX11_count_181 : decode cX11_count 181 = .ok (.getfield 146, 3) := by decide +kernel
theorem dX11_count_184 : decode cX11_count 184 = .ok (.iconst 2, 1) := by decide +kernel
theorem dX11_count_185 : decode cX11_count 185 = .ok (.baload, 1) := by decide +kernel
theorem dX11_count_186 : decode cX11_count 186 = .ok (.ifCond .eq 7, 3) := by decide +kernel
theorem dX11_count_189 : decode cX11_count 189 = .ok (.iconst 1, 1) := by decide +kernel
theorem dX11_count_190 : decode cX11_count 190 = .ok (.goto 4, 3) := by decide +kernel
theorem dX11_count_193 : decode cX11_count 193 = .ok (.iconst 0, 1) := by decide +kernel
theorem dX11_count_194 : decode cX11_count 194 = .ok (.iadd, 1) := by decide +kernel
theorem dX11_count_195 : decode cX11_count 195 = .ok (.ireturn, 1) := by decide +kernel
theorem dX11_count_196 : decode cX11_count 196 = .ok (.aload_n 0, 1) := by decide +kernel
theorem dX11_count_197 : decode cX11_count 197 = .ok (.bipush 40, 2) := by decide +kernel
theorem dX11_count_199 : decode cX11_count 199 = .ok (.iconst 4, 1) := by decide +kernel
theorem dX11_count_200 : decode cX11_count 200 = .ok (.invokevirtual 463, 3) := by decide +kernel
theorem dX11_count_203 : decode cX11_count 203 = .ok (.ireturn, 1) := by decide +kernel
theorem dX11_count_204 : decode cX11_count 204 = .ok (.aload_n 0, 1) := by decide +kernel
theorem dX11_count_205 : decode cX11_count 205 = .ok (.iconst 0, 1) := by decide +kernel
theorem dX11_count_206 : decode cX11_count 206 = .ok (.bipush 6, 2) := by decide +kernel
theorem dX11_count_208 : decode cX11_count 208 = .ok (.invokevirtual 463, 3) := by decide +kernel
theorem dX11_count_211 : decode cX11_count 211 = .ok (.ireturn, 1) := by decide +kernel
theorem dX11_count_212 : decode cX11_count 212 = .ok (.iconst (-1), 1) := by decide +kernel
theorem dX11_count_213 : decode cX11_count 213 = .ok (.ireturn, 1) := by decide +kernel

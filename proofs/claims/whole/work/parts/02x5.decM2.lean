theorem dX11_tellLaw_57 : decode cX11_tellLaw 57 = .ok (.aload_n 0, 1) := by decide +kernel
theorem dX11_tellLaw_58 : decode cX11_tellLaw 58 = .ok (.getfield 242, 3) := by decide +kernel
theorem dX11_tellLaw_61 : decode cX11_tellLaw 61 = .ok (.iconst 1, 1) := by decide +kernel
theorem dX11_tellLaw_62 : decode cX11_tellLaw 62 = .ok (.bastore, 1) := by decide +kernel
theorem dX11_tellLaw_63 : decode cX11_tellLaw 63 = .ok (.aload_n 0, 1) := by decide +kernel
theorem dX11_tellLaw_64 : decode cX11_tellLaw 64 = .ok (.getfield 86, 3) := by decide +kernel
theorem dX11_tellLaw_67 : decode cX11_tellLaw 67 = .ok (.aload_n 0, 1) := by decide +kernel
theorem dX11_tellLaw_68 : decode cX11_tellLaw 68 = .ok (.getfield 242, 3) := by decide +kernel
theorem dX11_tellLaw_71 : decode cX11_tellLaw 71 = .ok (.aload_n 0, 1) := by decide +kernel
theorem dX11_tellLaw_72 : decode cX11_tellLaw 72 = .ok (.getfield 245, 3) := by decide +kernel
theorem dX11_tellLaw_75 : decode cX11_tellLaw 75 = .ok (.iastore, 1) := by decide +kernel
theorem dX11_tellLaw_76 : decode cX11_tellLaw 76 = .ok (.aload_n 0, 1) := by decide +kernel
theorem dX11_tellLaw_77 : decode cX11_tellLaw 77 = .ok (.invokevirtual 293, 3) := by decide +kernel
theorem dX11_tellLaw_80 : decode cX11_tellLaw 80 = .ok (.aload_n 0, 1) := by decide +kernel
theorem dX11_tellLaw_81 : decode cX11_tellLaw 81 = .ok (.bipush 13, 2) := by decide +kernel
theorem dX11_tellLaw_83 : decode cX11_tellLaw 83 = .ok (.invokevirtual 274, 3) := by decide +kernel
theorem dX11_tellLaw_86 : decode cX11_tellLaw 86 = .ok (.aload_n 0, 1) := by decide +kernel
theorem dX11_tellLaw_87 : decode cX11_tellLaw 87 = .ok (.getfield 89, 3) := by decide +kernel
theorem dX11_tellLaw_90 : decode cX11_tellLaw 90 = .ok (.aload_n 0, 1) := by decide +kernel
theorem dX11_tellLaw_91 : decode cX11_tellLaw 91 = .ok (.getfield 242, 3) := by decide +kernel
theorem dX11_tellLaw_94 : decode cX11_tellLaw 94 = .ok (.aload_n 0, 1) := by decide +kernel
theorem dX11_tellLaw_95 : decode cX11_tellLaw 95 = .ok (.getfield 245, 3) := by decide +kernel
theorem dX11_tellLaw_98 : decode cX11_tellLaw 98 = .ok (.iastore, 1) := by decide +kernel
theorem dX11_tellLaw_99 : decode cX11_tellLaw 99 = .ok (.aload_n 0, 1) := by decide +kernel
theorem dX11_tellLaw_100 : decode cX11_tellLaw 100 = .ok (.getfield 203, 3) := by decide +kernel
theorem dX11_tellLaw_103 : decode cX11_tellLaw 103 = .ok (.ifCond .ne 7, 3) := by decide +kernel
theorem dX11_tellLaw_106 : decode cX11_tellLaw 106 = .ok (.aload_n 0, 1) := by decide +kernel
theorem dX11_tellLaw_107 : decode cX11_tellLaw 107 = .ok (.invokevirtual 293, 3) := by decide +kernel
theorem dX11_tellLaw_110 : decode cX11_tellLaw 110 = .ok (.aload_n 0, 1) := by decide +kernel
theorem dX11_tellLaw_111 : decode cX11_tellLaw 111 = .ok (.bipush 33, 2) := by decide +kernel
theorem dX11_tellLaw_113 : decode cX11_tellLaw 113 = .ok (.invokevirtual 274, 3) := by decide +kernel
theorem dX11_tellLaw_116 : decode cX11_tellLaw 116 = .ok (.aload_n 0, 1) := by decide +kernel
theorem dX11_tellLaw_117 : decode cX11_tellLaw 117 = .ok (.invokevirtual 296, 3) := by decide +kernel
theorem dX11_tellLaw_120 : decode cX11_tellLaw 120 = .ok (.aload_n 0, 1) := by decide +kernel
theorem dX11_tellLaw_121 : decode cX11_tellLaw 121 = .ok (.bipush 34, 2) := by decide +kernel
theorem dX11_tellLaw_123 : decode cX11_tellLaw 123 = .ok (.invokevirtual 274, 3) := by decide +kernel
theorem dX11_tellLaw_126 : decode cX11_tellLaw 126 = .ok (.goto (-114), 3) := by decide +kernel
theorem dX11_tellLaw_129 : decode cX11_tellLaw 129 = .ok (.aload_n 0, 1) := by decide +kernel
theorem dX11_tellLaw_130 : decode cX11_tellLaw 130 = .ok (.getfield 82, 3) := by decide +kernel
theorem dX11_tellLaw_133 : decode cX11_tellLaw 133 = .ok (.aload_n 0, 1) := by decide +kernel
theorem dX11_tellLaw_134 : decode cX11_tellLaw 134 = .ok (.getfield 242, 3) := by decide +kernel
theorem dX11_tellLaw_137 : decode cX11_tellLaw 137 = .ok (.iconst 0, 1) := by decide +kernel
theorem dX11_tellLaw_138 : decode cX11_tellLaw 138 = .ok (.bastore, 1) := by decide +kernel
theorem dX11_tellLaw_139 : decode cX11_tellLaw 139 = .ok (.aload_n 0, 1) := by decide +kernel
theorem dX11_tellLaw_140 : decode cX11_tellLaw 140 = .ok (.invokevirtual 296, 3) := by decide +kernel
theorem dX11_tellLaw_143 : decode cX11_tellLaw 143 = .ok (.aload_n 0, 1) := by decide +kernel
theorem dX11_tellLaw_144 : decode cX11_tellLaw 144 = .ok (.iconst 4, 1) := by decide +kernel
theorem dX11_tellLaw_145 : decode cX11_tellLaw 145 = .ok (.invokevirtual 274, 3) := by decide +kernel
theorem dX11_tellLaw_148 : decode cX11_tellLaw 148 = .ok (.aload_n 0, 1) := by decide +kernel
theorem dX11_tellLaw_149 : decode cX11_tellLaw 149 = .ok (.getfield 203, 3) := by decide +kernel
theorem dX11_tellLaw_152 : decode cX11_tellLaw 152 = .ok (.ifCond .le 4, 3) := by decide +kernel
theorem dX11_tellLaw_155 : decode cX11_tellLaw 155 = .ok (.return_, 1) := by decide +kernel
theorem dX11_tellLaw_156 : decode cX11_tellLaw 156 = .ok (.aload_n 0, 1) := by decide +kernel
theorem dX11_tellLaw_157 : decode cX11_tellLaw 157 = .ok (.getfield 76, 3) := by decide +kernel
theorem dX11_tellLaw_160 : decode cX11_tellLaw 160 = .ok (.bipush 7, 2) := by decide +kernel
theorem dX11_tellLaw_162 : decode cX11_tellLaw 162 = .ok (.aload_n 0, 1) := by decide +kernel
theorem dX11_tellLaw_163 : decode cX11_tellLaw 163 = .ok (.getfield 236, 3) := by decide +kernel
theorem dX11_tellLaw_166 : decode cX11_tellLaw 166 = .ok (.imul, 1) := by decide +kernel
theorem dX11_tellLaw_167 : decode cX11_tellLaw 167 = .ok (.iload_n 1, 1) := by decide +kernel
theorem dX11_tellLaw_168 : decode cX11_tellLaw 168 = .ok (.iadd, 1) := by decide +kernel
theorem dX11_tellLaw_169 : decode cX11_tellLaw 169 = .ok (.iload_n 2, 1) := by decide +kernel
theorem dX11_tellLaw_170 : decode cX11_tellLaw 170 = .ok (.iastore, 1) := by decide +kernel
theorem dX11_tellLaw_171 : decode cX11_tellLaw 171 = .ok (.aload_n 0, 1) := by decide +kernel
theorem dX11_tellLaw_172 : decode cX11_tellLaw 172 = .ok (.getfield 79, 3) := by decide +kernel
theorem dX11_tellLaw_175 : decode cX11_tellLaw 175 = .ok (.bipush 7, 2) := by decide +kernel
theorem dX11_tellLaw_177 : decode cX11_tellLaw 177 = .ok (.aload_n 0, 1) := by decide +kernel
theorem dX11_tellLaw_178 : decode cX11_tellLaw 178 = .ok (.getfield 236, 3) := by decide +kernel
theorem dX11_tellLaw_181 : decode cX11_tellLaw 181 = .ok (.imul, 1) := by decide +kernel
theorem dX11_tellLaw_182 : decode cX11_tellLaw 182 = .ok (.iload_n 1, 1) := by decide +kernel
theorem dX11_tellLaw_183 : decode cX11_tellLaw 183 = .ok (.iadd, 1) := by decide +kernel
theorem dX11_tellLaw_184 : decode cX11_tellLaw 184 = .ok (.aload_n 0, 1) := by decide +kernel
theorem dX11_tellLaw_185 : decode cX11_tellLaw 185 = .ok (.getfield 242, 3) := by decide +kernel
theorem dX11_tellLaw_188 : decode cX11_tellLaw 188 = .ok (.iastore, 1) := by decide +kernel
theorem dX11_tellLaw_189 : decode cX11_tellLaw 189 = .ok (.return_, 1) := by decide +kernel
theorem dX11_term_0 : decode cX11_term 0 = .ok (.aload_n 0, 1) := by decide +kernel
theorem dX11_term_1 : decode cX11_term 1 = .ok (.getfield 92, 3) := by decide +kernel
theorem dX11_term_4 : decode cX11_term 4 = .ok (.aload_n 0, 1) := by decide +kernel
theorem dX11_term_5 : decode cX11_term 5 = .ok (.getfield 242, 3) := by decide +kernel
theorem dX11_term_8 : decode cX11_term 8 = .ok (.aload_n 0, 1) := by decide +kernel
theorem dX11_term_9 : decode cX11_term 9 = .ok (.getfield 245, 3) := by decide +kernel
theorem dX11_term_12 : decode cX11_term 12 = .ok (.iastore, 1) := by decide +kernel
theorem dX11_term_13 : decode cX11_term 13 = .ok (.aload_n 0, 1) := by decide +kernel
theorem dX11_term_14 : decode cX11_term 14 = .ok (.getfield 203, 3) := by decide +kernel
theorem dX11_term_17 : decode cX11_term 17 = .ok (.ifCond .ne 7, 3) := by decide +kernel
theorem dX11_term_20 : decode cX11_term 20 = .ok (.aload_n 0, 1) := by decide +kernel
theorem dX11_term_21 : decode cX11_term 21 = .ok (.invokevirtual 293, 3) := by decide +kernel
theorem dX11_term_24 : decode cX11_term 24 = .ok (.aload_n 0, 1) := by decide +kernel
theorem dX11_term_25 : decode cX11_term 25 = .ok (.getfield 95, 3) := by decide +kernel
theorem dX11_term_28 : decode cX11_term 28 = .ok (.aload_n 0, 1) := by decide +kernel
theorem dX11_term_29 : decode cX11_term 29 = .ok (.getfield 242, 3) := by decide +kernel
theorem dX11_term_32 : decode cX11_term 32 = .ok (.aload_n 0, 1) := by decide +kernel
theorem dX11_term_33 : decode cX11_term 33 = .ok (.getfield 245, 3) := by decide +kernel
theorem dX11_term_36 : decode cX11_term 36 = .ok (.iastore, 1) := by decide +kernel
theorem dX11_term_37 : decode cX11_term 37 = .ok (.aload_n 0, 1) := by decide +kernel
theorem dX11_term_38 : decode cX11_term 38 = .ok (.dup, 1) := by decide +kernel
theorem dX11_term_39 : decode cX11_term 39 = .ok (.getfield 242, 3) := by decide +kernel
theorem dX11_term_42 : decode cX11_term 42 = .ok (.iconst 1, 1) := by decide +kernel
theorem dX11_term_43 : decode cX11_term 43 = .ok (.iadd, 1) := by decide +kernel
theorem dX11_term_44 : decode cX11_term 44 = .ok (.putfield 242, 3) := by decide +kernel
theorem dX11_term_47 : decode cX11_term 47 = .ok (.return_, 1) := by decide +kernel
theorem dX11_emit_0 : decode cX11_emit 0 = .ok (.aload_n 0, 1) := by decide +kernel
theorem dX11_emit_1 : decode cX11_emit 1 = .ok (.getfield 98, 3) := by decide +kernel
theorem dX11_emit_4 : decode cX11_emit 4 = .ok (.aload_n 0, 1) := by decide +kernel
theorem dX11_emit_5 : decode cX11_emit 5 = .ok (.getfield 245, 3) := by decide +kernel
theorem dX11_emit_8 : decode cX11_emit 8 = .ok (.iload_n 1, 1) := by decide +kernel
theorem dX11_emit_9 : decode cX11_emit 9 = .ok (.iastore, 1) := by decide +kernel
theorem dX11_emit_10 : decode cX11_emit 10 = .ok (.aload_n 0, 1) := by decide +kernel
theorem dX11_emit_11 : decode cX11_emit 11 = .ok (.getfield 101, 3) := by decide +kernel
theorem dX11_emit_14 : decode cX11_emit 14 = .ok (.aload_n 0, 1) := by decide +kernel
theorem dX11_emit_15 : decode cX11_emit 15 = .ok (.getfield 245, 3) := by decide +kernel
theorem dX11_emit_18 : decode cX11_emit 18 = .ok (.iload_n 2, 1) := by decide +kernel
theorem dX11_emit_19 : decode cX11_emit 19 = .ok (.iastore, 1) := by decide +kernel
theorem dX11_emit_20 : decode cX11_emit 20 = .ok (.aload_n 0, 1) := by decide +kernel
theorem dX11_emit_21 : decode cX11_emit 21 = .ok (.dup, 1) := by decide +kernel
theorem dX11_emit_22 : decode cX11_emit 22 = .ok (.getfield 245, 3) := by decide +kernel
theorem dX11_emit_25 : decode cX11_emit 25 = .ok (.iconst 1, 1) := by decide +kernel
theorem dX11_emit_26 : decode cX11_emit 26 = .ok (.iadd, 1) := by decide +kernel
theorem dX11_emit_27 : decode cX11_emit 27 = .ok (.putfield 245, 3) := by decide +kernel
theorem dX11_emit_30 : decode cX11_emit 30 = .ok (.return_, 1) := by decide +kernel
theorem dX11_comesOut_0 : decode cX11_comesOut 0 = .ok (.aload_n 0, 1) := by decide +kernel
theorem dX11_comesOut_1 : decode cX11_comesOut 1 = .ok (.getfield 299, 3) := by decide +kernel
theorem dX11_comesOut_4 : decode cX11_comesOut 4 = .ok (.ifCond .le 87, 3) := by decide +kernel
theorem dX11_comesOut_7 : decode cX11_comesOut 7 = .ok (.aload_n 0, 1) := by decide +kernel
theorem dX11_comesOut_8 : decode cX11_comesOut 8 = .ok (.getfield 104, 3) := by decide +kernel
theorem dX11_comesOut_11 : decode cX11_comesOut 11 = .ok (.aload_n 0, 1) := by decide +kernel
theorem dX11_comesOut_12 : decode cX11_comesOut 12 = .ok (.getfield 299, 3) := by decide +kernel
theorem dX11_comesOut_15 : decode cX11_comesOut 15 = .ok (.iconst 1, 1) := by decide +kernel
theorem dX11_comesOut_16 : decode cX11_comesOut 16 = .ok (.isub, 1) := by decide +kernel
theorem dX11_comesOut_17 : decode cX11_comesOut 17 = .ok (.iaload, 1) := by decide +kernel
theorem dX11_comesOut_18 : decode cX11_comesOut 18 = .ok (.istore_n 2, 1) := by decide +kernel
theorem dX11_comesOut_19 : decode cX11_comesOut 19 = .ok (.iload_n 2, 1) := by decide +kernel
theorem dX11_comesOut_20 : decode cX11_comesOut 20 = .ok (.bipush 6, 2) := by decide +kernel
theorem dX11_comesOut_22 : decode cX11_comesOut 22 = .ok (.if_icmp .eq 19, 3) := by decide +kernel
theorem dX11_comesOut_25 : decode cX11_comesOut 25 = .ok (.iload_n 1, 1) := by decide +kernel
theorem dX11_comesOut_26 : decode cX11_comesOut 26 = .ok (.ifCond .eq 16, 3) := by decide +kernel
theorem dX11_comesOut_29 : decode cX11_comesOut 29 = .ok (.iload_n 2, 1) := by decide +kernel
theorem dX11_comesOut_30 : decode cX11_comesOut 30 = .ok (.bipush 8, 2) := by decide +kernel
theorem dX11_comesOut_32 : decode cX11_comesOut 32 = .ok (.if_icmp .eq 9, 3) := by decide +kernel
theorem dX11_comesOut_35 : decode cX11_comesOut 35 = .ok (.iload_n 2, 1) := by decide +kernel
theorem dX11_comesOut_36 : decode cX11_comesOut 36 = .ok (.bipush 9, 2) := by decide +kernel
theorem dX11_comesOut_38 : decode cX11_comesOut 38 = .ok (.if_icmp .ne 4, 3) := by decide +kernel
theorem dX11_comesOut_41 : decode cX11_comesOut 41 = .ok (.return_, 1) := by decide +kernel
theorem dX11_comesOut_42 : decode cX11_comesOut 42 = .ok (.aload_n 0, 1) := by decide +kernel
theorem dX11_comesOut_43 : decode cX11_comesOut 43 = .ok (.dup, 1) := by decide +kernel
theorem dX11_comesOut_44 : decode cX11_comesOut 44 = .ok (.getfield 299, 3) := by decide +kernel
theorem dX11_comesOut_47 : decode cX11_comesOut 47 = .ok (.iconst 1, 1) := by decide +kernel
theorem dX11_comesOut_48 : decode cX11_comesOut 48 = .ok (.isub, 1) := by decide +kernel
theorem dX11_comesOut_49 : decode cX11_comesOut 49 = .ok (.putfield 299, 3) := by decide +kernel
theorem dX11_comesOut_52 : decode cX11_comesOut 52 = .ok (.aload_n 0, 1) := by decide +kernel
theorem dX11_comesOut_53 : decode cX11_comesOut 53 = .ok (.iload_n 2, 1) := by decide +kernel
theorem dX11_comesOut_54 : decode cX11_comesOut 54 = .ok (.bipush 8, 2) := by decide +kernel
theorem dX11_comesOut_56 : decode cX11_comesOut 56 = .ok (.if_icmp .ne 7, 3) := by decide +kernel
theorem dX11_comesOut_59 : decode cX11_comesOut 59 = .ok (.iconst 2, 1) := by decide +kernel
theorem dX11_comesOut_60 : decode cX11_comesOut 60 = .ok (.goto 24, 3) := by decide +kernel
theorem dX11_comesOut_63 : decode cX11_comesOut 63 = .ok (.iload_n 2, 1) := by decide +kernel
theorem dX11_comesOut_64 : decode cX11_comesOut 64 = .ok (.bipush 9, 2) := by decide +kernel
theorem dX11_comesOut_66 : decode cX11_comesOut 66 = .ok (.if_icmp .ne 7, 3) := by decide +kernel
theorem dX11_comesOut_69 : decode cX11_comesOut 69 = .ok (.iconst 3, 1) := by decide +kernel
theorem dX11_comesOut_70 : decode cX11_comesOut 70 = .ok (.goto 14, 3) := by decide +kernel
theorem dX11_comesOut_73 : decode cX11_comesOut 73 = .ok (.iload_n 2, 1) := by decide +kernel
theorem dX11_comesOut_74 : decode cX11_comesOut 74 = .ok (.bipush 10, 2) := by decide +kernel
theorem dX11_comesOut_76 : decode cX11_comesOut 76 = .ok (.if_icmp .ne 7, 3) := by decide +kernel
theorem dX11_comesOut_79 : decode cX11_comesOut 79 = .ok (.iconst 4, 1) := by decide +kernel
theorem dX11_comesOut_80 : decode cX11_comesOut 80 = .ok (.goto 4, 3) := by decide +kernel
theorem dX11_comesOut_83 : decode cX11_comesOut 83 = .ok (.iconst 5, 1) := by decide +kernel
theorem dX11_comesOut_84 : decode cX11_comesOut 84 = .ok (.iconst 0, 1) := by decide +kernel
theorem dX11_comesOut_85 : decode cX11_comesOut 85 = .ok (.invokevirtual 302, 3) := by decide +kernel
theorem dX11_comesOut_88 : decode cX11_comesOut 88 = .ok (.goto (-88), 3) := by decide +kernel
theorem dX11_comesOut_91 : decode cX11_comesOut 91 = .ok (.return_, 1) := by decide +kernel
theorem dX11_expression_0 : decode cX11_expression 0 = .ok (.aload_n 0, 1) := by decide +kernel
theorem dX11_expression_1 : decode cX11_expression 1 = .ok (.iconst 0, 1) := by decide +kernel
theorem dX11_expression_2 : decode cX11_expression 2 = .ok (.putfield 299, 3) := by decide +kernel
theorem dX11_expression_5 : decode cX11_expression 5 = .ok (.aload_n 0, 1) := by decide +kernel
theorem dX11_expression_6 : decode cX11_expression 6 = .ok (.getfield 230, 3) := by decide +kernel
theorem dX11_expression_9 : decode cX11_expression 9 = .ok (.istore_n 1, 1) := by decide +kernel
theorem dX11_expression_10 : decode cX11_expression 10 = .ok (.iconst 1, 1) := by decide +kernel
theorem dX11_expression_11 : decode cX11_expression 11 = .ok (.istore_n 2, 1) := by decide +kernel
theorem dX11_expression_12 : decode cX11_expression 12 = .ok (.iload_n 2, 1) := by decide +kernel
theorem dX11_expression_13 : decode cX11_expression 13 = .ok (.ifCond .eq 259, 3) := by decide +kernel
theorem dX11_expression_16 : decode cX11_expression 16 = .ok (.aload_n 0, 1) := by decide +kernel
theorem dX11_expression_17 : decode cX11_expression 17 = .ok (.getfield 203, 3) := by decide +kernel
theorem dX11_expression_20 : decode cX11_expression 20 = .ok (.ifCond .ne 252, 3) := by decide +kernel
theorem dX11_expression_23 : decode cX11_expression 23 = .ok (.aload_n 0, 1) := by decide +kernel
theorem dX11_expression_24 : decode cX11_expression 24 = .ok (.bipush 6, 2) := by decide +kernel
theorem dX11_expression_26 : decode cX11_expression 26 = .ok (.invokevirtual 221, 3) := by decide +kernel
theorem dX11_expression_29 : decode cX11_expression 29 = .ok (.ifCond .eq 55, 3) := by decide +kernel
theorem dX11_expression_32 : decode cX11_expression 32 = .ok (.aload_n 0, 1) := by decide +kernel
theorem dX11_expression_33 : decode cX11_expression 33 = .ok (.getfield 230, 3) := by decide +kernel
theorem dX11_expression_36 : decode cX11_expression 36 = .ok (.bipush 6, 2) := by decide +kernel
theorem dX11_expression_38 : decode cX11_expression 38 = .ok (.if_icmp .ne 8, 3) := by decide +kernel
theorem dX11_expression_41 : decode cX11_expression 41 = .ok (.aload_n 0, 1) := by decide +kernel
theorem dX11_expression_42 : decode cX11_expression 42 = .ok (.iconst 2, 1) := by decide +kernel
theorem dX11_expression_43 : decode cX11_expression 43 = .ok (.invokevirtual 218, 3) := by decide +kernel
theorem dX11_expression_46 : decode cX11_expression 46 = .ok (.aload_n 0, 1) := by decide +kernel
theorem dX11_expression_47 : decode cX11_expression 47 = .ok (.dup, 1) := by decide +kernel
theorem dX11_expression_48 : decode cX11_expression 48 = .ok (.getfield 230, 3) := by decide +kernel
theorem dX11_expression_51 : decode cX11_expression 51 = .ok (.iconst 1, 1) := by decide +kernel
theorem dX11_expression_52 : decode cX11_expression 52 = .ok (.iadd, 1) := by decide +kernel
theorem dX11_expression_53 : decode cX11_expression 53 = .ok (.putfield 230, 3) := by decide +kernel
theorem dX11_expression_56 : decode cX11_expression 56 = .ok (.aload_n 0, 1) := by decide +kernel
theorem dX11_expression_57 : decode cX11_expression 57 = .ok (.invokevirtual 224, 3) := by decide +kernel
theorem dX11_expression_60 : decode cX11_expression 60 = .ok (.aload_n 0, 1) := by decide +kernel
theorem dX11_expression_61 : decode cX11_expression 61 = .ok (.getfield 104, 3) := by decide +kernel
theorem dX11_expression_64 : decode cX11_expression 64 = .ok (.aload_n 0, 1) := by decide +kernel
theorem dX11_expression_65 : decode cX11_expression 65 = .ok (.getfield 299, 3) := by decide +kernel
theorem dX11_expression_68 : decode cX11_expression 68 = .ok (.bipush 6, 2) := by decide +kernel
theorem dX11_expression_70 : decode cX11_expression 70 = .ok (.iastore, 1) := by decide +kernel
theorem dX11_expression_71 : decode cX11_expression 71 = .ok (.aload_n 0, 1) := by decide +kernel
theorem dX11_expression_72 : decode cX11_expression 72 = .ok (.dup, 1) := by decide +kernel
theorem dX11_expression_73 : decode cX11_expression 73 = .ok (.getfield 299, 3) := by decide +kernel
theorem dX11_expression_76 : decode cX11_expression 76 = .ok (.iconst 1, 1) := by decide +kernel
theorem dX11_expression_77 : decode cX11_expression 77 = .ok (.iadd, 1) := by decide +kernel
theorem dX11_expression_78 : decode cX11_expression 78 = .ok (.putfield 299, 3) := by decide +kernel
theorem dX11_expression_81 : decode cX11_expression 81 = .ok (.goto (-58), 3) := by decide +kernel
theorem dX11_expression_84 : decode cX11_expression 84 = .ok (.aload_n 0, 1) := by decide +kernel
theorem dX11_expression_85 : decode cX11_expression 85 = .ok (.invokevirtual 305, 3) := by decide +kernel
theorem dX11_expression_88 : decode cX11_expression 88 = .ok (.aload_n 0, 1) := by decide +kernel
theorem dX11_expression_89 : decode cX11_expression 89 = .ok (.getfield 203, 3) := by decide +kernel
theorem dX11_expression_92 : decode cX11_expression 92 = .ok (.ifCond .le 4, 3) := by decide +kernel
theorem dX11_expression_95 : decode cX11_expression 95 = .ok (.return_, 1) := by decide +kernel
theorem dX11_expression_96 : decode cX11_expression 96 = .ok (.aload_n 0, 1) := by decide +kernel
theorem dX11_expression_97 : decode cX11_expression 97 = .ok (.bipush 7, 2) := by decide +kernel
theorem dX11_expression_99 : decode cX11_expression 99 = .ok (.invokevirtual 221, 3) := by decide +kernel
theorem dX11_expression_102 : decode cX11_expression 102 = .ok (.ifCond .eq 43, 3) := by decide +kernel
theorem dX11_expression_105 : decode cX11_expression 105 = .ok (.aload_n 0, 1) := by decide +kernel
theorem dX11_expression_106 : decode cX11_expression 106 = .ok (.getfield 230, 3) := by decide +kernel
theorem dX11_expression_109 : decode cX11_expression 109 = .ok (.iload_n 1, 1) := by decide +kernel
theorem dX11_expression_110 : decode cX11_expression 110 = .ok (.if_icmp .le 35, 3) := by decide +kernel
theorem dX11_expression_113 : decode cX11_expression 113 = .ok (.aload_n 0, 1) := by decide +kernel
theorem dX11_expression_114 : decode cX11_expression 114 = .ok (.iconst 0, 1) := by decide +kernel
theorem dX11_expression_115 : decode cX11_expression 115 = .ok (.invokevirtual 308, 3) := by decide +kernel
theorem dX11_expression_118 : decode cX11_expression 118 = .ok (.aload_n 0, 1) := by decide +kernel
theorem dX11_expression_119 : decode cX11_expression 119 = .ok (.dup, 1) := by decide +kernel
theorem dX11_expression_120 : decode cX11_expression 120 = .ok (.getfield 299, 3) := by decide +kernel
theorem dX11_expression_123 : decode cX11_expression 123 = .ok (.iconst 1, 1) := by decide +kernel
theorem dX11_expression_124 : decode cX11_expression 124 = .ok (.isub, 1) := by decide +kernel
theorem dX11_expression_125 : decode cX11_expression 125 = .ok (.putfield 299, 3) := by decide +kernel
theorem dX11_expression_128 : decode cX11_expression 128 = .ok (.aload_n 0, 1) := by decide +kernel
theorem dX11_expression_129 : decode cX11_expression 129 = .ok (.dup, 1) := by decide +kernel
theorem dX11_expression_130 : decode cX11_expression 130 = .ok (.getfield 230, 3) := by decide +kernel
theorem dX11_expression_133 : decode cX11_expression 133 = .ok (.iconst 1, 1) := by decide +kernel
theorem dX11_expression_134 : decode cX11_expression 134 = .ok (.isub, 1) := by decide +kernel
theorem dX11_expression_135 : decode cX11_expression 135 = .ok (.putfield 230, 3) := by decide +kernel
theorem dX11_expression_138 : decode cX11_expression 138 = .ok (.aload_n 0, 1) := by decide +kernel
theorem dX11_expression_139 : decode cX11_expression 139 = .ok (.invokevirtual 224, 3) := by decide +kernel
theorem dX11_expression_142 : decode cX11_expression 142 = .ok (.goto (-46), 3) := by decide +kernel
theorem dX11_expression_145 : decode cX11_expression 145 = .ok (.aload_n 0, 1) := by decide +kernel
theorem dX11_expression_146 : decode cX11_expression 146 = .ok (.bipush 8, 2) := by decide +kernel
theorem dX11_expression_148 : decode cX11_expression 148 = .ok (.invokevirtual 221, 3) := by decide +kernel
theorem dX11_expression_151 : decode cX11_expression 151 = .ok (.ifCond .ne 30, 3) := by decide +kernel
theorem dX11_expression_154 : decode cX11_expression 154 = .ok (.aload_n 0, 1) := by decide +kernel
theorem dX11_expression_155 : decode cX11_expression 155 = .ok (.bipush 9, 2) := by decide +kernel
theorem dX11_expression_157 : decode cX11_expression 157 = .ok (.invokevirtual 221, 3) := by decide +kernel
theorem dX11_expression_160 : decode cX11_expression 160 = .ok (.ifCond .ne 21, 3) := by decide +kernel
theorem dX11_expression_163 : decode cX11_expression 163 = .ok (.aload_n 0, 1) := by decide +kernel
theorem dX11_expression_164 : decode cX11_expression 164 = .ok (.bipush 10, 2) := by decide +kernel
theorem dX11_expression_166 : decode cX11_expression 166 = .ok (.invokevirtual 221, 3) := by decide +kernel
theorem dX11_expression_169 : decode cX11_expression 169 = .ok (.ifCond .ne 12, 3) := by decide +kernel
theorem dX11_expression_172 : decode cX11_expression 172 = .ok (.aload_n 0, 1) := by decide +kernel
theorem dX11_expression_173 : decode cX11_expression 173 = .ok (.bipush 15, 2) := by decide +kernel
theorem dX11_expression_175 : decode cX11_expression 175 = .ok (.invokevirtual 221, 3) := by decide +kernel
theorem dX11_expression_178 : decode cX11_expression 178 = .ok (.ifCond .eq 7, 3) := by decide +kernel
theorem dX11_expression_181 : decode cX11_expression 181 = .ok (.iconst 1, 1) := by decide +kernel
theorem dX11_expression_182 : decode cX11_expression 182 = .ok (.goto 4, 3) := by decide +kernel
theorem dX11_expression_185 : decode cX11_expression 185 = .ok (.iconst 0, 1) := by decide +kernel
theorem dX11_expression_186 : decode cX11_expression 186 = .ok (.istore_n 2, 1) := by decide +kernel
theorem dX11_expression_187 : decode cX11_expression 187 = .ok (.iload_n 2, 1) := by decide +kernel
theorem dX11_expression_188 : decode cX11_expression 188 = .ok (.ifCond .ne 22, 3) := by decide +kernel
theorem dX11_expression_191 : decode cX11_expression 191 = .ok (.aload_n 0, 1) := by decide +kernel
theorem dX11_expression_192 : decode cX11_expression 192 = .ok (.getfield 230, 3) := by decide +kernel
theorem dX11_expression_195 : decode cX11_expression 195 = .ok (.iload_n 1, 1) := by decide +kernel
theorem dX11_expression_196 : decode cX11_expression 196 = .ok (.if_icmp .le 8, 3) := by decide +kernel
theorem dX11_expression_199 : decode cX11_expression 199 = .ok (.aload_n 0, 1) := by decide +kernel
theorem dX11_expression_200 : decode cX11_expression 200 = .ok (.iconst 1, 1) := by decide +kernel
theorem dX11_expression_201 : decode cX11_expression 201 = .ok (.invokevirtual 218, 3) := by decide +kernel
theorem dX11_expression_204 : decode cX11_expression 204 = .ok (.aload_n 0, 1) := by decide +kernel
theorem dX11_expression_205 : decode cX11_expression 205 = .ok (.iconst 0, 1) := by decide +kernel
theorem dX11_expression_206 : decode cX11_expression 206 = .ok (.invokevirtual 308, 3) := by decide +kernel
theorem dX11_expression_209 : decode cX11_expression 209 = .ok (.return_, 1) := by decide +kernel
theorem dX11_expression_210 : decode cX11_expression 210 = .ok (.aload_n 0, 1) := by decide +kernel
theorem dX11_expression_211 : decode cX11_expression 211 = .ok (.aload_n 0, 1) := by decide +kernel
theorem dX11_expression_212 : decode cX11_expression 212 = .ok (.bipush 10, 2) := by decide +kernel
theorem dX11_expression_214 : decode cX11_expression 214 = .ok (.invokevirtual 221, 3) := by decide +kernel
theorem dX11_expression_217 : decode cX11_expression 217 = .ok (.ifCond .ne 12, 3) := by decide +kernel
theorem dX11_expression_220 : decode cX11_expression 220 = .ok (.aload_n 0, 1) := by decide +kernel
theorem dX11_expression_221 : decode cX11_expression 221 = .ok (.bipush 15, 2) := by decide +kernel
theorem dX11_expression_223 : decode cX11_expression 223 = .ok (.invokevirtual 221, 3) := by decide +kernel
theorem dX11_expression_226 : decode cX11_expression 226 = .ok (.ifCond .eq 7, 3) := by decide +kernel
theorem dX11_expression_229 : decode cX11_expression 229 = .ok (.iconst 1, 1) := by decide +kernel
theorem dX11_expression_230 : decode cX11_expression 230 = .ok (.goto 4, 3) := by decide +kernel
theorem dX11_expression_233 : decode cX11_expression 233 = .ok (.iconst 0, 1) := by decide +kernel
theorem dX11_expression_234 : decode cX11_expression 234 = .ok (.invokevirtual 308, 3) := by decide +kernel
theorem dX11_expression_237 : decode cX11_expression 237 = .ok (.aload_n 0, 1) := by decide +kernel
theorem dX11_expression_238 : decode cX11_expression 238 = .ok (.getfield 104, 3) := by decide +kernel
theorem dX11_expression_241 : decode cX11_expression 241 = .ok (.aload_n 0, 1) := by decide +kernel
theorem dX11_expression_242 : decode cX11_expression 242 = .ok (.getfield 299, 3) := by decide +kernel
theorem dX11_expression_245 : decode cX11_expression 245 = .ok (.aload_n 0, 1) := by decide +kernel
theorem dX11_expression_246 : decode cX11_expression 246 = .ok (.getfield 20, 3) := by decide +kernel
theorem dX11_expression_249 : decode cX11_expression 249 = .ok (.aload_n 0, 1) := by decide +kernel
theorem dX11_expression_250 : decode cX11_expression 250 = .ok (.getfield 206, 3) := by decide +kernel
theorem dX11_expression_253 : decode cX11_expression 253 = .ok (.iaload, 1) := by decide +kernel
theorem dX11_expression_254 : decode cX11_expression 254 = .ok (.iastore, 1) := by decide +kernel
theorem dX11_expression_255 : decode cX11_expression 255 = .ok (.aload_n 0, 1) := by decide +kernel
theorem dX11_expression_256 : decode cX11_expression 256 = .ok (.dup, 1) := by decide +kernel
theorem dX11_expression_257 : decode cX11_expression 257 = .ok (.getfield 299, 3) := by decide +kernel
theorem dX11_expression_260 : decode cX11_expression 260 = .ok (.iconst 1, 1) := by decide +kernel
theorem dX11_expression_261 : decode cX11_expression 261 = .ok (.iadd, 1) := by decide +kernel
theorem dX11_expression_262 : decode cX11_expression 262 = .ok (.putfield 299, 3) := by decide +kernel
theorem dX11_expression_265 : decode cX11_expression 265 = .ok (.aload_n 0, 1) := by decide +kernel
theorem dX11_expression_266 : decode cX11_expression 266 = .ok (.invokevirtual 224, 3) := by decide +kernel
theorem dX11_expression_269 : decode cX11_expression 269 = .ok (.goto (-257), 3) := by decide +kernel
theorem dX11_expression_272 : decode cX11_expression 272 = .ok (.return_, 1) := by decide +kernel
theorem dX11_unit_0 : decode cX11_unit 0 = .ok (.aload_n 0, 1) := by decide +kernel
theorem dX11_unit_1 : decode cX11_unit 1 = .ok (.iconst 2, 1) := by decide +kernel
theorem dX11_unit_2 : decode cX11_unit 2 = .ok (.invokevirtual 221, 3) := by decide +kernel
theorem dX11_unit_5 : decode cX11_unit 5 = .ok (.ifCond .eq 24, 3) := by decide +kernel
theorem dX11_unit_8 : decode cX11_unit 8 = .ok (.aload_n 0, 1) := by decide +kernel
theorem dX11_unit_9 : decode cX11_unit 9 = .ok (.iconst 0, 1) := by decide +kernel
theorem dX11_unit_10 : decode cX11_unit 10 = .ok (.aload_n 0, 1) := by decide +kernel
theorem dX11_unit_11 : decode cX11_unit 11 = .ok (.getfield 27, 3) := by decide +kernel
theorem dX11_unit_14 : decode cX11_unit 14 = .ok (.aload_n 0, 1) := by decide +kernel
theorem dX11_unit_15 : decode cX11_unit 15 = .ok (.getfield 206, 3) := by decide +kernel
theorem dX11_unit_18 : decode cX11_unit 18 = .ok (.iaload, 1) := by decide +kernel
theorem dX11_unit_19 : decode cX11_unit 19 = .ok (.invokevirtual 302, 3) := by decide +kernel
theorem dX11_unit_22 : decode cX11_unit 22 = .ok (.aload_n 0, 1) := by decide +kernel
theorem dX11_unit_23 : decode cX11_unit 23 = .ok (.invokevirtual 224, 3) := by decide +kernel
theorem dX11_unit_26 : decode cX11_unit 26 = .ok (.goto 67, 3) := by decide +kernel
theorem dX11_unit_29 : decode cX11_unit 29 = .ok (.aload_n 0, 1) := by decide +kernel
theorem dX11_unit_30 : decode cX11_unit 30 = .ok (.getfield 203, 3) := by decide +kernel
theorem dX11_unit_33 : decode cX11_unit 33 = .ok (.ifCond .ne 55, 3) := by decide +kernel
theorem dX11_unit_36 : decode cX11_unit 36 = .ok (.aload_n 0, 1) := by decide +kernel
theorem dX11_unit_37 : decode cX11_unit 37 = .ok (.getfield 20, 3) := by decide +kernel
theorem dX11_unit_40 : decode cX11_unit 40 = .ok (.aload_n 0, 1) := by decide +kernel
theorem dX11_unit_41 : decode cX11_unit 41 = .ok (.getfield 206, 3) := by decide +kernel
theorem dX11_unit_44 : decode cX11_unit 44 = .ok (.iaload, 1) := by decide +kernel
theorem dX11_unit_45 : decode cX11_unit 45 = .ok (.bipush 35, 2) := by decide +kernel
theorem dX11_unit_47 : decode cX11_unit 47 = .ok (.if_icmp .lt 41, 3) := by decide +kernel
theorem dX11_unit_50 : decode cX11_unit 50 = .ok (.aload_n 0, 1) := by decide +kernel
theorem dX11_unit_51 : decode cX11_unit 51 = .ok (.getfield 20, 3) := by decide +kernel
theorem dX11_unit_54 : decode cX11_unit 54 = .ok (.aload_n 0, 1) := by decide +kernel
theorem dX11_unit_55 : decode cX11_unit 55 = .ok (.getfield 206, 3) := by decide +kernel
theorem dX11_unit_58 : decode cX11_unit 58 = .ok (.iaload, 1) := by decide +kernel
theorem dX11_unit_59 : decode cX11_unit 59 = .ok (.bipush 43, 2) := by decide +kernel
theorem dX11_unit_61 : decode cX11_unit 61 = .ok (.if_icmp .gt 27, 3) := by decide +kernel
theorem dX11_unit_64 : decode cX11_unit 64 = .ok (.aload_n 0, 1) := by decide +kernel
theorem dX11_unit_65 : decode cX11_unit 65 = .ok (.iconst 1, 1) := by decide +kernel
theorem dX11_unit_66 : decode cX11_unit 66 = .ok (.aload_n 0, 1) := by decide +kernel
theorem dX11_unit_67 : decode cX11_unit 67 = .ok (.getfield 20, 3) := by decide +kernel
theorem dX11_unit_70 : decode cX11_unit 70 = .ok (.aload_n 0, 1) := by decide +kernel
theorem dX11_unit_71 : decode cX11_unit 71 = .ok (.getfield 206, 3) := by decide +kernel
theorem dX11_unit_74 : decode cX11_unit 74 = .ok (.iaload, 1) := by decide +kernel
theorem dX11_unit_75 : decode cX11_unit 75 = .ok (.bipush 35, 2) := by decide +kernel
theorem dX11_unit_77 : decode cX11_unit 77 = .ok (.isub, 1) := by decide +kernel
theorem dX11_unit_78 : decode cX11_unit 78 = .ok (.invokevirtual 302, 3) := by decide +kernel
theorem dX11_unit_81 : decode cX11_unit 81 = .ok (.aload_n 0, 1) := by decide +kernel
theorem dX11_unit_82 : decode cX11_unit 82 = .ok (.invokevirtual 224, 3) := by decide +kernel
theorem dX11_unit_85 : decode cX11_unit 85 = .ok (.goto 8, 3) := by decide +kernel
theorem dX11_unit_88 : decode cX11_unit 88 = .ok (.aload_n 0, 1) := by decide +kernel
theorem dX11_unit_89 : decode cX11_unit 89 = .ok (.iconst 1, 1) := by decide +kernel
theorem dX11_unit_90 : decode cX11_unit 90 = .ok (.invokevirtual 218, 3) := by decide +kernel
theorem dX11_unit_93 : decode cX11_unit 93 = .ok (.return_, 1) := by decide +kernel
theorem dX11_termOf_0 : decode cX11_termOf 0 = .ok (.iconst 0, 1) := by decide +kernel
theorem dX11_termOf_1 : decode cX11_termOf 1 = .ok (.istore_n 3, 1) := by decide +kernel
theorem dX11_termOf_2 : decode cX11_termOf 2 = .ok (.iload_n 1, 1) := by decide +kernel
theorem dX11_termOf_3 : decode cX11_termOf 3 = .ok (.istore 4, 2) := by decide +kernel
theorem dX11_termOf_5 : decode cX11_termOf 5 = .ok (.iload 4, 2) := by decide +kernel
theorem dX11_termOf_7 : decode cX11_termOf 7 = .ok (.iload_n 2, 1) := by decide +kernel
theorem dX11_termOf_8 : decode cX11_termOf 8 = .ok (.if_icmp .ge 157, 3) := by decide +kernel
theorem dX11_termOf_11 : decode cX11_termOf 11 = .ok (.aload_n 0, 1) := by decide +kernel
theorem dX11_termOf_12 : decode cX11_termOf 12 = .ok (.getfield 98, 3) := by decide +kernel
theorem dX11_termOf_15 : decode cX11_termOf 15 = .ok (.iload 4, 2) := by decide +kernel
theorem dX11_termOf_17 : decode cX11_termOf 17 = .ok (.iaload, 1) := by decide +kernel
theorem dX11_termOf_18 : decode cX11_termOf 18 = .ok (.istore 5, 2) := by decide +kernel
theorem dX11_termOf_20 : decode cX11_termOf 20 = .ok (.iload 5, 2) := by decide +kernel
theorem dX11_termOf_22 : decode cX11_termOf 22 = .ok (.iconst 2, 1) := by decide +kernel
theorem dX11_termOf_23 : decode cX11_termOf 23 = .ok (.if_icmp .ge 42, 3) := by decide +kernel
theorem dX11_termOf_26 : decode cX11_termOf 26 = .ok (.aload_n 0, 1) := by decide +kernel
theorem dX11_termOf_27 : decode cX11_termOf 27 = .ok (.getfield 110, 3) := by decide +kernel
theorem dX11_termOf_30 : decode cX11_termOf 30 = .ok (.iload_n 3, 1) := by decide +kernel
theorem dX11_termOf_31 : decode cX11_termOf 31 = .ok (.iload 5, 2) := by decide +kernel
theorem dX11_termOf_33 : decode cX11_termOf 33 = .ok (.ifCond .ne 13, 3) := by decide +kernel
theorem dX11_termOf_36 : decode cX11_termOf 36 = .ok (.aload_n 0, 1) := by decide +kernel
theorem dX11_termOf_37 : decode cX11_termOf 37 = .ok (.getfield 101, 3) := by decide +kernel
theorem dX11_termOf_40 : decode cX11_termOf 40 = .ok (.iload 4, 2) := by decide +kernel
theorem dX11_termOf_42 : decode cX11_termOf 42 = .ok (.iaload, 1) := by decide +kernel
theorem dX11_termOf_43 : decode cX11_termOf 43 = .ok (.goto 15, 3) := by decide +kernel
theorem dX11_termOf_46 : decode cX11_termOf 46 = .ok (.aload_n 0, 1) := by decide +kernel
theorem dX11_termOf_47 : decode cX11_termOf 47 = .ok (.getfield 107, 3) := by decide +kernel
theorem dX11_termOf_50 : decode cX11_termOf 50 = .ok (.aload_n 0, 1) := by decide +kernel
theorem dX11_termOf_51 : decode cX11_termOf 51 = .ok (.getfield 101, 3) := by decide +kernel
theorem dX11_termOf_54 : decode cX11_termOf 54 = .ok (.iload 4, 2) := by decide +kernel
theorem dX11_termOf_56 : decode cX11_termOf 56 = .ok (.iaload, 1) := by decide +kernel
theorem dX11_termOf_57 : decode cX11_termOf 57 = .ok (.iaload, 1) := by decide +kernel
theorem dX11_termOf_58 : decode cX11_termOf 58 = .ok (.iastore, 1) := by decide +kernel
theorem dX11_termOf_59 : decode cX11_termOf 59 = .ok (.iinc 3 1, 3) := by decide +kernel
theorem dX11_termOf_62 : decode cX11_termOf 62 = .ok (.goto 97, 3) := by decide +kernel
theorem dX11_termOf_65 : decode cX11_termOf 65 = .ok (.iinc 3 (-1), 3) := by decide +kernel
theorem dX11_termOf_68 : decode cX11_termOf 68 = .ok (.aload_n 0, 1) := by decide +kernel
theorem dX11_termOf_69 : decode cX11_termOf 69 = .ok (.getfield 110, 3) := by decide +kernel
theorem dX11_termOf_72 : decode cX11_termOf 72 = .ok (.iload_n 3, 1) := by decide +kernel
theorem dX11_termOf_73 : decode cX11_termOf 73 = .ok (.iconst 1, 1) := by decide +kernel
theorem dX11_termOf_74 : decode cX11_termOf 74 = .ok (.isub, 1) := by decide +kernel
theorem dX11_termOf_75 : decode cX11_termOf 75 = .ok (.iaload, 1) := by decide +kernel
theorem dX11_termOf_76 : decode cX11_termOf 76 = .ok (.istore 6, 2) := by decide +kernel
theorem dX11_termOf_78 : decode cX11_termOf 78 = .ok (.aload_n 0, 1) := by decide +kernel
theorem dX11_termOf_79 : decode cX11_termOf 79 = .ok (.getfield 110, 3) := by decide +kernel
theorem dX11_termOf_82 : decode cX11_termOf 82 = .ok (.iload_n 3, 1) := by decide +kernel
theorem dX11_termOf_83 : decode cX11_termOf 83 = .ok (.iaload, 1) := by decide +kernel
theorem dX11_termOf_84 : decode cX11_termOf 84 = .ok (.istore 7, 2) := by decide +kernel
theorem dX11_termOf_86 : decode cX11_termOf 86 = .ok (.iload 5, 2) := by decide +kernel
theorem dX11_termOf_88 : decode cX11_termOf 88 = .ok (.iconst 5, 1) := by decide +kernel
theorem dX11_termOf_89 : decode cX11_termOf 89 = .ok (.if_icmp .ne 15, 3) := by decide +kernel
theorem dX11_termOf_92 : decode cX11_termOf 92 = .ok (.iload 7, 2) := by decide +kernel
theorem dX11_termOf_94 : decode cX11_termOf 94 = .ok (.ifCond .ne 10, 3) := by decide +kernel
theorem dX11_termOf_97 : decode cX11_termOf 97 = .ok (.aload_n 0, 1) := by decide +kernel
theorem dX11_termOf_98 : decode cX11_termOf 98 = .ok (.iconst 1, 1) := by decide +kernel
theorem dX11_termOf_99 : decode cX11_termOf 99 = .ok (.putfield 312, 3) := by decide +kernel
theorem dX11_termOf_102 : decode cX11_termOf 102 = .ok (.iconst 0, 1) := by decide +kernel
theorem dX11_termOf_103 : decode cX11_termOf 103 = .ok (.ireturn, 1) := by decide +kernel
theorem dX11_termOf_104 : decode cX11_termOf 104 = .ok (.aload_n 0, 1) := by decide +kernel
theorem dX11_termOf_105 : decode cX11_termOf 105 = .ok (.getfield 110, 3) := by decide +kernel
theorem dX11_termOf_108 : decode cX11_termOf 108 = .ok (.iload_n 3, 1) := by decide +kernel
theorem dX11_termOf_109 : decode cX11_termOf 109 = .ok (.iconst 1, 1) := by decide +kernel
theorem dX11_termOf_110 : decode cX11_termOf 110 = .ok (.isub, 1) := by decide +kernel
theorem dX11_termOf_111 : decode cX11_termOf 111 = .ok (.iload 5, 2) := by decide +kernel
theorem dX11_termOf_113 : decode cX11_termOf 113 = .ok (.iconst 2, 1) := by decide +kernel
theorem dX11_termOf_114 : decode cX11_termOf 114 = .ok (.if_icmp .ne 11, 3) := by decide +kernel
theorem dX11_termOf_117 : decode cX11_termOf 117 = .ok (.iload 6, 2) := by decide +kernel
theorem dX11_termOf_119 : decode cX11_termOf 119 = .ok (.iload 7, 2) := by decide +kernel
theorem dX11_termOf_121 : decode cX11_termOf 121 = .ok (.iadd, 1) := by decide +kernel
theorem dX11_termOf_122 : decode cX11_termOf 122 = .ok (.goto 36, 3) := by decide +kernel
theorem dX11_termOf_125 : decode cX11_termOf 125 = .ok (.iload 5, 2) := by decide +kernel
theorem dX11_termOf_127 : decode cX11_termOf 127 = .ok (.iconst 3, 1) := by decide +kernel
theorem dX11_termOf_128 : decode cX11_termOf 128 = .ok (.if_icmp .ne 11, 3) := by decide +kernel
theorem dX11_termOf_131 : decode cX11_termOf 131 = .ok (.iload 6, 2) := by decide +kernel
theorem dX11_termOf_133 : decode cX11_termOf 133 = .ok (.iload 7, 2) := by decide +kernel
theorem dX11_termOf_135 : decode cX11_termOf 135 = .ok (.isub, 1) := by decide +kernel
theorem dX11_termOf_136 : decode cX11_termOf 136 = .ok (.goto 22, 3) := by decide +kernel
theorem dX11_termOf_139 : decode cX11_termOf 139 = .ok (.iload 5, 2) := by decide +kernel
theorem dX11_termOf_141 : decode cX11_termOf 141 = .ok (.iconst 4, 1) := by decide +kernel
theorem dX11_termOf_142 : decode cX11_termOf 142 = .ok (.if_icmp .ne 11, 3) := by decide +kernel
theorem dX11_termOf_145 : decode cX11_termOf 145 = .ok (.iload 6, 2) := by decide +kernel
theorem dX11_termOf_147 : decode cX11_termOf 147 = .ok (.iload 7, 2) := by decide +kernel
theorem dX11_termOf_149 : decode cX11_termOf 149 = .ok (.imul, 1) := by decide +kernel
theorem dX11_termOf_150 : decode cX11_termOf 150 = .ok (.goto 8, 3) := by decide +kernel
theorem dX11_termOf_153 : decode cX11_termOf 153 = .ok (.iload 6, 2) := by decide +kernel
theorem dX11_termOf_155 : decode cX11_termOf 155 = .ok (.iload 7, 2) := by decide +kernel
theorem dX11_termOf_157 : decode cX11_termOf 157 = .ok (.idiv, 1) := by decide +kernel
theorem dX11_termOf_158 : decode cX11_termOf 158 = .ok (.iastore, 1) := by decide +kernel
theorem dX11_termOf_159 : decode cX11_termOf 159 = .ok (.iinc 4 1, 3) := by decide +kernel
theorem dX11_termOf_162 : decode cX11_termOf 162 = .ok (.goto (-157), 3) := by decide +kernel
theorem dX11_termOf_165 : decode cX11_termOf 165 = .ok (.aload_n 0, 1) := by decide +kernel
theorem dX11_termOf_166 : decode cX11_termOf 166 = .ok (.getfield 110, 3) := by decide +kernel
theorem dX11_termOf_169 : decode cX11_termOf 169 = .ok (.iconst 0, 1) := by decide +kernel
theorem dX11_termOf_170 : decode cX11_termOf 170 = .ok (.iaload, 1) := by decide +kernel
theorem dX11_termOf_171 : decode cX11_termOf 171 = .ok (.ireturn, 1) := by decide +kernel
theorem dX11_in_0 : decode cX11_in 0 = .ok (.iload_n 0, 1) := by decide +kernel
theorem dX11_in_1 : decode cX11_in 1 = .ok (.iload_n 1, 1) := by decide +kernel
theorem dX11_in_2 : decode cX11_in 2 = .ok (.if_icmp .lt 12, 3) := by decide +kernel
theorem dX11_in_5 : decode cX11_in 5 = .ok (.iload_n 0, 1) := by decide +kernel
theorem dX11_in_6 : decode cX11_in 6 = .ok (.iload_n 2, 1) := by decide +kernel
theorem dX11_in_7 : decode cX11_in 7 = .ok (.if_icmp .gt 7, 3) := by decide +kernel
theorem dX11_in_10 : decode cX11_in 10 = .ok (.iconst 1, 1) := by decide +kernel
theorem dX11_in_11 : decode cX11_in 11 = .ok (.goto 4, 3) := by decide +kernel
theorem dX11_in_14 : decode cX11_in 14 = .ok (.iconst 0, 1) := by decide +kernel
theorem dX11_in_15 : decode cX11_in 15 = .ok (.ireturn, 1) := by decide +kernel
theorem dX11_held_0 : decode cX11_held 0 = .ok (.iload_n 0, 1) := by decide +kernel
theorem dX11_held_1 : decode cX11_held 1 = .ok (.iload_n 1, 1) := by decide +kernel
theorem dX11_held_2 : decode cX11_held 2 = .ok (.if_icmp .ge 7, 3) := by decide +kernel
theorem dX11_held_5 : decode cX11_held 5 = .ok (.iload_n 1, 1) := by decide +kernel
theorem dX11_held_6 : decode cX11_held 6 = .ok (.goto 13, 3) := by decide +kernel
theorem dX11_held_9 : decode cX11_held 9 = .ok (.iload_n 0, 1) := by decide +kernel
theorem dX11_held_10 : decode cX11_held 10 = .ok (.iload_n 2, 1) := by decide +kernel
theorem dX11_held_11 : decode cX11_held 11 = .ok (.if_icmp .le 7, 3) := by decide +kernel
theorem dX11_held_14 : decode cX11_held 14 = .ok (.iload_n 2, 1) := by decide +kernel
theorem dX11_held_15 : decode cX11_held 15 = .ok (.goto 4, 3) := by decide +kernel
theorem dX11_held_18 : decode cX11_held 18 = .ok (.iload_n 0, 1) := by decide +kernel
theorem dX11_held_19 : decode cX11_held 19 = .ok (.ireturn, 1) := by decide +kernel
theorem dX11_isSpouse_0 : decode cX11_isSpouse 0 = .ok (.iload_n 1, 1) := by decide +kernel
theorem dX11_isSpouse_1 : decode cX11_isSpouse 1 = .ok (.iconst 0, 1) := by decide +kernel
theorem dX11_isSpouse_2 : decode cX11_isSpouse 2 = .ok (.aload_n 0, 1) := by decide +kernel
theorem dX11_isSpouse_3 : decode cX11_isSpouse 3 = .ok (.getfield 46, 3) := by decide +kernel
theorem dX11_isSpouse_6 : decode cX11_isSpouse 6 = .ok (.aload_n 0, 1) := by decide +kernel
theorem dX11_isSpouse_7 : decode cX11_isSpouse 7 = .ok (.getfield 233, 3) := by decide +kernel
theorem dX11_isSpouse_10 : decode cX11_isSpouse 10 = .ok (.iaload, 1) := by decide +kernel
theorem dX11_isSpouse_11 : decode cX11_isSpouse 11 = .ok (.iconst 1, 1) := by decide +kernel
theorem dX11_isSpouse_12 : decode cX11_isSpouse 12 = .ok (.isub, 1) := by decide +kernel
theorem dX11_isSpouse_13 : decode cX11_isSpouse 13 = .ok (.invokestatic 316, 3) := by decide +kernel
theorem dX11_isSpouse_16 : decode cX11_isSpouse 16 = .ok (.ireturn, 1) := by decide +kernel
theorem dX11_isCouple_0 : decode cX11_isCouple 0 = .ok (.iload_n 1, 1) := by decide +kernel
theorem dX11_isCouple_1 : decode cX11_isCouple 1 = .ok (.iconst 0, 1) := by decide +kernel
theorem dX11_isCouple_2 : decode cX11_isCouple 2 = .ok (.aload_n 0, 1) := by decide +kernel
theorem dX11_isCouple_3 : decode cX11_isCouple 3 = .ok (.getfield 55, 3) := by decide +kernel
theorem dX11_isCouple_6 : decode cX11_isCouple 6 = .ok (.aload_n 0, 1) := by decide +kernel
theorem dX11_isCouple_7 : decode cX11_isCouple 7 = .ok (.getfield 233, 3) := by decide +kernel
theorem dX11_isCouple_10 : decode cX11_isCouple 10 = .ok (.iaload, 1) := by decide +kernel
theorem dX11_isCouple_11 : decode cX11_isCouple 11 = .ok (.iconst 1, 1) := by decide +kernel
theorem dX11_isCouple_12 : decode cX11_isCouple 12 = .ok (.isub, 1) := by decide +kernel
theorem dX11_isCouple_13 : decode cX11_isCouple 13 = .ok (.invokestatic 316, 3) := by decide +kernel
theorem dX11_isCouple_16 : decode cX11_isCouple 16 = .ok (.ireturn, 1) := by decide +kernel
theorem dX11_isThird_0 : decode cX11_isThird 0 = .ok (.iload_n 1, 1) := by decide +kernel
theorem dX11_isThird_1 : decode cX11_isThird 1 = .ok (.iconst 0, 1) := by decide +kernel
theorem dX11_isThird_2 : decode cX11_isThird 2 = .ok (.aload_n 0, 1) := by decide +kernel
theorem dX11_isThird_3 : decode cX11_isThird 3 = .ok (.getfield 61, 3) := by decide +kernel
theorem dX11_isThird_6 : decode cX11_isThird 6 = .ok (.aload_n 0, 1) := by decide +kernel
theorem dX11_isThird_7 : decode cX11_isThird 7 = .ok (.getfield 233, 3) := by decide +kernel
theorem dX11_isThird_10 : decode cX11_isThird 10 = .ok (.iaload, 1) := by decide +kernel
theorem dX11_isThird_11 : decode cX11_isThird 11 = .ok (.iconst 1, 1) := by decide +kernel
theorem dX11_isThird_12 : decode cX11_isThird 12 = .ok (.isub, 1) := by decide +kernel
theorem dX11_isThird_13 : decode cX11_isThird 13 = .ok (.invokestatic 316, 3) := by decide +kernel
theorem dX11_isThird_16 : decode cX11_isThird 16 = .ok (.ireturn, 1) := by decide +kernel
theorem dX11_begins_0 : decode cX11_begins 0 = .ok (.iconst 0, 1) := by decide +kernel
theorem dX11_begins_1 : decode cX11_begins 1 = .ok (.istore_n 1, 1) := by decide +kernel
theorem dX11_begins_2 : decode cX11_begins 2 = .ok (.iload_n 1, 1) := by decide +kernel
theorem dX11_begins_3 : decode cX11_begins 3 = .ok (.bipush 48, 2) := by decide +kernel
theorem dX11_begins_5 : decode cX11_begins 5 = .ok (.if_icmp .ge 16, 3) := by decide +kernel
theorem dX11_begins_8 : decode cX11_begins 8 = .ok (.aload_n 0, 1) := by decide +kernel
theorem dX11_begins_9 : decode cX11_begins 9 = .ok (.getfield 116, 3) := by decide +kernel
theorem dX11_begins_12 : decode cX11_begins 12 = .ok (.iload_n 1, 1) := by decide +kernel
theorem dX11_begins_13 : decode cX11_begins 13 = .ok (.iconst 0, 1) := by decide +kernel
theorem dX11_begins_14 : decode cX11_begins 14 = .ok (.iastore, 1) := by decide +kernel
theorem dX11_begins_15 : decode cX11_begins 15 = .ok (.iinc 1 1, 3) := by decide +kernel
theorem dX11_begins_18 : decode cX11_begins 18 = .ok (.goto (-16), 3) := by decide +kernel
theorem dX11_begins_21 : decode cX11_begins 21 = .ok (.iconst 0, 1) := by decide +kernel
theorem dX11_begins_22 : decode cX11_begins 22 = .ok (.istore_n 1, 1) := by decide +kernel
theorem dX11_begins_23 : decode cX11_begins 23 = .ok (.iload_n 1, 1) := by decide +kernel
theorem dX11_begins_24 : decode cX11_begins 24 = .ok (.aload_n 0, 1) := by decide +kernel
theorem dX11_begins_25 : decode cX11_begins 25 = .ok (.getfield 46, 3) := by decide +kernel
theorem dX11_begins_28 : decode cX11_begins 28 = .ok (.aload_n 0, 1) := by decide +kernel
theorem dX11_begins_29 : decode cX11_begins 29 = .ok (.getfield 233, 3) := by decide +kernel
theorem dX11_begins_32 : decode cX11_begins 32 = .ok (.iaload, 1) := by decide +kernel
theorem dX11_begins_33 : decode cX11_begins 33 = .ok (.if_icmp .ge 29, 3) := by decide +kernel
theorem dX11_begins_36 : decode cX11_begins 36 = .ok (.aload_n 0, 1) := by decide +kernel
theorem dX11_begins_37 : decode cX11_begins 37 = .ok (.getfield 116, 3) := by decide +kernel
theorem dX11_begins_40 : decode cX11_begins 40 = .ok (.iload_n 1, 1) := by decide +kernel
theorem dX11_begins_41 : decode cX11_begins 41 = .ok (.aload_n 0, 1) := by decide +kernel
theorem dX11_begins_42 : decode cX11_begins 42 = .ok (.getfield 49, 3) := by decide +kernel
theorem dX11_begins_45 : decode cX11_begins 45 = .ok (.bipush 6, 2) := by decide +kernel
theorem dX11_begins_47 : decode cX11_begins 47 = .ok (.aload_n 0, 1) := by decide +kernel
theorem dX11_begins_48 : decode cX11_begins 48 = .ok (.getfield 233, 3) := by decide +kernel
theorem dX11_begins_51 : decode cX11_begins 51 = .ok (.imul, 1) := by decide +kernel
theorem dX11_begins_52 : decode cX11_begins 52 = .ok (.iload_n 1, 1) := by decide +kernel
theorem dX11_begins_53 : decode cX11_begins 53 = .ok (.iadd, 1) := by decide +kernel
theorem dX11_begins_54 : decode cX11_begins 54 = .ok (.iaload, 1) := by decide +kernel
theorem dX11_begins_55 : decode cX11_begins 55 = .ok (.iastore, 1) := by decide +kernel
theorem dX11_begins_56 : decode cX11_begins 56 = .ok (.iinc 1 1, 3) := by decide +kernel
theorem dX11_begins_59 : decode cX11_begins 59 = .ok (.goto (-36), 3) := by decide +kernel
theorem dX11_begins_62 : decode cX11_begins 62 = .ok (.iconst 0, 1) := by decide +kernel
theorem dX11_begins_63 : decode cX11_begins 63 = .ok (.istore_n 1, 1) := by decide +kernel
theorem dX11_begins_64 : decode cX11_begins 64 = .ok (.iload_n 1, 1) := by decide +kernel
theorem dX11_begins_65 : decode cX11_begins 65 = .ok (.iconst 3, 1) := by decide +kernel
theorem dX11_begins_66 : decode cX11_begins 66 = .ok (.if_icmp .ge 20, 3) := by decide +kernel
theorem dX11_begins_69 : decode cX11_begins 69 = .ok (.aload_n 0, 1) := by decide +kernel
theorem dX11_begins_70 : decode cX11_begins 70 = .ok (.getfield 116, 3) := by decide +kernel
theorem dX11_begins_73 : decode cX11_begins 73 = .ok (.bipush 12, 2) := by decide +kernel
theorem dX11_begins_75 : decode cX11_begins 75 = .ok (.iload_n 1, 1) := by decide +kernel
theorem dX11_begins_76 : decode cX11_begins 76 = .ok (.iadd, 1) := by decide +kernel
theorem dX11_begins_77 : decode cX11_begins 77 = .ok (.bipush (-2), 2) := by decide +kernel
theorem dX11_begins_79 : decode cX11_begins 79 = .ok (.iastore, 1) := by decide +kernel
theorem dX11_begins_80 : decode cX11_begins 80 = .ok (.iinc 1 1, 3) := by decide +kernel
theorem dX11_begins_83 : decode cX11_begins 83 = .ok (.goto (-19), 3) := by decide +kernel
theorem dX11_begins_86 : decode cX11_begins 86 = .ok (.iconst 0, 1) := by decide +kernel
theorem dX11_begins_87 : decode cX11_begins 87 = .ok (.istore_n 1, 1) := by decide +kernel
theorem dX11_begins_88 : decode cX11_begins 88 = .ok (.iload_n 1, 1) := by decide +kernel
theorem dX11_begins_89 : decode cX11_begins 89 = .ok (.aload_n 0, 1) := by decide +kernel
theorem dX11_begins_90 : decode cX11_begins 90 = .ok (.getfield 61, 3) := by decide +kernel
theorem dX11_begins_93 : decode cX11_begins 93 = .ok (.aload_n 0, 1) := by decide +kernel
theorem dX11_begins_94 : decode cX11_begins 94 = .ok (.getfield 233, 3) := by decide +kernel
theorem dX11_begins_97 : decode cX11_begins 97 = .ok (.iaload, 1) := by decide +kernel
theorem dX11_begins_98 : decode cX11_begins 98 = .ok (.if_icmp .ge 31, 3) := by decide +kernel
theorem dX11_begins_101 : decode cX11_begins 101 = .ok (.aload_n 0, 1) := by decide +kernel
theorem dX11_begins_102 : decode cX11_begins 102 = .ok (.getfield 116, 3) := by decide +kernel
theorem dX11_begins_105 : decode cX11_begins 105 = .ok (.bipush 24, 2) := by decide +kernel
theorem dX11_begins_107 : decode cX11_begins 107 = .ok (.iload_n 1, 1) := by decide +kernel
theorem dX11_begins_108 : decode cX11_begins 108 = .ok (.iadd, 1) := by decide +kernel
theorem dX11_begins_109 : decode cX11_begins 109 = .ok (.aload_n 0, 1) := by decide +kernel
theorem dX11_begins_110 : decode cX11_begins 110 = .ok (.getfield 67, 3) := by decide +kernel
theorem dX11_begins_113 : decode cX11_begins 113 = .ok (.iconst 4, 1) := by decide +kernel
theorem dX11_begins_114 : decode cX11_begins 114 = .ok (.aload_n 0, 1) := by decide +kernel
theorem dX11_begins_115 : decode cX11_begins 115 = .ok (.getfield 233, 3) := by decide +kernel
theorem dX11_begins_118 : decode cX11_begins 118 = .ok (.imul, 1) := by decide +kernel
theorem dX11_begins_119 : decode cX11_begins 119 = .ok (.iload_n 1, 1) := by decide +kernel
theorem dX11_begins_120 : decode cX11_begins 120 = .ok (.iadd, 1) := by decide +kernel
theorem dX11_begins_121 : decode cX11_begins 121 = .ok (.iaload, 1) := by decide +kernel
theorem dX11_begins_122 : decode cX11_begins 122 = .ok (.iastore, 1) := by decide +kernel
theorem dX11_begins_123 : decode cX11_begins 123 = .ok (.iinc 1 1, 3) := by decide +kernel
theorem dX11_begins_126 : decode cX11_begins 126 = .ok (.goto (-38), 3) := by decide +kernel
theorem dX11_begins_129 : decode cX11_begins 129 = .ok (.aload_n 0, 1) := by decide +kernel
theorem dX11_begins_130 : decode cX11_begins 130 = .ok (.aload_n 0, 1) := by decide +kernel
theorem dX11_begins_131 : decode cX11_begins 131 = .ok (.getfield 73, 3) := by decide +kernel
theorem dX11_begins_134 : decode cX11_begins 134 = .ok (.aload_n 0, 1) := by decide +kernel
theorem dX11_begins_135 : decode cX11_begins 135 = .ok (.getfield 233, 3) := by decide +kernel
theorem dX11_begins_138 : decode cX11_begins 138 = .ok (.iaload, 1) := by decide +kernel
theorem dX11_begins_139 : decode cX11_begins 139 = .ok (.putfield 320, 3) := by decide +kernel
theorem dX11_begins_142 : decode cX11_begins 142 = .ok (.return_, 1) := by decide +kernel
theorem dX11_keepsRow_0 : decode cX11_keepsRow 0 = .ok (.iconst 0, 1) := by decide +kernel
theorem dX11_keepsRow_1 : decode cX11_keepsRow 1 = .ok (.istore_n 1, 1) := by decide +kernel
theorem dX11_keepsRow_2 : decode cX11_keepsRow 2 = .ok (.iload_n 1, 1) := by decide +kernel
theorem dX11_keepsRow_3 : decode cX11_keepsRow 3 = .ok (.bipush 48, 2) := by decide +kernel
theorem dX11_keepsRow_5 : decode cX11_keepsRow 5 = .ok (.if_icmp .ge 21, 3) := by decide +kernel
theorem dX11_keepsRow_8 : decode cX11_keepsRow 8 = .ok (.aload_n 0, 1) := by decide +kernel
theorem dX11_keepsRow_9 : decode cX11_keepsRow 9 = .ok (.getfield 113, 3) := by decide +kernel
theorem dX11_keepsRow_12 : decode cX11_keepsRow 12 = .ok (.iload_n 1, 1) := by decide +kernel
theorem dX11_keepsRow_13 : decode cX11_keepsRow 13 = .ok (.aload_n 0, 1) := by decide +kernel
theorem dX11_keepsRow_14 : decode cX11_keepsRow 14 = .ok (.getfield 116, 3) := by decide +kernel
theorem dX11_keepsRow_17 : decode cX11_keepsRow 17 = .ok (.iload_n 1, 1) := by decide +kernel
theorem dX11_keepsRow_18 : decode cX11_keepsRow 18 = .ok (.iaload, 1) := by decide +kernel
theorem dX11_keepsRow_19 : decode cX11_keepsRow 19 = .ok (.iastore, 1) := by decide +kernel
theorem dX11_keepsRow_20 : decode cX11_keepsRow 20 = .ok (.iinc 1 1, 3) := by decide +kernel
theorem dX11_keepsRow_23 : decode cX11_keepsRow 23 = .ok (.goto (-21), 3) := by decide +kernel
theorem dX11_keepsRow_26 : decode cX11_keepsRow 26 = .ok (.return_, 1) := by decide +kernel
theorem dX11_copies_0 : decode cX11_copies 0 = .ok (.iconst 0, 1) := by decide +kernel
theorem dX11_copies_1 : decode cX11_copies 1 = .ok (.istore_n 1, 1) := by decide +kernel
theorem dX11_copies_2 : decode cX11_copies 2 = .ok (.iload_n 1, 1) := by decide +kernel
theorem dX11_copies_3 : decode cX11_copies 3 = .ok (.bipush 48, 2) := by decide +kernel
theorem dX11_copies_5 : decode cX11_copies 5 = .ok (.if_icmp .ge 21, 3) := by decide +kernel
theorem dX11_copies_8 : decode cX11_copies 8 = .ok (.aload_n 0, 1) := by decide +kernel
theorem dX11_copies_9 : decode cX11_copies 9 = .ok (.getfield 116, 3) := by decide +kernel
theorem dX11_copies_12 : decode cX11_copies 12 = .ok (.iload_n 1, 1) := by decide +kernel
theorem dX11_copies_13 : decode cX11_copies 13 = .ok (.aload_n 0, 1) := by decide +kernel
theorem dX11_copies_14 : decode cX11_copies 14 = .ok (.getfield 113, 3) := by decide +kernel
theorem dX11_copies_17 : decode cX11_copies 17 = .ok (.iload_n 1, 1) := by decide +kernel
theorem dX11_copies_18 : decode cX11_copies 18 = .ok (.iaload, 1) := by decide +kernel
theorem dX11_copies_19 : decode cX11_copies 19 = .ok (.iastore, 1) := by decide +kernel
theorem dX11_copies_20 : decode cX11_copies 20 = .ok (.iinc 1 1, 3) := by decide +kernel
theorem dX11_copies_23 : decode cX11_copies 23 = .ok (.goto (-21), 3) := by decide +kernel
theorem dX11_copies_26 : decode cX11_copies 26 = .ok (.aload_n 0, 1) := by decide +kernel
theorem dX11_copies_27 : decode cX11_copies 27 = .ok (.aload_n 0, 1) := by decide +kernel
theorem dX11_copies_28 : decode cX11_copies 28 = .ok (.getfield 73, 3) := by decide +kernel
theorem dX11_copies_31 : decode cX11_copies 31 = .ok (.aload_n 0, 1) := by decide +kernel
theorem dX11_copies_32 : decode cX11_copies 32 = .ok (.getfield 233, 3) := by decide +kernel
theorem dX11_copies_35 : decode cX11_copies 35 = .ok (.iaload, 1) := by decide +kernel
theorem dX11_copies_36 : decode cX11_copies 36 = .ok (.putfield 320, 3) := by decide +kernel
theorem dX11_copies_39 : decode cX11_copies 39 = .ok (.return_, 1) := by decide +kernel
theorem dX11_mixed_0 : decode cX11_mixed 0 = .ok (.iload_n 0, 1) := by decide +kernel
theorem dX11_mixed_1 : decode cX11_mixed 1 = .ok (.iload_n 1, 1) := by decide +kernel
theorem dX11_mixed_2 : decode cX11_mixed 2 = .ok (.ixor, 1) := by decide +kernel
theorem dX11_mixed_3 : decode cX11_mixed 3 = .ok (.ldc_w 323, 3) := by decide +kernel
theorem dX11_mixed_6 : decode cX11_mixed 6 = .ok (.imul, 1) := by decide +kernel
theorem dX11_mixed_7 : decode cX11_mixed 7 = .ok (.sipush 12345, 3) := by decide +kernel
theorem dX11_mixed_10 : decode cX11_mixed 10 = .ok (.iadd, 1) := by decide +kernel
theorem dX11_mixed_11 : decode cX11_mixed 11 = .ok (.istore_n 2, 1) := by decide +kernel
theorem dX11_mixed_12 : decode cX11_mixed 12 = .ok (.iload_n 2, 1) := by decide +kernel
theorem dX11_mixed_13 : decode cX11_mixed 13 = .ok (.iload_n 2, 1) := by decide +kernel
theorem dX11_mixed_14 : decode cX11_mixed 14 = .ok (.bipush 15, 2) := by decide +kernel
theorem dX11_mixed_16 : decode cX11_mixed 16 = .ok (.iushr, 1) := by decide +kernel
theorem dX11_mixed_17 : decode cX11_mixed 17 = .ok (.ixor, 1) := by decide +kernel
theorem dX11_mixed_18 : decode cX11_mixed 18 = .ok (.ireturn, 1) := by decide +kernel
theorem dX11_lotOf_0 : decode cX11_lotOf 0 = .ok (.aload_n 0, 1) := by decide +kernel
theorem dX11_lotOf_1 : decode cX11_lotOf 1 = .ok (.getfield 320, 3) := by decide +kernel
theorem dX11_lotOf_4 : decode cX11_lotOf 4 = .ok (.bipush 91, 2) := by decide +kernel
theorem dX11_lotOf_6 : decode cX11_lotOf 6 = .ok (.invokestatic 324, 3) := by decide +kernel
theorem dX11_lotOf_9 : decode cX11_lotOf 9 = .ok (.iload_n 1, 1) := by decide +kernel
theorem dX11_lotOf_10 : decode cX11_lotOf 10 = .ok (.invokestatic 324, 3) := by decide +kernel
theorem dX11_lotOf_13 : decode cX11_lotOf 13 = .ok (.iconst 1, 1) := by decide +kernel
theorem dX11_lotOf_14 : decode cX11_lotOf 14 = .ok (.iushr, 1) := by decide +kernel
theorem dX11_lotOf_15 : decode cX11_lotOf 15 = .ok (.bipush 100, 2) := by decide +kernel
theorem dX11_lotOf_17 : decode cX11_lotOf 17 = .ok (.irem, 1) := by decide +kernel
theorem dX11_lotOf_18 : decode cX11_lotOf 18 = .ok (.ireturn, 1) := by decide +kernel
theorem dX11_looks_0 : decode cX11_looks 0 = .ok (.iconst 0, 1) := by decide +kernel
theorem dX11_looks_1 : decode cX11_looks 1 = .ok (.istore_n 1, 1) := by decide +kernel
theorem dX11_looks_2 : decode cX11_looks 2 = .ok (.iload_n 1, 1) := by decide +kernel
theorem dX11_looks_3 : decode cX11_looks 3 = .ok (.bipush 9, 2) := by decide +kernel
theorem dX11_looks_5 : decode cX11_looks 5 = .ok (.if_icmp .ge 16, 3) := by decide +kernel
theorem dX11_looks_8 : decode cX11_looks 8 = .ok (.aload_n 0, 1) := by decide +kernel
theorem dX11_looks_9 : decode cX11_looks 9 = .ok (.getfield 107, 3) := by decide +kernel
theorem dX11_looks_12 : decode cX11_looks 12 = .ok (.iload_n 1, 1) := by decide +kernel
theorem dX11_looks_13 : decode cX11_looks 13 = .ok (.iconst 0, 1) := by decide +kernel
theorem dX11_looks_14 : decode cX11_looks 14 = .ok (.iastore, 1) := by decide +kernel
theorem dX11_looks_15 : decode cX11_looks 15 = .ok (.iinc 1 1, 3) := by decide +kernel
theorem dX11_looks_18 : decode cX11_looks 18 = .ok (.goto (-16), 3) := by decide +kernel
theorem dX11_looks_21 : decode cX11_looks 21 = .ok (.aload_n 0, 1) := by decide +kernel
theorem dX11_looks_22 : decode cX11_looks 22 = .ok (.getfield 107, 3) := by decide +kernel
theorem dX11_looks_25 : decode cX11_looks 25 = .ok (.bipush 6, 2) := by decide +kernel
theorem dX11_looks_27 : decode cX11_looks 27 = .ok (.aload_n 0, 1) := by decide +kernel
theorem dX11_looks_28 : decode cX11_looks 28 = .ok (.getfield 116, 3) := by decide +kernel
theorem dX11_looks_31 : decode cX11_looks 31 = .ok (.bipush 44, 2) := by decide +kernel
theorem dX11_looks_33 : decode cX11_looks 33 = .ok (.iaload, 1) := by decide +kernel
theorem dX11_looks_34 : decode cX11_looks 34 = .ok (.iastore, 1) := by decide +kernel
theorem dX11_looks_35 : decode cX11_looks 35 = .ok (.return_, 1) := by decide +kernel
theorem dX11_asks_0 : decode cX11_asks 0 = .ok (.bipush 7, 2) := by decide +kernel
theorem dX11_asks_2 : decode cX11_asks 2 = .ok (.aload_n 0, 1) := by decide +kernel
theorem dX11_asks_3 : decode cX11_asks 3 = .ok (.getfield 233, 3) := by decide +kernel
theorem dX11_asks_6 : decode cX11_asks 6 = .ok (.imul, 1) := by decide +kernel
theorem dX11_asks_7 : decode cX11_asks 7 = .ok (.iload_n 1, 1) := by decide +kernel
theorem dX11_asks_8 : decode cX11_asks 8 = .ok (.iadd, 1) := by decide +kernel
theorem dX11_asks_9 : decode cX11_asks 9 = .ok (.istore_n 3, 1) := by decide +kernel
theorem dX11_asks_10 : decode cX11_asks 10 = .ok (.aload_n 0, 1) := by decide +kernel
theorem dX11_asks_11 : decode cX11_asks 11 = .ok (.getfield 76, 3) := by decide +kernel
theorem dX11_asks_14 : decode cX11_asks 14 = .ok (.iload_n 3, 1) := by decide +kernel
theorem dX11_asks_15 : decode cX11_asks 15 = .ok (.iaload, 1) := by decide +kernel
theorem dX11_asks_16 : decode cX11_asks 16 = .ok (.aload_n 0, 1) := by decide +kernel
theorem dX11_asks_17 : decode cX11_asks 17 = .ok (.getfield 79, 3) := by decide +kernel
theorem dX11_asks_20 : decode cX11_asks 20 = .ok (.iload_n 3, 1) := by decide +kernel
theorem dX11_asks_21 : decode cX11_asks 21 = .ok (.iaload, 1) := by decide +kernel
theorem dX11_asks_22 : decode cX11_asks 22 = .ok (.if_icmp .ne 5, 3) := by decide +kernel
theorem dX11_asks_25 : decode cX11_asks 25 = .ok (.iload_n 2, 1) := by decide +kernel
theorem dX11_asks_26 : decode cX11_asks 26 = .ok (.ireturn, 1) := by decide +kernel
theorem dX11_asks_27 : decode cX11_asks 27 = .ok (.aload_n 0, 1) := by decide +kernel
theorem dX11_asks_28 : decode cX11_asks 28 = .ok (.iconst 0, 1) := by decide +kernel
theorem dX11_asks_29 : decode cX11_asks 29 = .ok (.putfield 312, 3) := by decide +kernel
theorem dX11_asks_32 : decode cX11_asks 32 = .ok (.aload_n 0, 1) := by decide +kernel
theorem dX11_asks_33 : decode cX11_asks 33 = .ok (.getfield 76, 3) := by decide +kernel
theorem dX11_asks_36 : decode cX11_asks 36 = .ok (.iload_n 3, 1) := by decide +kernel
theorem dX11_asks_37 : decode cX11_asks 37 = .ok (.iaload, 1) := by decide +kernel
theorem dX11_asks_38 : decode cX11_asks 38 = .ok (.istore 4, 2) := by decide +kernel
theorem dX11_asks_40 : decode cX11_asks 40 = .ok (.iload 4, 2) := by decide +kernel
theorem dX11_asks_42 : decode cX11_asks 42 = .ok (.aload_n 0, 1) := by decide +kernel
theorem dX11_asks_43 : decode cX11_asks 43 = .ok (.getfield 79, 3) := by decide +kernel
theorem dX11_asks_46 : decode cX11_asks 46 = .ok (.iload_n 3, 1) := by decide +kernel
theorem dX11_asks_47 : decode cX11_asks 47 = .ok (.iaload, 1) := by decide +kernel
theorem dX11_asks_48 : decode cX11_asks 48 = .ok (.if_icmp .ge 112, 3) := by decide +kernel
theorem dX11_asks_51 : decode cX11_asks 51 = .ok (.aload_n 0, 1) := by decide +kernel
theorem dX11_asks_52 : decode cX11_asks 52 = .ok (.getfield 82, 3) := by decide +kernel
theorem dX11_asks_55 : decode cX11_asks 55 = .ok (.iload 4, 2) := by decide +kernel
theorem dX11_asks_57 : decode cX11_asks 57 = .ok (.baload, 1) := by decide +kernel
theorem dX11_asks_58 : decode cX11_asks 58 = .ok (.ifCond .eq 62, 3) := by decide +kernel
theorem dX11_asks_61 : decode cX11_asks 61 = .ok (.aload_n 0, 1) := by decide +kernel
theorem dX11_asks_62 : decode cX11_asks 62 = .ok (.aload_n 0, 1) := by decide +kernel
theorem dX11_asks_63 : decode cX11_asks 63 = .ok (.getfield 86, 3) := by decide +kernel
theorem dX11_asks_66 : decode cX11_asks 66 = .ok (.iload 4, 2) := by decide +kernel
theorem dX11_asks_68 : decode cX11_asks 68 = .ok (.iaload, 1) := by decide +kernel
theorem dX11_asks_69 : decode cX11_asks 69 = .ok (.aload_n 0, 1) := by decide +kernel
theorem dX11_asks_70 : decode cX11_asks 70 = .ok (.getfield 89, 3) := by decide +kernel
theorem dX11_asks_73 : decode cX11_asks 73 = .ok (.iload 4, 2) := by decide +kernel
theorem dX11_asks_75 : decode cX11_asks 75 = .ok (.iaload, 1) := by decide +kernel
theorem dX11_asks_76 : decode cX11_asks 76 = .ok (.invokevirtual 327, 3) := by decide +kernel
theorem dX11_asks_79 : decode cX11_asks 79 = .ok (.istore 5, 2) := by decide +kernel
theorem dX11_asks_81 : decode cX11_asks 81 = .ok (.aload_n 0, 1) := by decide +kernel
theorem dX11_asks_82 : decode cX11_asks 82 = .ok (.aload_n 0, 1) := by decide +kernel
theorem dX11_asks_83 : decode cX11_asks 83 = .ok (.getfield 89, 3) := by decide +kernel
theorem dX11_asks_86 : decode cX11_asks 86 = .ok (.iload 4, 2) := by decide +kernel
theorem dX11_asks_88 : decode cX11_asks 88 = .ok (.iaload, 1) := by decide +kernel
theorem dX11_asks_89 : decode cX11_asks 89 = .ok (.aload_n 0, 1) := by decide +kernel
theorem dX11_asks_90 : decode cX11_asks 90 = .ok (.getfield 92, 3) := by decide +kernel
theorem dX11_asks_93 : decode cX11_asks 93 = .ok (.iload 4, 2) := by decide +kernel
theorem dX11_asks_95 : decode cX11_asks 95 = .ok (.iaload, 1) := by decide +kernel
theorem dX11_asks_96 : decode cX11_asks 96 = .ok (.invokevirtual 327, 3) := by decide +kernel
theorem dX11_asks_99 : decode cX11_asks 99 = .ok (.istore 6, 2) := by decide +kernel
theorem dX11_asks_101 : decode cX11_asks 101 = .ok (.aload_n 0, 1) := by decide +kernel
theorem dX11_asks_102 : decode cX11_asks 102 = .ok (.getfield 312, 3) := by decide +kernel
theorem dX11_asks_105 : decode cX11_asks 105 = .ok (.ifCond .eq 5, 3) := by decide +kernel
theorem dX11_asks_108 : decode cX11_asks 108 = .ok (.iconst 0, 1) := by decide +kernel
theorem dX11_asks_109 : decode cX11_asks 109 = .ok (.ireturn, 1) := by decide +kernel
theorem dX11_asks_110 : decode cX11_asks 110 = .ok (.iload 5, 2) := by decide +kernel
theorem dX11_asks_112 : decode cX11_asks 112 = .ok (.iload 6, 2) := by decide +kernel
theorem dX11_asks_114 : decode cX11_asks 114 = .ok (.if_icmp .lt 6, 3) := by decide +kernel
theorem dX11_asks_117 : decode cX11_asks 117 = .ok (.goto 37, 3) := by decide +kernel
theorem dX11_asks_120 : decode cX11_asks 120 = .ok (.aload_n 0, 1) := by decide +kernel
theorem dX11_asks_121 : decode cX11_asks 121 = .ok (.aload_n 0, 1) := by decide +kernel
theorem dX11_asks_122 : decode cX11_asks 122 = .ok (.getfield 92, 3) := by decide +kernel
theorem dX11_asks_125 : decode cX11_asks 125 = .ok (.iload 4, 2) := by decide +kernel
theorem dX11_asks_127 : decode cX11_asks 127 = .ok (.iaload, 1) := by decide +kernel
theorem dX11_asks_128 : decode cX11_asks 128 = .ok (.aload_n 0, 1) := by decide +kernel
theorem dX11_asks_129 : decode cX11_asks 129 = .ok (.getfield 95, 3) := by decide +kernel
theorem dX11_asks_132 : decode cX11_asks 132 = .ok (.iload 4, 2) := by decide +kernel
theorem dX11_asks_134 : decode cX11_asks 134 = .ok (.iaload, 1) := by decide +kernel
theorem dX11_asks_135 : decode cX11_asks 135 = .ok (.invokevirtual 327, 3) := by decide +kernel
theorem dX11_asks_138 : decode cX11_asks 138 = .ok (.istore 5, 2) := by decide +kernel
theorem dX11_asks_140 : decode cX11_asks 140 = .ok (.aload_n 0, 1) := by decide +kernel
theorem dX11_asks_141 : decode cX11_asks 141 = .ok (.getfield 312, 3) := by decide +kernel
theorem dX11_asks_144 : decode cX11_asks 144 = .ok (.ifCond .eq 7, 3) := by decide +kernel
theorem dX11_asks_147 : decode cX11_asks 147 = .ok (.iconst 0, 1) := by decide +kernel
theorem dX11_asks_148 : decode cX11_asks 148 = .ok (.goto 5, 3) := by decide +kernel
theorem dX11_asks_151 : decode cX11_asks 151 = .ok (.iload 5, 2) := by decide +kernel
theorem dX11_asks_153 : decode cX11_asks 153 = .ok (.ireturn, 1) := by decide +kernel
theorem dX11_asks_154 : decode cX11_asks 154 = .ok (.iinc 4 1, 3) := by decide +kernel
theorem dX11_asks_157 : decode cX11_asks 157 = .ok (.goto (-117), 3) := by decide +kernel
theorem dX11_asks_160 : decode cX11_asks 160 = .ok (.iconst 0, 1) := by decide +kernel
theorem dX11_asks_161 : decode cX11_asks 161 = .ok (.ireturn, 1) := by decide +kernel
theorem dX11_wordsIn_0 : decode cX11_wordsIn 0 = .ok (.iconst 1, 1) := by decide +kernel
theorem dX11_wordsIn_1 : decode cX11_wordsIn 1 = .ok (.istore_n 1, 1) := by decide +kernel
theorem dX11_wordsIn_2 : decode cX11_wordsIn 2 = .ok (.iconst 0, 1) := by decide +kernel
theorem dX11_wordsIn_3 : decode cX11_wordsIn 3 = .ok (.istore_n 2, 1) := by decide +kernel
theorem dX11_wordsIn_4 : decode cX11_wordsIn 4 = .ok (.iload_n 2, 1) := by decide +kernel
theorem dX11_wordsIn_5 : decode cX11_wordsIn 5 = .ok (.iconst 5, 1) := by decide +kernel
theorem dX11_wordsIn_6 : decode cX11_wordsIn 6 = .ok (.if_icmp .gt 28, 3) := by decide +kernel
theorem dX11_wordsIn_9 : decode cX11_wordsIn 9 = .ok (.iload_n 0, 1) := by decide +kernel
theorem dX11_wordsIn_10 : decode cX11_wordsIn 10 = .ok (.iload_n 1, 1) := by decide +kernel
theorem dX11_wordsIn_11 : decode cX11_wordsIn 11 = .ok (.if_icmp .lt 12, 3) := by decide +kernel
theorem dX11_wordsIn_14 : decode cX11_wordsIn 14 = .ok (.iload_n 0, 1) := by decide +kernel
theorem dX11_wordsIn_15 : decode cX11_wordsIn 15 = .ok (.iconst 2, 1) := by decide +kernel
theorem dX11_wordsIn_16 : decode cX11_wordsIn 16 = .ok (.iload_n 1, 1) := by decide +kernel
theorem dX11_wordsIn_17 : decode cX11_wordsIn 17 = .ok (.imul, 1) := by decide +kernel
theorem dX11_wordsIn_18 : decode cX11_wordsIn 18 = .ok (.if_icmp .ge 5, 3) := by decide +kernel
theorem dX11_wordsIn_21 : decode cX11_wordsIn 21 = .ok (.iload_n 2, 1) := by decide +kernel
theorem dX11_wordsIn_22 : decode cX11_wordsIn 22 = .ok (.ireturn, 1) := by decide +kernel
theorem dX11_wordsIn_23 : decode cX11_wordsIn 23 = .ok (.iload_n 1, 1) := by decide +kernel
theorem dX11_wordsIn_24 : decode cX11_wordsIn 24 = .ok (.bipush 8, 2) := by decide +kernel
theorem dX11_wordsIn_26 : decode cX11_wordsIn 26 = .ok (.imul, 1) := by decide +kernel
theorem dX11_wordsIn_27 : decode cX11_wordsIn 27 = .ok (.istore_n 1, 1) := by decide +kernel
theorem dX11_wordsIn_28 : decode cX11_wordsIn 28 = .ok (.iinc 2 1, 3) := by decide +kernel
theorem dX11_wordsIn_31 : decode cX11_wordsIn 31 = .ok (.goto (-27), 3) := by decide +kernel
theorem dX11_wordsIn_34 : decode cX11_wordsIn 34 = .ok (.iconst (-1), 1) := by decide +kernel
theorem dX11_wordsIn_35 : decode cX11_wordsIn 35 = .ok (.ireturn, 1) := by decide +kernel
theorem dX11_eights_0 : decode cX11_eights 0 = .ok (.iconst 1, 1) := by decide +kernel
theorem dX11_eights_1 : decode cX11_eights 1 = .ok (.istore_n 1, 1) := by decide +kernel
theorem dX11_eights_2 : decode cX11_eights 2 = .ok (.iconst 0, 1) := by decide +kernel
theorem dX11_eights_3 : decode cX11_eights 3 = .ok (.istore_n 2, 1) := by decide +kernel
theorem dX11_eights_4 : decode cX11_eights 4 = .ok (.iload_n 2, 1) := by decide +kernel
theorem dX11_eights_5 : decode cX11_eights 5 = .ok (.iload_n 0, 1) := by decide +kernel
theorem dX11_eights_6 : decode cX11_eights 6 = .ok (.if_icmp .ge 14, 3) := by decide +kernel
theorem dX11_eights_9 : decode cX11_eights 9 = .ok (.iload_n 1, 1) := by decide +kernel
theorem dX11_eights_10 : decode cX11_eights 10 = .ok (.bipush 8, 2) := by decide +kernel
theorem dX11_eights_12 : decode cX11_eights 12 = .ok (.imul, 1) := by decide +kernel
theorem dX11_eights_13 : decode cX11_eights 13 = .ok (.istore_n 1, 1) := by decide +kernel
theorem dX11_eights_14 : decode cX11_eights 14 = .ok (.iinc 2 1, 3) := by decide +kernel
theorem dX11_eights_17 : decode cX11_eights 17 = .ok (.goto (-13), 3) := by decide +kernel
theorem dX11_eights_20 : decode cX11_eights 20 = .ok (.iload_n 1, 1) := by decide +kernel
theorem dX11_eights_21 : decode cX11_eights 21 = .ok (.ireturn, 1) := by decide +kernel
theorem dX11_wordIn_0 : decode cX11_wordIn 0 = .ok (.iload_n 0, 1) := by decide +kernel
theorem dX11_wordIn_1 : decode cX11_wordIn 1 = .ok (.iload_n 1, 1) := by decide +kernel
theorem dX11_wordIn_2 : decode cX11_wordIn 2 = .ok (.iconst 1, 1) := by decide +kernel
theorem dX11_wordIn_3 : decode cX11_wordIn 3 = .ok (.isub, 1) := by decide +kernel
theorem dX11_wordIn_4 : decode cX11_wordIn 4 = .ok (.iload_n 2, 1) := by decide +kernel
theorem dX11_wordIn_5 : decode cX11_wordIn 5 = .ok (.isub, 1) := by decide +kernel
theorem dX11_wordIn_6 : decode cX11_wordIn 6 = .ok (.invokestatic 330, 3) := by decide +kernel
theorem dX11_wordIn_9 : decode cX11_wordIn 9 = .ok (.idiv, 1) := by decide +kernel
theorem dX11_wordIn_10 : decode cX11_wordIn 10 = .ok (.bipush 8, 2) := by decide +kernel
theorem dX11_wordIn_12 : decode cX11_wordIn 12 = .ok (.irem, 1) := by decide +kernel
theorem dX11_wordIn_13 : decode cX11_wordIn 13 = .ok (.ireturn, 1) := by decide +kernel
theorem dX11_looksAtSpouse_0 : decode cX11_looksAtSpouse 0 = .ok (.aload_n 0, 1) := by decide +kernel
theorem dX11_looksAtSpouse_1 : decode cX11_looksAtSpouse 1 = .ok (.invokevirtual 333, 3) := by decide +kernel
theorem dX11_looksAtSpouse_4 : decode cX11_looksAtSpouse 4 = .ok (.aload_n 0, 1) := by decide +kernel
theorem dX11_looksAtSpouse_5 : decode cX11_looksAtSpouse 5 = .ok (.getfield 107, 3) := by decide +kernel
theorem dX11_looksAtSpouse_8 : decode cX11_looksAtSpouse 8 = .ok (.iconst 2, 1) := by decide +kernel
theorem dX11_looksAtSpouse_9 : decode cX11_looksAtSpouse 9 = .ok (.aload_n 0, 1) := by decide +kernel
theorem dX11_looksAtSpouse_10 : decode cX11_looksAtSpouse 10 = .ok (.getfield 116, 3) := by decide +kernel
theorem dX11_looksAtSpouse_13 : decode cX11_looksAtSpouse 13 = .ok (.iload_n 1, 1) := by decide +kernel
theorem dX11_looksAtSpouse_14 : decode cX11_looksAtSpouse 14 = .ok (.iaload, 1) := by decide +kernel
theorem dX11_looksAtSpouse_15 : decode cX11_looksAtSpouse 15 = .ok (.iastore, 1) := by decide +kernel
theorem dX11_looksAtSpouse_16 : decode cX11_looksAtSpouse 16 = .ok (.aload_n 0, 1) := by decide +kernel
theorem dX11_looksAtSpouse_17 : decode cX11_looksAtSpouse 17 = .ok (.getfield 107, 3) := by decide +kernel
theorem dX11_looksAtSpouse_20 : decode cX11_looksAtSpouse 20 = .ok (.iconst 5, 1) := by decide +kernel
theorem dX11_looksAtSpouse_21 : decode cX11_looksAtSpouse 21 = .ok (.iload_n 1, 1) := by decide +kernel
theorem dX11_looksAtSpouse_22 : decode cX11_looksAtSpouse 22 = .ok (.iastore, 1) := by decide +kernel
theorem dX11_looksAtSpouse_23 : decode cX11_looksAtSpouse 23 = .ok (.return_, 1) := by decide +kernel
theorem dX11_saidBy_0 : decode cX11_saidBy 0 = .ok (.aload_n 0, 1) := by decide +kernel
theorem dX11_saidBy_1 : decode cX11_saidBy 1 = .ok (.iload_n 1, 1) := by decide +kernel
theorem dX11_saidBy_2 : decode cX11_saidBy 2 = .ok (.invokevirtual 336, 3) := by decide +kernel
theorem dX11_saidBy_5 : decode cX11_saidBy 5 = .ok (.aload_n 0, 1) := by decide +kernel
theorem dX11_saidBy_6 : decode cX11_saidBy 6 = .ok (.iconst 0, 1) := by decide +kernel
theorem dX11_saidBy_7 : decode cX11_saidBy 7 = .ok (.iconst 2, 1) := by decide +kernel
theorem dX11_saidBy_8 : decode cX11_saidBy 8 = .ok (.invokevirtual 339, 3) := by decide +kernel
theorem dX11_saidBy_11 : decode cX11_saidBy 11 = .ok (.iconst 0, 1) := by decide +kernel
theorem dX11_saidBy_12 : decode cX11_saidBy 12 = .ok (.iconst 5, 1) := by decide +kernel
theorem dX11_saidBy_13 : decode cX11_saidBy 13 = .ok (.invokestatic 342, 3) := by decide +kernel
theorem dX11_saidBy_16 : decode cX11_saidBy 16 = .ok (.istore_n 2, 1) := by decide +kernel
theorem dX11_saidBy_17 : decode cX11_saidBy 17 = .ok (.iconst 1, 1) := by decide +kernel
theorem dX11_saidBy_18 : decode cX11_saidBy 18 = .ok (.istore_n 3, 1) := by decide +kernel
theorem dX11_saidBy_19 : decode cX11_saidBy 19 = .ok (.iconst 0, 1) := by decide +kernel
theorem dX11_saidBy_20 : decode cX11_saidBy 20 = .ok (.istore 4, 2) := by decide +kernel
theorem dX11_saidBy_22 : decode cX11_saidBy 22 = .ok (.iload 4, 2) := by decide +kernel
theorem dX11_saidBy_24 : decode cX11_saidBy 24 = .ok (.iload_n 2, 1) := by decide +kernel
theorem dX11_saidBy_25 : decode cX11_saidBy 25 = .ok (.if_icmp .ge 51, 3) := by decide +kernel
theorem dX11_saidBy_28 : decode cX11_saidBy 28 = .ok (.aload_n 0, 1) := by decide +kernel
theorem dX11_saidBy_29 : decode cX11_saidBy 29 = .ok (.iload_n 1, 1) := by decide +kernel
theorem dX11_saidBy_30 : decode cX11_saidBy 30 = .ok (.invokevirtual 336, 3) := by decide +kernel
theorem dX11_saidBy_33 : decode cX11_saidBy 33 = .ok (.aload_n 0, 1) := by decide +kernel
theorem dX11_saidBy_34 : decode cX11_saidBy 34 = .ok (.getfield 107, 3) := by decide +kernel
theorem dX11_saidBy_37 : decode cX11_saidBy 37 = .ok (.iconst 1, 1) := by decide +kernel
theorem dX11_saidBy_38 : decode cX11_saidBy 38 = .ok (.iload 4, 2) := by decide +kernel
theorem dX11_saidBy_40 : decode cX11_saidBy 40 = .ok (.iastore, 1) := by decide +kernel
theorem dX11_saidBy_41 : decode cX11_saidBy 41 = .ok (.aload_n 0, 1) := by decide +kernel
theorem dX11_saidBy_42 : decode cX11_saidBy 42 = .ok (.iconst 1, 1) := by decide +kernel
theorem dX11_saidBy_43 : decode cX11_saidBy 43 = .ok (.iload 4, 2) := by decide +kernel
theorem dX11_saidBy_45 : decode cX11_saidBy 45 = .ok (.invokevirtual 339, 3) := by decide +kernel
theorem dX11_saidBy_48 : decode cX11_saidBy 48 = .ok (.istore 5, 2) := by decide +kernel
theorem dX11_saidBy_50 : decode cX11_saidBy 50 = .ok (.bipush 8, 2) := by decide +kernel
theorem dX11_saidBy_52 : decode cX11_saidBy 52 = .ok (.iload_n 3, 1) := by decide +kernel
theorem dX11_saidBy_53 : decode cX11_saidBy 53 = .ok (.imul, 1) := by decide +kernel
theorem dX11_saidBy_54 : decode cX11_saidBy 54 = .ok (.iload 5, 2) := by decide +kernel
theorem dX11_saidBy_56 : decode cX11_saidBy 56 = .ok (.ifCond .ge 7, 3) := by decide +kernel
theorem dX11_saidBy_59 : decode cX11_saidBy 59 = .ok (.iconst 0, 1) := by decide +kernel
theorem dX11_saidBy_60 : decode cX11_saidBy 60 = .ok (.goto 8, 3) := by decide +kernel
theorem dX11_saidBy_63 : decode cX11_saidBy 63 = .ok (.iload 5, 2) := by decide +kernel
theorem dX11_saidBy_65 : decode cX11_saidBy 65 = .ok (.bipush 8, 2) := by decide +kernel
theorem dX11_saidBy_67 : decode cX11_saidBy 67 = .ok (.irem, 1) := by decide +kernel
theorem dX11_saidBy_68 : decode cX11_saidBy 68 = .ok (.iadd, 1) := by decide +kernel
theorem dX11_saidBy_69 : decode cX11_saidBy 69 = .ok (.istore_n 3, 1) := by decide +kernel
theorem dX11_saidBy_70 : decode cX11_saidBy 70 = .ok (.iinc 4 1, 3) := by decide +kernel
theorem dX11_saidBy_73 : decode cX11_saidBy 73 = .ok (.goto (-51), 3) := by decide +kernel
theorem dX11_saidBy_76 : decode cX11_saidBy 76 = .ok (.iload_n 3, 1) := by decide +kernel
theorem dX11_saidBy_77 : decode cX11_saidBy 77 = .ok (.ireturn, 1) := by decide +kernel
theorem dX11_looksAtThird_0 : decode cX11_looksAtThird 0 = .ok (.aload_n 0, 1) := by decide +kernel
theorem dX11_looksAtThird_1 : decode cX11_looksAtThird 1 = .ok (.invokevirtual 333, 3) := by decide +kernel
theorem dX11_looksAtThird_4 : decode cX11_looksAtThird 4 = .ok (.aload_n 0, 1) := by decide +kernel
theorem dX11_looksAtThird_5 : decode cX11_looksAtThird 5 = .ok (.getfield 107, 3) := by decide +kernel
theorem dX11_looksAtThird_8 : decode cX11_looksAtThird 8 = .ok (.iconst 3, 1) := by decide +kernel
theorem dX11_looksAtThird_9 : decode cX11_looksAtThird 9 = .ok (.aload_n 0, 1) := by decide +kernel
theorem dX11_looksAtThird_10 : decode cX11_looksAtThird 10 = .ok (.getfield 116, 3) := by decide +kernel
theorem dX11_looksAtThird_13 : decode cX11_looksAtThird 13 = .ok (.bipush 24, 2) := by decide +kernel
theorem dX11_looksAtThird_15 : decode cX11_looksAtThird 15 = .ok (.iload_n 1, 1) := by decide +kernel
theorem dX11_looksAtThird_16 : decode cX11_looksAtThird 16 = .ok (.iadd, 1) := by decide +kernel
theorem dX11_looksAtThird_17 : decode cX11_looksAtThird 17 = .ok (.iaload, 1) := by decide +kernel
theorem dX11_looksAtThird_18 : decode cX11_looksAtThird 18 = .ok (.iastore, 1) := by decide +kernel
theorem dX11_looksAtThird_19 : decode cX11_looksAtThird 19 = .ok (.aload_n 0, 1) := by decide +kernel
theorem dX11_looksAtThird_20 : decode cX11_looksAtThird 20 = .ok (.getfield 107, 3) := by decide +kernel
theorem dX11_looksAtThird_23 : decode cX11_looksAtThird 23 = .ok (.iconst 4, 1) := by decide +kernel
theorem dX11_looksAtThird_24 : decode cX11_looksAtThird 24 = .ok (.aload_n 0, 1) := by decide +kernel
theorem dX11_looksAtThird_25 : decode cX11_looksAtThird 25 = .ok (.getfield 116, 3) := by decide +kernel
theorem dX11_looksAtThird_28 : decode cX11_looksAtThird 28 = .ok (.bipush 28, 2) := by decide +kernel
theorem dX11_looksAtThird_30 : decode cX11_looksAtThird 30 = .ok (.iload_n 1, 1) := by decide +kernel
theorem dX11_looksAtThird_31 : decode cX11_looksAtThird 31 = .ok (.iadd, 1) := by decide +kernel
theorem dX11_looksAtThird_32 : decode cX11_looksAtThird 32 = .ok (.iaload, 1) := by decide +kernel
theorem dX11_looksAtThird_33 : decode cX11_looksAtThird 33 = .ok (.iastore, 1) := by decide +kernel
theorem dX11_looksAtThird_34 : decode cX11_looksAtThird 34 = .ok (.aload_n 0, 1) := by decide +kernel
theorem dX11_looksAtThird_35 : decode cX11_looksAtThird 35 = .ok (.getfield 107, 3) := by decide +kernel
theorem dX11_looksAtThird_38 : decode cX11_looksAtThird 38 = .ok (.iconst 5, 1) := by decide +kernel
theorem dX11_looksAtThird_39 : decode cX11_looksAtThird 39 = .ok (.iload_n 1, 1) := by decide +kernel
theorem dX11_looksAtThird_40 : decode cX11_looksAtThird 40 = .ok (.iastore, 1) := by decide +kernel
theorem dX11_looksAtThird_41 : decode cX11_looksAtThird 41 = .ok (.return_, 1) := by decide +kernel
theorem dX11_isDaring_0 : decode cX11_isDaring 0 = .ok (.aload_n 0, 1) := by decide +kernel
theorem dX11_isDaring_1 : decode cX11_isDaring 1 = .ok (.iload_n 1, 1) := by decide +kernel
theorem dX11_isDaring_2 : decode cX11_isDaring 2 = .ok (.invokevirtual 345, 3) := by decide +kernel
theorem dX11_isDaring_5 : decode cX11_isDaring 5 = .ok (.aload_n 0, 1) := by decide +kernel
theorem dX11_isDaring_6 : decode cX11_isDaring 6 = .ok (.getfield 107, 3) := by decide +kernel
theorem dX11_isDaring_9 : decode cX11_isDaring 9 = .ok (.bipush 8, 2) := by decide +kernel
theorem dX11_isDaring_11 : decode cX11_isDaring 11 = .ok (.aload_n 0, 1) := by decide +kernel
theorem dX11_isDaring_12 : decode cX11_isDaring 12 = .ok (.getfield 116, 3) := by decide +kernel
theorem dX11_isDaring_15 : decode cX11_isDaring 15 = .ok (.bipush 40, 2) := by decide +kernel
theorem dX11_isDaring_17 : decode cX11_isDaring 17 = .ok (.iload_n 1, 1) := by decide +kernel
theorem dX11_isDaring_18 : decode cX11_isDaring 18 = .ok (.iadd, 1) := by decide +kernel
theorem dX11_isDaring_19 : decode cX11_isDaring 19 = .ok (.iaload, 1) := by decide +kernel
theorem dX11_isDaring_20 : decode cX11_isDaring 20 = .ok (.iastore, 1) := by decide +kernel
theorem dX11_isDaring_21 : decode cX11_isDaring 21 = .ok (.aload_n 0, 1) := by decide +kernel
theorem dX11_isDaring_22 : decode cX11_isDaring 22 = .ok (.bipush 6, 2) := by decide +kernel
theorem dX11_isDaring_24 : decode cX11_isDaring 24 = .ok (.iconst 0, 1) := by decide +kernel
theorem dX11_isDaring_25 : decode cX11_isDaring 25 = .ok (.invokevirtual 339, 3) := by decide +kernel
theorem dX11_isDaring_28 : decode cX11_isDaring 28 = .ok (.ifCond .le 7, 3) := by decide +kernel
theorem dX11_isDaring_31 : decode cX11_isDaring 31 = .ok (.iconst 1, 1) := by decide +kernel
theorem dX11_isDaring_32 : decode cX11_isDaring 32 = .ok (.goto 4, 3) := by decide +kernel
theorem dX11_isDaring_35 : decode cX11_isDaring 35 = .ok (.iconst 0, 1) := by decide +kernel
theorem dX11_isDaring_36 : decode cX11_isDaring 36 = .ok (.ireturn, 1) := by decide +kernel
theorem dX11_putAs_0 : decode cX11_putAs 0 = .ok (.aload_n 0, 1) := by decide +kernel
theorem dX11_putAs_1 : decode cX11_putAs 1 = .ok (.getfield 116, 3) := by decide +kernel
theorem dX11_putAs_4 : decode cX11_putAs 4 = .ok (.bipush 32, 2) := by decide +kernel
theorem dX11_putAs_6 : decode cX11_putAs 6 = .ok (.iload_n 1, 1) := by decide +kernel
theorem dX11_putAs_7 : decode cX11_putAs 7 = .ok (.iadd, 1) := by decide +kernel
theorem dX11_putAs_8 : decode cX11_putAs 8 = .ok (.iaload, 1) := by decide +kernel
theorem dX11_putAs_9 : decode cX11_putAs 9 = .ok (.iconst 1, 1) := by decide +kernel
theorem dX11_putAs_10 : decode cX11_putAs 10 = .ok (.if_icmp .ne 13, 3) := by decide +kernel
theorem dX11_putAs_13 : decode cX11_putAs 13 = .ok (.aload_n 0, 1) := by decide +kernel
theorem dX11_putAs_14 : decode cX11_putAs 14 = .ok (.iload_n 1, 1) := by decide +kernel
theorem dX11_putAs_15 : decode cX11_putAs 15 = .ok (.invokevirtual 348, 3) := by decide +kernel
theorem dX11_putAs_18 : decode cX11_putAs 18 = .ok (.ifCond .ne 5, 3) := by decide +kernel
theorem dX11_putAs_21 : decode cX11_putAs 21 = .ok (.iload_n 2, 1) := by decide +kernel
theorem dX11_putAs_22 : decode cX11_putAs 22 = .ok (.ireturn, 1) := by decide +kernel
theorem dX11_putAs_23 : decode cX11_putAs 23 = .ok (.aload_n 0, 1) := by decide +kernel
theorem dX11_putAs_24 : decode cX11_putAs 24 = .ok (.iload_n 1, 1) := by decide +kernel
theorem dX11_putAs_25 : decode cX11_putAs 25 = .ok (.invokevirtual 345, 3) := by decide +kernel
theorem dX11_putAs_28 : decode cX11_putAs 28 = .ok (.aload_n 0, 1) := by decide +kernel
theorem dX11_putAs_29 : decode cX11_putAs 29 = .ok (.getfield 107, 3) := by decide +kernel
theorem dX11_putAs_32 : decode cX11_putAs 32 = .ok (.iconst 0, 1) := by decide +kernel
theorem dX11_putAs_33 : decode cX11_putAs 33 = .ok (.iload_n 2, 1) := by decide +kernel
theorem dX11_putAs_34 : decode cX11_putAs 34 = .ok (.iastore, 1) := by decide +kernel
theorem dX11_putAs_35 : decode cX11_putAs 35 = .ok (.aload_n 0, 1) := by decide +kernel
theorem dX11_putAs_36 : decode cX11_putAs 36 = .ok (.getfield 107, 3) := by decide +kernel
theorem dX11_putAs_39 : decode cX11_putAs 39 = .ok (.iconst 1, 1) := by decide +kernel
theorem dX11_putAs_40 : decode cX11_putAs 40 = .ok (.iload_n 3, 1) := by decide +kernel
theorem dX11_putAs_41 : decode cX11_putAs 41 = .ok (.iastore, 1) := by decide +kernel
theorem dX11_putAs_42 : decode cX11_putAs 42 = .ok (.aload_n 0, 1) := by decide +kernel
theorem dX11_putAs_43 : decode cX11_putAs 43 = .ok (.getfield 107, 3) := by decide +kernel
theorem dX11_putAs_46 : decode cX11_putAs 46 = .ok (.bipush 7, 2) := by decide +kernel
theorem dX11_putAs_48 : decode cX11_putAs 48 = .ok (.aload_n 0, 1) := by decide +kernel
theorem dX11_putAs_49 : decode cX11_putAs 49 = .ok (.getfield 64, 3) := by decide +kernel
theorem dX11_putAs_52 : decode cX11_putAs 52 = .ok (.iconst 4, 1) := by decide +kernel
theorem dX11_putAs_53 : decode cX11_putAs 53 = .ok (.aload_n 0, 1) := by decide +kernel
theorem dX11_putAs_54 : decode cX11_putAs 54 = .ok (.getfield 233, 3) := by decide +kernel
theorem dX11_putAs_57 : decode cX11_putAs 57 = .ok (.imul, 1) := by decide +kernel
theorem dX11_putAs_58 : decode cX11_putAs 58 = .ok (.iload_n 1, 1) := by decide +kernel
theorem dX11_putAs_59 : decode cX11_putAs 59 = .ok (.iadd, 1) := by decide +kernel
theorem dX11_putAs_60 : decode cX11_putAs 60 = .ok (.iaload, 1) := by decide +kernel
theorem dX11_putAs_61 : decode cX11_putAs 61 = .ok (.iastore, 1) := by decide +kernel
theorem dX11_putAs_62 : decode cX11_putAs 62 = .ok (.aload_n 0, 1) := by decide +kernel
theorem dX11_putAs_63 : decode cX11_putAs 63 = .ok (.iconst 2, 1) := by decide +kernel
theorem dX11_putAs_64 : decode cX11_putAs 64 = .ok (.iload_n 2, 1) := by decide +kernel
theorem dX11_putAs_65 : decode cX11_putAs 65 = .ok (.invokevirtual 339, 3) := by decide +kernel
theorem dX11_putAs_68 : decode cX11_putAs 68 = .ok (.istore 4, 2) := by decide +kernel
theorem dX11_putAs_70 : decode cX11_putAs 70 = .ok (.iload 4, 2) := by decide +kernel
theorem dX11_putAs_72 : decode cX11_putAs 72 = .ok (.ifCond .ge 7, 3) := by decide +kernel
theorem dX11_putAs_75 : decode cX11_putAs 75 = .ok (.iconst 0, 1) := by decide +kernel
theorem dX11_putAs_76 : decode cX11_putAs 76 = .ok (.goto 8, 3) := by decide +kernel
theorem dX11_putAs_79 : decode cX11_putAs 79 = .ok (.iload 4, 2) := by decide +kernel
theorem dX11_putAs_81 : decode cX11_putAs 81 = .ok (.bipush 9, 2) := by decide +kernel
theorem dX11_putAs_83 : decode cX11_putAs 83 = .ok (.irem, 1) := by decide +kernel
theorem dX11_putAs_84 : decode cX11_putAs 84 = .ok (.ireturn, 1) := by decide +kernel
theorem dX11_dropsOf_0 : decode cX11_dropsOf 0 = .ok (.aload_n 0, 1) := by decide +kernel
theorem dX11_dropsOf_1 : decode cX11_dropsOf 1 = .ok (.iload_n 1, 1) := by decide +kernel
theorem dX11_dropsOf_2 : decode cX11_dropsOf 2 = .ok (.invokevirtual 345, 3) := by decide +kernel
theorem dX11_dropsOf_5 : decode cX11_dropsOf 5 = .ok (.aload_n 0, 1) := by decide +kernel
theorem dX11_dropsOf_6 : decode cX11_dropsOf 6 = .ok (.iconst 3, 1) := by decide +kernel
theorem dX11_dropsOf_7 : decode cX11_dropsOf 7 = .ok (.iconst 0, 1) := by decide +kernel
theorem dX11_dropsOf_8 : decode cX11_dropsOf 8 = .ok (.invokevirtual 339, 3) := by decide +kernel
theorem dX11_dropsOf_11 : decode cX11_dropsOf 11 = .ok (.iconst 0, 1) := by decide +kernel
theorem dX11_dropsOf_12 : decode cX11_dropsOf 12 = .ok (.bipush 100, 2) := by decide +kernel
theorem dX11_dropsOf_14 : decode cX11_dropsOf 14 = .ok (.invokestatic 342, 3) := by decide +kernel
theorem dX11_dropsOf_17 : decode cX11_dropsOf 17 = .ok (.ireturn, 1) := by decide +kernel
theorem dX11_putBy_0 : decode cX11_putBy 0 = .ok (.iload_n 2, 1) := by decide +kernel
theorem dX11_putBy_1 : decode cX11_putBy 1 = .ok (.invokestatic 351, 3) := by decide +kernel
theorem dX11_putBy_4 : decode cX11_putBy 4 = .ok (.istore 4, 2) := by decide +kernel
theorem dX11_putBy_6 : decode cX11_putBy 6 = .ok (.iconst 1, 1) := by decide +kernel
theorem dX11_putBy_7 : decode cX11_putBy 7 = .ok (.istore 5, 2) := by decide +kernel
theorem dX11_putBy_9 : decode cX11_putBy 9 = .ok (.iconst 0, 1) := by decide +kernel
theorem dX11_putBy_10 : decode cX11_putBy 10 = .ok (.istore 6, 2) := by decide +kernel
theorem dX11_putBy_12 : decode cX11_putBy 12 = .ok (.iload 6, 2) := by decide +kernel
theorem dX11_putBy_14 : decode cX11_putBy 14 = .ok (.iload 4, 2) := by decide +kernel
theorem dX11_putBy_16 : decode cX11_putBy 16 = .ok (.if_icmp .ge 89, 3) := by decide +kernel
theorem dX11_putBy_19 : decode cX11_putBy 19 = .ok (.aload_n 0, 1) := by decide +kernel
theorem dX11_putBy_20 : decode cX11_putBy 20 = .ok (.iload_n 1, 1) := by decide +kernel
theorem dX11_putBy_21 : decode cX11_putBy 21 = .ok (.iload_n 2, 1) := by decide +kernel
theorem dX11_putBy_22 : decode cX11_putBy 22 = .ok (.iload 4, 2) := by decide +kernel
theorem dX11_putBy_24 : decode cX11_putBy 24 = .ok (.iload 6, 2) := by decide +kernel
theorem dX11_putBy_26 : decode cX11_putBy 26 = .ok (.invokestatic 354, 3) := by decide +kernel
theorem dX11_putBy_29 : decode cX11_putBy 29 = .ok (.iload 6, 2) := by decide +kernel
theorem dX11_putBy_31 : decode cX11_putBy 31 = .ok (.invokevirtual 357, 3) := by decide +kernel
theorem dX11_putBy_34 : decode cX11_putBy 34 = .ok (.istore 7, 2) := by decide +kernel
theorem dX11_putBy_36 : decode cX11_putBy 36 = .ok (.iload 7, 2) := by decide +kernel
theorem dX11_putBy_38 : decode cX11_putBy 38 = .ok (.bipush 8, 2) := by decide +kernel
theorem dX11_putBy_40 : decode cX11_putBy 40 = .ok (.if_icmp .ne 6, 3) := by decide +kernel
theorem dX11_putBy_43 : decode cX11_putBy 43 = .ok (.goto 56, 3) := by decide +kernel
theorem dX11_putBy_46 : decode cX11_putBy 46 = .ok (.iload_n 3, 1) := by decide +kernel
theorem dX11_putBy_47 : decode cX11_putBy 47 = .ok (.ifCond .lt 42, 3) := by decide +kernel
theorem dX11_putBy_50 : decode cX11_putBy 50 = .ok (.aload_n 0, 1) := by decide +kernel
theorem dX11_putBy_51 : decode cX11_putBy 51 = .ok (.sipush 256, 3) := by decide +kernel
theorem dX11_putBy_54 : decode cX11_putBy 54 = .ok (.aload_n 0, 1) := by decide +kernel
theorem dX11_putBy_55 : decode cX11_putBy 55 = .ok (.getfield 116, 3) := by decide +kernel
theorem dX11_putBy_58 : decode cX11_putBy 58 = .ok (.bipush 44, 2) := by decide +kernel
theorem dX11_putBy_60 : decode cX11_putBy 60 = .ok (.iaload, 1) := by decide +kernel
theorem dX11_putBy_61 : decode cX11_putBy 61 = .ok (.imul, 1) := by decide +kernel
theorem dX11_putBy_62 : decode cX11_putBy 62 = .ok (.bipush 64, 2) := by decide +kernel
theorem dX11_putBy_64 : decode cX11_putBy 64 = .ok (.iload_n 1, 1) := by decide +kernel
theorem dX11_putBy_65 : decode cX11_putBy 65 = .ok (.imul, 1) := by decide +kernel
theorem dX11_putBy_66 : decode cX11_putBy 66 = .ok (.iadd, 1) := by decide +kernel
theorem dX11_putBy_67 : decode cX11_putBy 67 = .ok (.bipush 8, 2) := by decide +kernel
theorem dX11_putBy_69 : decode cX11_putBy 69 = .ok (.iload_n 3, 1) := by decide +kernel
theorem dX11_putBy_70 : decode cX11_putBy 70 = .ok (.imul, 1) := by decide +kernel
theorem dX11_putBy_71 : decode cX11_putBy 71 = .ok (.iadd, 1) := by decide +kernel
theorem dX11_putBy_72 : decode cX11_putBy 72 = .ok (.iload 6, 2) := by decide +kernel
theorem dX11_putBy_74 : decode cX11_putBy 74 = .ok (.iadd, 1) := by decide +kernel
theorem dX11_putBy_75 : decode cX11_putBy 75 = .ok (.invokevirtual 360, 3) := by decide +kernel
theorem dX11_putBy_78 : decode cX11_putBy 78 = .ok (.aload_n 0, 1) := by decide +kernel
theorem dX11_putBy_79 : decode cX11_putBy 79 = .ok (.iload_n 1, 1) := by decide +kernel
theorem dX11_putBy_80 : decode cX11_putBy 80 = .ok (.invokevirtual 363, 3) := by decide +kernel
theorem dX11_putBy_83 : decode cX11_putBy 83 = .ok (.if_icmp .ge 6, 3) := by decide +kernel
theorem dX11_putBy_86 : decode cX11_putBy 86 = .ok (.goto 13, 3) := by decide +kernel
theorem dX11_putBy_89 : decode cX11_putBy 89 = .ok (.bipush 8, 2) := by decide +kernel
theorem dX11_putBy_91 : decode cX11_putBy 91 = .ok (.iload 5, 2) := by decide +kernel
theorem dX11_putBy_93 : decode cX11_putBy 93 = .ok (.imul, 1) := by decide +kernel
theorem dX11_putBy_94 : decode cX11_putBy 94 = .ok (.iload 7, 2) := by decide +kernel
theorem dX11_putBy_96 : decode cX11_putBy 96 = .ok (.iadd, 1) := by decide +kernel
theorem dX11_putBy_97 : decode cX11_putBy 97 = .ok (.istore 5, 2) := by decide +kernel
theorem dX11_putBy_99 : decode cX11_putBy 99 = .ok (.iinc 6 1, 3) := by decide +kernel
theorem dX11_putBy_102 : decode cX11_putBy 102 = .ok (.goto (-90), 3) := by decide +kernel
theorem dX11_putBy_105 : decode cX11_putBy 105 = .ok (.iload 5, 2) := by decide +kernel
theorem dX11_putBy_107 : decode cX11_putBy 107 = .ok (.ireturn, 1) := by decide +kernel
theorem dX11_moodBehind_0 : decode cX11_moodBehind 0 = .ok (.iload_n 2, 1) := by decide +kernel
theorem dX11_moodBehind_1 : decode cX11_moodBehind 1 = .ok (.invokestatic 351, 3) := by decide +kernel
theorem dX11_moodBehind_4 : decode cX11_moodBehind 4 = .ok (.istore_n 3, 1) := by decide +kernel
theorem dX11_moodBehind_5 : decode cX11_moodBehind 5 = .ok (.aload_n 0, 1) := by decide +kernel
theorem dX11_moodBehind_6 : decode cX11_moodBehind 6 = .ok (.getfield 116, 3) := by decide +kernel
theorem dX11_moodBehind_9 : decode cX11_moodBehind 9 = .ok (.iload_n 1, 1) := by decide +kernel
theorem dX11_moodBehind_10 : decode cX11_moodBehind 10 = .ok (.iaload, 1) := by decide +kernel
theorem dX11_moodBehind_11 : decode cX11_moodBehind 11 = .ok (.istore 4, 2) := by decide +kernel
theorem dX11_moodBehind_13 : decode cX11_moodBehind 13 = .ok (.iconst 0, 1) := by decide +kernel
theorem dX11_moodBehind_14 : decode cX11_moodBehind 14 = .ok (.istore 5, 2) := by decide +kernel
theorem dX11_moodBehind_16 : decode cX11_moodBehind 16 = .ok (.iload 5, 2) := by decide +kernel
theorem dX11_moodBehind_18 : decode cX11_moodBehind 18 = .ok (.iload_n 3, 1) := by decide +kernel
theorem dX11_moodBehind_19 : decode cX11_moodBehind 19 = .ok (.if_icmp .ge 73, 3) := by decide +kernel
theorem dX11_moodBehind_22 : decode cX11_moodBehind 22 = .ok (.aload_n 0, 1) := by decide +kernel
theorem dX11_moodBehind_23 : decode cX11_moodBehind 23 = .ok (.invokevirtual 333, 3) := by decide +kernel
theorem dX11_moodBehind_26 : decode cX11_moodBehind 26 = .ok (.aload_n 0, 1) := by decide +kernel
theorem dX11_moodBehind_27 : decode cX11_moodBehind 27 = .ok (.getfield 107, 3) := by decide +kernel
theorem dX11_moodBehind_30 : decode cX11_moodBehind 30 = .ok (.iconst 0, 1) := by decide +kernel
theorem dX11_moodBehind_31 : decode cX11_moodBehind 31 = .ok (.iload_n 2, 1) := by decide +kernel
theorem dX11_moodBehind_32 : decode cX11_moodBehind 32 = .ok (.iload_n 3, 1) := by decide +kernel
theorem dX11_moodBehind_33 : decode cX11_moodBehind 33 = .ok (.iload 5, 2) := by decide +kernel
theorem dX11_moodBehind_35 : decode cX11_moodBehind 35 = .ok (.invokestatic 354, 3) := by decide +kernel
theorem dX11_moodBehind_38 : decode cX11_moodBehind 38 = .ok (.iastore, 1) := by decide +kernel
theorem dX11_moodBehind_39 : decode cX11_moodBehind 39 = .ok (.aload_n 0, 1) := by decide +kernel
theorem dX11_moodBehind_40 : decode cX11_moodBehind 40 = .ok (.getfield 107, 3) := by decide +kernel
theorem dX11_moodBehind_43 : decode cX11_moodBehind 43 = .ok (.iconst 1, 1) := by decide +kernel
theorem dX11_moodBehind_44 : decode cX11_moodBehind 44 = .ok (.iload 5, 2) := by decide +kernel
theorem dX11_moodBehind_46 : decode cX11_moodBehind 46 = .ok (.iastore, 1) := by decide +kernel
theorem dX11_moodBehind_47 : decode cX11_moodBehind 47 = .ok (.aload_n 0, 1) := by decide +kernel
theorem dX11_moodBehind_48 : decode cX11_moodBehind 48 = .ok (.getfield 107, 3) := by decide +kernel
theorem dX11_moodBehind_51 : decode cX11_moodBehind 51 = .ok (.iconst 2, 1) := by decide +kernel
theorem dX11_moodBehind_52 : decode cX11_moodBehind 52 = .ok (.iload 4, 2) := by decide +kernel
theorem dX11_moodBehind_54 : decode cX11_moodBehind 54 = .ok (.iastore, 1) := by decide +kernel
theorem dX11_moodBehind_55 : decode cX11_moodBehind 55 = .ok (.aload_n 0, 1) := by decide +kernel
theorem dX11_moodBehind_56 : decode cX11_moodBehind 56 = .ok (.getfield 107, 3) := by decide +kernel
theorem dX11_moodBehind_59 : decode cX11_moodBehind 59 = .ok (.iconst 5, 1) := by decide +kernel
theorem dX11_moodBehind_60 : decode cX11_moodBehind 60 = .ok (.iload_n 1, 1) := by decide +kernel
theorem dX11_moodBehind_61 : decode cX11_moodBehind 61 = .ok (.iastore, 1) := by decide +kernel
theorem dX11_moodBehind_62 : decode cX11_moodBehind 62 = .ok (.iload 4, 2) := by decide +kernel
theorem dX11_moodBehind_64 : decode cX11_moodBehind 64 = .ok (.aload_n 0, 1) := by decide +kernel
theorem dX11_moodBehind_65 : decode cX11_moodBehind 65 = .ok (.iconst 4, 1) := by decide +kernel
theorem dX11_moodBehind_66 : decode cX11_moodBehind 66 = .ok (.iconst 0, 1) := by decide +kernel
theorem dX11_moodBehind_67 : decode cX11_moodBehind 67 = .ok (.invokevirtual 339, 3) := by decide +kernel
theorem dX11_moodBehind_70 : decode cX11_moodBehind 70 = .ok (.bipush (-9), 2) := by decide +kernel
theorem dX11_moodBehind_72 : decode cX11_moodBehind 72 = .ok (.bipush 9, 2) := by decide +kernel
theorem dX11_moodBehind_74 : decode cX11_moodBehind 74 = .ok (.invokestatic 342, 3) := by decide +kernel
theorem dX11_moodBehind_77 : decode cX11_moodBehind 77 = .ok (.iadd, 1) := by decide +kernel
theorem dX11_moodBehind_78 : decode cX11_moodBehind 78 = .ok (.iconst 0, 1) := by decide +kernel
theorem dX11_moodBehind_79 : decode cX11_moodBehind 79 = .ok (.bipush 99, 2) := by decide +kernel
theorem dX11_moodBehind_81 : decode cX11_moodBehind 81 = .ok (.invokestatic 342, 3) := by decide +kernel
theorem dX11_moodBehind_84 : decode cX11_moodBehind 84 = .ok (.istore 4, 2) := by decide +kernel
theorem dX11_moodBehind_86 : decode cX11_moodBehind 86 = .ok (.iinc 5 1, 3) := by decide +kernel
theorem dX11_moodBehind_89 : decode cX11_moodBehind 89 = .ok (.goto (-73), 3) := by decide +kernel
theorem dX11_moodBehind_92 : decode cX11_moodBehind 92 = .ok (.iload 4, 2) := by decide +kernel
theorem dX11_moodBehind_94 : decode cX11_moodBehind 94 = .ok (.ireturn, 1) := by decide +kernel
theorem dX11_partnerIn_0 : decode cX11_partnerIn 0 = .ok (.aload_n 0, 1) := by decide +kernel
theorem dX11_partnerIn_1 : decode cX11_partnerIn 1 = .ok (.getfield 58, 3) := by decide +kernel
theorem dX11_partnerIn_4 : decode cX11_partnerIn 4 = .ok (.iconst 2, 1) := by decide +kernel
theorem dX11_partnerIn_5 : decode cX11_partnerIn 5 = .ok (.iconst 3, 1) := by decide +kernel
theorem dX11_partnerIn_6 : decode cX11_partnerIn 6 = .ok (.aload_n 0, 1) := by decide +kernel
theorem dX11_partnerIn_7 : decode cX11_partnerIn 7 = .ok (.getfield 233, 3) := by decide +kernel
theorem dX11_partnerIn_10 : decode cX11_partnerIn 10 = .ok (.imul, 1) := by decide +kernel
theorem dX11_partnerIn_11 : decode cX11_partnerIn 11 = .ok (.iload_n 1, 1) := by decide +kernel
theorem dX11_partnerIn_12 : decode cX11_partnerIn 12 = .ok (.iadd, 1) := by decide +kernel
theorem dX11_partnerIn_13 : decode cX11_partnerIn 13 = .ok (.imul, 1) := by decide +kernel
theorem dX11_partnerIn_14 : decode cX11_partnerIn 14 = .ok (.iload_n 2, 1) := by decide +kernel
theorem dX11_partnerIn_15 : decode cX11_partnerIn 15 = .ok (.iadd, 1) := by decide +kernel
theorem dX11_partnerIn_16 : decode cX11_partnerIn 16 = .ok (.iaload, 1) := by decide +kernel
theorem dX11_partnerIn_17 : decode cX11_partnerIn 17 = .ok (.ireturn, 1) := by decide +kernel
theorem dX11_speakerOf_0 : decode cX11_speakerOf 0 = .ok (.aload_n 0, 1) := by decide +kernel
theorem dX11_speakerOf_1 : decode cX11_speakerOf 1 = .ok (.iload_n 1, 1) := by decide +kernel
theorem dX11_speakerOf_2 : decode cX11_speakerOf 2 = .ok (.aload_n 0, 1) := by decide +kernel
theorem dX11_speakerOf_3 : decode cX11_speakerOf 3 = .ok (.getfield 116, 3) := by decide +kernel
theorem dX11_speakerOf_6 : decode cX11_speakerOf 6 = .ok (.bipush 44, 2) := by decide +kernel
theorem dX11_speakerOf_8 : decode cX11_speakerOf 8 = .ok (.iaload, 1) := by decide +kernel
theorem dX11_speakerOf_9 : decode cX11_speakerOf 9 = .ok (.iconst 2, 1) := by decide +kernel
theorem dX11_speakerOf_10 : decode cX11_speakerOf 10 = .ok (.irem, 1) := by decide +kernel
theorem dX11_speakerOf_11 : decode cX11_speakerOf 11 = .ok (.invokevirtual 366, 3) := by decide +kernel
theorem dX11_speakerOf_14 : decode cX11_speakerOf 14 = .ok (.ireturn, 1) := by decide +kernel
theorem dX11_talks_0 : decode cX11_talks 0 = .ok (.aload_n 0, 1) := by decide +kernel
theorem dX11_talks_1 : decode cX11_talks 1 = .ok (.getfield 116, 3) := by decide +kernel
theorem dX11_talks_4 : decode cX11_talks 4 = .ok (.bipush 12, 2) := by decide +kernel
theorem dX11_talks_6 : decode cX11_talks 6 = .ok (.iload_n 1, 1) := by decide +kernel
theorem dX11_talks_7 : decode cX11_talks 7 = .ok (.iadd, 1) := by decide +kernel
theorem dX11_talks_8 : decode cX11_talks 8 = .ok (.iaload, 1) := by decide +kernel
theorem dX11_talks_9 : decode cX11_talks 9 = .ok (.istore_n 2, 1) := by decide +kernel
theorem dX11_talks_10 : decode cX11_talks 10 = .ok (.aload_n 0, 1) := by decide +kernel
theorem dX11_talks_11 : decode cX11_talks 11 = .ok (.iload_n 1, 1) := by decide +kernel
theorem dX11_talks_12 : decode cX11_talks 12 = .ok (.invokevirtual 369, 3) := by decide +kernel
theorem dX11_talks_15 : decode cX11_talks 15 = .ok (.istore_n 3, 1) := by decide +kernel
theorem dX11_talks_16 : decode cX11_talks 16 = .ok (.aload_n 0, 1) := by decide +kernel
theorem dX11_talks_17 : decode cX11_talks 17 = .ok (.iload_n 1, 1) := by decide +kernel
theorem dX11_talks_18 : decode cX11_talks 18 = .ok (.iconst 1, 1) := by decide +kernel
theorem dX11_talks_19 : decode cX11_talks 19 = .ok (.aload_n 0, 1) := by decide +kernel
theorem dX11_talks_20 : decode cX11_talks 20 = .ok (.getfield 116, 3) := by decide +kernel
theorem dX11_talks_23 : decode cX11_talks 23 = .ok (.bipush 44, 2) := by decide +kernel
theorem dX11_talks_25 : decode cX11_talks 25 = .ok (.iaload, 1) := by decide +kernel
theorem dX11_talks_26 : decode cX11_talks 26 = .ok (.iconst 2, 1) := by decide +kernel
theorem dX11_talks_27 : decode cX11_talks 27 = .ok (.irem, 1) := by decide +kernel
theorem dX11_talks_28 : decode cX11_talks 28 = .ok (.isub, 1) := by decide +kernel
theorem dX11_talks_29 : decode cX11_talks 29 = .ok (.invokevirtual 366, 3) := by decide +kernel
theorem dX11_talks_32 : decode cX11_talks 32 = .ok (.istore 4, 2) := by decide +kernel
theorem dX11_talks_34 : decode cX11_talks 34 = .ok (.aload_n 0, 1) := by decide +kernel
theorem dX11_talks_35 : decode cX11_talks 35 = .ok (.iload_n 3, 1) := by decide +kernel
theorem dX11_talks_36 : decode cX11_talks 36 = .ok (.invokevirtual 372, 3) := by decide +kernel
theorem dX11_talks_39 : decode cX11_talks 39 = .ok (.istore 5, 2) := by decide +kernel
theorem dX11_talks_41 : decode cX11_talks 41 = .ok (.iload 5, 2) := by decide +kernel
theorem dX11_talks_43 : decode cX11_talks 43 = .ok (.invokestatic 351, 3) := by decide +kernel
theorem dX11_talks_46 : decode cX11_talks 46 = .ok (.istore 6, 2) := by decide +kernel
theorem dX11_talks_48 : decode cX11_talks 48 = .ok (.aload_n 0, 1) := by decide +kernel
theorem dX11_talks_49 : decode cX11_talks 49 = .ok (.iload_n 2, 1) := by decide +kernel
theorem dX11_talks_50 : decode cX11_talks 50 = .ok (.iload 5, 2) := by decide +kernel
theorem dX11_talks_52 : decode cX11_talks 52 = .ok (.iload_n 1, 1) := by decide +kernel
theorem dX11_talks_53 : decode cX11_talks 53 = .ok (.invokevirtual 375, 3) := by decide +kernel
theorem dX11_talks_56 : decode cX11_talks 56 = .ok (.istore 7, 2) := by decide +kernel
theorem dX11_talks_58 : decode cX11_talks 58 = .ok (.aload_n 0, 1) := by decide +kernel
theorem dX11_talks_59 : decode cX11_talks 59 = .ok (.invokevirtual 333, 3) := by decide +kernel
theorem dX11_talks_62 : decode cX11_talks 62 = .ok (.aload_n 0, 1) := by decide +kernel
theorem dX11_talks_63 : decode cX11_talks 63 = .ok (.getfield 107, 3) := by decide +kernel
theorem dX11_talks_66 : decode cX11_talks 66 = .ok (.iconst 2, 1) := by decide +kernel
theorem dX11_talks_67 : decode cX11_talks 67 = .ok (.aload_n 0, 1) := by decide +kernel
theorem dX11_talks_68 : decode cX11_talks 68 = .ok (.getfield 116, 3) := by decide +kernel
theorem dX11_talks_71 : decode cX11_talks 71 = .ok (.iload_n 3, 1) := by decide +kernel
theorem dX11_talks_72 : decode cX11_talks 72 = .ok (.iaload, 1) := by decide +kernel
theorem dX11_talks_73 : decode cX11_talks 73 = .ok (.iastore, 1) := by decide +kernel
theorem dX11_talks_74 : decode cX11_talks 74 = .ok (.aload_n 0, 1) := by decide +kernel
theorem dX11_talks_75 : decode cX11_talks 75 = .ok (.getfield 107, 3) := by decide +kernel
theorem dX11_talks_78 : decode cX11_talks 78 = .ok (.iconst 3, 1) := by decide +kernel
theorem dX11_talks_79 : decode cX11_talks 79 = .ok (.aload_n 0, 1) := by decide +kernel
theorem dX11_talks_80 : decode cX11_talks 80 = .ok (.getfield 116, 3) := by decide +kernel
theorem dX11_talks_83 : decode cX11_talks 83 = .ok (.bipush 24, 2) := by decide +kernel
theorem dX11_talks_85 : decode cX11_talks 85 = .ok (.iload_n 2, 1) := by decide +kernel
theorem dX11_talks_86 : decode cX11_talks 86 = .ok (.iadd, 1) := by decide +kernel
theorem dX11_talks_87 : decode cX11_talks 87 = .ok (.iaload, 1) := by decide +kernel
theorem dX11_talks_88 : decode cX11_talks 88 = .ok (.iastore, 1) := by decide +kernel
theorem dX11_talks_89 : decode cX11_talks 89 = .ok (.aload_n 0, 1) := by decide +kernel
theorem dX11_talks_90 : decode cX11_talks 90 = .ok (.getfield 107, 3) := by decide +kernel
theorem dX11_talks_93 : decode cX11_talks 93 = .ok (.iconst 4, 1) := by decide +kernel
theorem dX11_talks_94 : decode cX11_talks 94 = .ok (.aload_n 0, 1) := by decide +kernel
theorem dX11_talks_95 : decode cX11_talks 95 = .ok (.getfield 116, 3) := by decide +kernel
theorem dX11_talks_98 : decode cX11_talks 98 = .ok (.bipush 28, 2) := by decide +kernel
theorem dX11_talks_100 : decode cX11_talks 100 = .ok (.iload_n 2, 1) := by decide +kernel
theorem dX11_talks_101 : decode cX11_talks 101 = .ok (.iadd, 1) := by decide +kernel
theorem dX11_talks_102 : decode cX11_talks 102 = .ok (.iaload, 1) := by decide +kernel
theorem dX11_talks_103 : decode cX11_talks 103 = .ok (.iastore, 1) := by decide +kernel
theorem dX11_talks_104 : decode cX11_talks 104 = .ok (.aload_n 0, 1) := by decide +kernel
theorem dX11_talks_105 : decode cX11_talks 105 = .ok (.getfield 107, 3) := by decide +kernel
theorem dX11_talks_108 : decode cX11_talks 108 = .ok (.iconst 5, 1) := by decide +kernel
theorem dX11_talks_109 : decode cX11_talks 109 = .ok (.iload_n 1, 1) := by decide +kernel
theorem dX11_talks_110 : decode cX11_talks 110 = .ok (.iastore, 1) := by decide +kernel
theorem dX11_talks_111 : decode cX11_talks 111 = .ok (.aload_n 0, 1) := by decide +kernel
theorem dX11_talks_112 : decode cX11_talks 112 = .ok (.iconst 5, 1) := by decide +kernel
theorem dX11_talks_113 : decode cX11_talks 113 = .ok (.iconst 0, 1) := by decide +kernel
theorem dX11_talks_114 : decode cX11_talks 114 = .ok (.invokevirtual 339, 3) := by decide +kernel
theorem dX11_talks_117 : decode cX11_talks 117 = .ok (.iconst 0, 1) := by decide +kernel
theorem dX11_talks_118 : decode cX11_talks 118 = .ok (.bipush 9, 2) := by decide +kernel
theorem dX11_talks_120 : decode cX11_talks 120 = .ok (.invokestatic 342, 3) := by decide +kernel
theorem dX11_talks_123 : decode cX11_talks 123 = .ok (.istore 8, 2) := by decide +kernel
theorem dX11_talks_125 : decode cX11_talks 125 = .ok (.aload_n 0, 1) := by decide +kernel
theorem dX11_talks_126 : decode cX11_talks 126 = .ok (.getfield 116, 3) := by decide +kernel
theorem dX11_talks_129 : decode cX11_talks 129 = .ok (.iload 4, 2) := by decide +kernel
theorem dX11_talks_131 : decode cX11_talks 131 = .ok (.aload_n 0, 1) := by decide +kernel
theorem dX11_talks_132 : decode cX11_talks 132 = .ok (.iload 4, 2) := by decide +kernel
theorem dX11_talks_134 : decode cX11_talks 134 = .ok (.iload 7, 2) := by decide +kernel
theorem dX11_talks_136 : decode cX11_talks 136 = .ok (.invokevirtual 378, 3) := by decide +kernel
theorem dX11_talks_139 : decode cX11_talks 139 = .ok (.iastore, 1) := by decide +kernel
theorem dX11_talks_140 : decode cX11_talks 140 = .ok (.aload_n 0, 1) := by decide +kernel
theorem dX11_talks_141 : decode cX11_talks 141 = .ok (.getfield 116, 3) := by decide +kernel
theorem dX11_talks_144 : decode cX11_talks 144 = .ok (.bipush 6, 2) := by decide +kernel
theorem dX11_talks_146 : decode cX11_talks 146 = .ok (.iload 4, 2) := by decide +kernel
theorem dX11_talks_148 : decode cX11_talks 148 = .ok (.iadd, 1) := by decide +kernel
theorem dX11_talks_149 : decode cX11_talks 149 = .ok (.dup2, 1) := by decide +kernel
theorem dX11_talks_150 : decode cX11_talks 150 = .ok (.iaload, 1) := by decide +kernel
theorem dX11_talks_151 : decode cX11_talks 151 = .ok (.iload 7, 2) := by decide +kernel
theorem dX11_talks_153 : decode cX11_talks 153 = .ok (.invokestatic 351, 3) := by decide +kernel
theorem dX11_talks_156 : decode cX11_talks 156 = .ok (.iadd, 1) := by decide +kernel
theorem dX11_talks_157 : decode cX11_talks 157 = .ok (.iastore, 1) := by decide +kernel
theorem dX11_talks_158 : decode cX11_talks 158 = .ok (.aload_n 0, 1) := by decide +kernel
theorem dX11_talks_159 : decode cX11_talks 159 = .ok (.getfield 116, 3) := by decide +kernel
theorem dX11_talks_162 : decode cX11_talks 162 = .ok (.bipush 18, 2) := by decide +kernel
theorem dX11_talks_164 : decode cX11_talks 164 = .ok (.iload_n 1, 1) := by decide +kernel
theorem dX11_talks_165 : decode cX11_talks 165 = .ok (.iadd, 1) := by decide +kernel
theorem dX11_talks_166 : decode cX11_talks 166 = .ok (.dup2, 1) := by decide +kernel
theorem dX11_talks_167 : decode cX11_talks 167 = .ok (.iaload, 1) := by decide +kernel
theorem dX11_talks_168 : decode cX11_talks 168 = .ok (.iload 6, 2) := by decide +kernel
theorem dX11_talks_170 : decode cX11_talks 170 = .ok (.aload_n 0, 1) := by decide +kernel
theorem dX11_talks_171 : decode cX11_talks 171 = .ok (.getfield 64, 3) := by decide +kernel
theorem dX11_talks_174 : decode cX11_talks 174 = .ok (.iconst 4, 1) := by decide +kernel
theorem dX11_talks_175 : decode cX11_talks 175 = .ok (.aload_n 0, 1) := by decide +kernel
theorem dX11_talks_176 : decode cX11_talks 176 = .ok (.getfield 233, 3) := by decide +kernel
theorem dX11_talks_179 : decode cX11_talks 179 = .ok (.imul, 1) := by decide +kernel
theorem dX11_talks_180 : decode cX11_talks 180 = .ok (.iload_n 2, 1) := by decide +kernel
theorem dX11_talks_181 : decode cX11_talks 181 = .ok (.iadd, 1) := by decide +kernel
theorem dX11_talks_182 : decode cX11_talks 182 = .ok (.iaload, 1) := by decide +kernel
theorem dX11_talks_183 : decode cX11_talks 183 = .ok (.imul, 1) := by decide +kernel
theorem dX11_talks_184 : decode cX11_talks 184 = .ok (.iadd, 1) := by decide +kernel
theorem dX11_talks_185 : decode cX11_talks 185 = .ok (.iastore, 1) := by decide +kernel
theorem dX11_talks_186 : decode cX11_talks 186 = .ok (.aload_n 0, 1) := by decide +kernel
theorem dX11_talks_187 : decode cX11_talks 187 = .ok (.getfield 116, 3) := by decide +kernel
theorem dX11_talks_190 : decode cX11_talks 190 = .ok (.bipush 36, 2) := by decide +kernel
theorem dX11_talks_192 : decode cX11_talks 192 = .ok (.iload_n 2, 1) := by decide +kernel
theorem dX11_talks_193 : decode cX11_talks 193 = .ok (.iadd, 1) := by decide +kernel
theorem dX11_talks_194 : decode cX11_talks 194 = .ok (.dup2, 1) := by decide +kernel
theorem dX11_talks_195 : decode cX11_talks 195 = .ok (.iaload, 1) := by decide +kernel
theorem dX11_talks_196 : decode cX11_talks 196 = .ok (.iload 6, 2) := by decide +kernel
theorem dX11_talks_198 : decode cX11_talks 198 = .ok (.aload_n 0, 1) := by decide +kernel
theorem dX11_talks_199 : decode cX11_talks 199 = .ok (.getfield 64, 3) := by decide +kernel
theorem dX11_talks_202 : decode cX11_talks 202 = .ok (.iconst 4, 1) := by decide +kernel
theorem dX11_talks_203 : decode cX11_talks 203 = .ok (.aload_n 0, 1) := by decide +kernel
theorem dX11_talks_204 : decode cX11_talks 204 = .ok (.getfield 233, 3) := by decide +kernel
theorem dX11_talks_207 : decode cX11_talks 207 = .ok (.imul, 1) := by decide +kernel
theorem dX11_talks_208 : decode cX11_talks 208 = .ok (.iload_n 2, 1) := by decide +kernel
theorem dX11_talks_209 : decode cX11_talks 209 = .ok (.iadd, 1) := by decide +kernel
theorem dX11_talks_210 : decode cX11_talks 210 = .ok (.iaload, 1) := by decide +kernel
theorem dX11_talks_211 : decode cX11_talks 211 = .ok (.imul, 1) := by decide +kernel
theorem dX11_talks_212 : decode cX11_talks 212 = .ok (.iadd, 1) := by decide +kernel
theorem dX11_talks_213 : decode cX11_talks 213 = .ok (.iastore, 1) := by decide +kernel
theorem dX11_talks_214 : decode cX11_talks 214 = .ok (.aload_n 0, 1) := by decide +kernel
theorem dX11_talks_215 : decode cX11_talks 215 = .ok (.getfield 116, 3) := by decide +kernel
theorem dX11_talks_218 : decode cX11_talks 218 = .ok (.bipush 24, 2) := by decide +kernel
theorem dX11_talks_220 : decode cX11_talks 220 = .ok (.iload_n 2, 1) := by decide +kernel
theorem dX11_talks_221 : decode cX11_talks 221 = .ok (.iadd, 1) := by decide +kernel
theorem dX11_talks_222 : decode cX11_talks 222 = .ok (.aload_n 0, 1) := by decide +kernel
theorem dX11_talks_223 : decode cX11_talks 223 = .ok (.getfield 116, 3) := by decide +kernel
theorem dX11_talks_226 : decode cX11_talks 226 = .ok (.bipush 24, 2) := by decide +kernel
theorem dX11_talks_228 : decode cX11_talks 228 = .ok (.iload_n 2, 1) := by decide +kernel
theorem dX11_talks_229 : decode cX11_talks 229 = .ok (.iadd, 1) := by decide +kernel
theorem dX11_talks_230 : decode cX11_talks 230 = .ok (.iaload, 1) := by decide +kernel
theorem dX11_talks_231 : decode cX11_talks 231 = .ok (.iload 6, 2) := by decide +kernel
theorem dX11_talks_233 : decode cX11_talks 233 = .ok (.iadd, 1) := by decide +kernel
theorem dX11_talks_234 : decode cX11_talks 234 = .ok (.iconst 0, 1) := by decide +kernel
theorem dX11_talks_235 : decode cX11_talks 235 = .ok (.bipush 99, 2) := by decide +kernel
theorem dX11_talks_237 : decode cX11_talks 237 = .ok (.invokestatic 342, 3) := by decide +kernel
theorem dX11_talks_240 : decode cX11_talks 240 = .ok (.iastore, 1) := by decide +kernel
theorem dX11_talks_241 : decode cX11_talks 241 = .ok (.aload_n 0, 1) := by decide +kernel
theorem dX11_talks_242 : decode cX11_talks 242 = .ok (.getfield 116, 3) := by decide +kernel
theorem dX11_talks_245 : decode cX11_talks 245 = .ok (.bipush 28, 2) := by decide +kernel
theorem dX11_talks_247 : decode cX11_talks 247 = .ok (.iload_n 2, 1) := by decide +kernel
theorem dX11_talks_248 : decode cX11_talks 248 = .ok (.iadd, 1) := by decide +kernel
theorem dX11_talks_249 : decode cX11_talks 249 = .ok (.aload_n 0, 1) := by decide +kernel
theorem dX11_talks_250 : decode cX11_talks 250 = .ok (.getfield 116, 3) := by decide +kernel
theorem dX11_talks_253 : decode cX11_talks 253 = .ok (.bipush 28, 2) := by decide +kernel
theorem dX11_talks_255 : decode cX11_talks 255 = .ok (.iload_n 2, 1) := by decide +kernel
theorem dX11_talks_256 : decode cX11_talks 256 = .ok (.iadd, 1) := by decide +kernel
theorem dX11_talks_257 : decode cX11_talks 257 = .ok (.iaload, 1) := by decide +kernel
theorem dX11_talks_258 : decode cX11_talks 258 = .ok (.iload 8, 2) := by decide +kernel
theorem dX11_talks_260 : decode cX11_talks 260 = .ok (.iadd, 1) := by decide +kernel
theorem dX11_talks_261 : decode cX11_talks 261 = .ok (.iconst 0, 1) := by decide +kernel
theorem dX11_talks_262 : decode cX11_talks 262 = .ok (.bipush 99, 2) := by decide +kernel
theorem dX11_talks_264 : decode cX11_talks 264 = .ok (.invokestatic 342, 3) := by decide +kernel
theorem dX11_talks_267 : decode cX11_talks 267 = .ok (.iastore, 1) := by decide +kernel
theorem dX11_talks_268 : decode cX11_talks 268 = .ok (.aload_n 0, 1) := by decide +kernel
theorem dX11_talks_269 : decode cX11_talks 269 = .ok (.getfield 116, 3) := by decide +kernel
theorem dX11_talks_272 : decode cX11_talks 272 = .ok (.bipush 45, 2) := by decide +kernel
theorem dX11_talks_274 : decode cX11_talks 274 = .ok (.dup2, 1) := by decide +kernel
theorem dX11_talks_275 : decode cX11_talks 275 = .ok (.iaload, 1) := by decide +kernel
theorem dX11_talks_276 : decode cX11_talks 276 = .ok (.iload 6, 2) := by decide +kernel
theorem dX11_talks_278 : decode cX11_talks 278 = .ok (.iadd, 1) := by decide +kernel
theorem dX11_talks_279 : decode cX11_talks 279 = .ok (.iastore, 1) := by decide +kernel
theorem dX11_talks_280 : decode cX11_talks 280 = .ok (.aload_n 0, 1) := by decide +kernel
theorem dX11_talks_281 : decode cX11_talks 281 = .ok (.getfield 116, 3) := by decide +kernel
theorem dX11_talks_284 : decode cX11_talks 284 = .ok (.bipush 46, 2) := by decide +kernel
theorem dX11_talks_286 : decode cX11_talks 286 = .ok (.dup2, 1) := by decide +kernel
theorem dX11_talks_287 : decode cX11_talks 287 = .ok (.iaload, 1) := by decide +kernel
theorem dX11_talks_288 : decode cX11_talks 288 = .ok (.iload 7, 2) := by decide +kernel
theorem dX11_talks_290 : decode cX11_talks 290 = .ok (.invokestatic 351, 3) := by decide +kernel
theorem dX11_talks_293 : decode cX11_talks 293 = .ok (.iadd, 1) := by decide +kernel
theorem dX11_talks_294 : decode cX11_talks 294 = .ok (.iastore, 1) := by decide +kernel
theorem dX11_talks_295 : decode cX11_talks 295 = .ok (.aload_n 0, 1) := by decide +kernel
theorem dX11_talks_296 : decode cX11_talks 296 = .ok (.getfield 116, 3) := by decide +kernel
theorem dX11_talks_299 : decode cX11_talks 299 = .ok (.bipush 32, 2) := by decide +kernel
theorem dX11_talks_301 : decode cX11_talks 301 = .ok (.iload_n 2, 1) := by decide +kernel
theorem dX11_talks_302 : decode cX11_talks 302 = .ok (.iadd, 1) := by decide +kernel
theorem dX11_talks_303 : decode cX11_talks 303 = .ok (.iaload, 1) := by decide +kernel
theorem dX11_talks_304 : decode cX11_talks 304 = .ok (.ifCond .eq 10, 3) := by decide +kernel
theorem dX11_talks_307 : decode cX11_talks 307 = .ok (.iload 7, 2) := by decide +kernel
theorem dX11_talks_309 : decode cX11_talks 309 = .ok (.iload 5, 2) := by decide +kernel
theorem dX11_talks_311 : decode cX11_talks 311 = .ok (.if_icmp .ne 4, 3) := by decide +kernel
theorem dX11_talks_314 : decode cX11_talks 314 = .ok (.return_, 1) := by decide +kernel
theorem dX11_talks_315 : decode cX11_talks 315 = .ok (.aload_n 0, 1) := by decide +kernel
theorem dX11_talks_316 : decode cX11_talks 316 = .ok (.getfield 116, 3) := by decide +kernel
theorem dX11_talks_319 : decode cX11_talks 319 = .ok (.bipush 40, 2) := by decide +kernel
theorem dX11_talks_321 : decode cX11_talks 321 = .ok (.iload_n 2, 1) := by decide +kernel
theorem dX11_talks_322 : decode cX11_talks 322 = .ok (.iadd, 1) := by decide +kernel
theorem dX11_talks_323 : decode cX11_talks 323 = .ok (.dup2, 1) := by decide +kernel
theorem dX11_talks_324 : decode cX11_talks 324 = .ok (.iaload, 1) := by decide +kernel
theorem dX11_talks_325 : decode cX11_talks 325 = .ok (.iconst 1, 1) := by decide +kernel
theorem dX11_talks_326 : decode cX11_talks 326 = .ok (.iadd, 1) := by decide +kernel
theorem dX11_talks_327 : decode cX11_talks 327 = .ok (.iastore, 1) := by decide +kernel
theorem dX11_talks_328 : decode cX11_talks 328 = .ok (.aload_n 0, 1) := by decide +kernel
theorem dX11_talks_329 : decode cX11_talks 329 = .ok (.getfield 116, 3) := by decide +kernel
theorem dX11_talks_332 : decode cX11_talks 332 = .ok (.bipush 36, 2) := by decide +kernel
theorem dX11_talks_334 : decode cX11_talks 334 = .ok (.iload_n 2, 1) := by decide +kernel
theorem dX11_talks_335 : decode cX11_talks 335 = .ok (.iadd, 1) := by decide +kernel
theorem dX11_talks_336 : decode cX11_talks 336 = .ok (.dup2, 1) := by decide +kernel
theorem dX11_talks_337 : decode cX11_talks 337 = .ok (.iaload, 1) := by decide +kernel
theorem dX11_talks_338 : decode cX11_talks 338 = .ok (.aload_n 0, 1) := by decide +kernel
theorem dX11_talks_339 : decode cX11_talks 339 = .ok (.getfield 70, 3) := by decide +kernel
theorem dX11_talks_342 : decode cX11_talks 342 = .ok (.aload_n 0, 1) := by decide +kernel
theorem dX11_talks_343 : decode cX11_talks 343 = .ok (.getfield 233, 3) := by decide +kernel
theorem dX11_talks_346 : decode cX11_talks 346 = .ok (.iaload, 1) := by decide +kernel
theorem dX11_talks_347 : decode cX11_talks 347 = .ok (.isub, 1) := by decide +kernel
theorem dX11_talks_348 : decode cX11_talks 348 = .ok (.iastore, 1) := by decide +kernel
theorem dX11_talks_349 : decode cX11_talks 349 = .ok (.return_, 1) := by decide +kernel
theorem dX11_staysSilent_0 : decode cX11_staysSilent 0 = .ok (.aload_n 0, 1) := by decide +kernel
theorem dX11_staysSilent_1 : decode cX11_staysSilent 1 = .ok (.getfield 116, 3) := by decide +kernel
theorem dX11_staysSilent_4 : decode cX11_staysSilent 4 = .ok (.bipush 21, 2) := by decide +kernel
theorem dX11_staysSilent_6 : decode cX11_staysSilent 6 = .ok (.iload_n 1, 1) := by decide +kernel
theorem dX11_staysSilent_7 : decode cX11_staysSilent 7 = .ok (.iadd, 1) := by decide +kernel
theorem dX11_staysSilent_8 : decode cX11_staysSilent 8 = .ok (.dup2, 1) := by decide +kernel
theorem dX11_staysSilent_9 : decode cX11_staysSilent 9 = .ok (.iaload, 1) := by decide +kernel
theorem dX11_staysSilent_10 : decode cX11_staysSilent 10 = .ok (.iconst 1, 1) := by decide +kernel
theorem dX11_staysSilent_11 : decode cX11_staysSilent 11 = .ok (.iadd, 1) := by decide +kernel
theorem dX11_staysSilent_12 : decode cX11_staysSilent 12 = .ok (.iastore, 1) := by decide +kernel
theorem dX11_staysSilent_13 : decode cX11_staysSilent 13 = .ok (.iconst 0, 1) := by decide +kernel
theorem dX11_staysSilent_14 : decode cX11_staysSilent 14 = .ok (.istore_n 2, 1) := by decide +kernel
theorem dX11_staysSilent_15 : decode cX11_staysSilent 15 = .ok (.iload_n 2, 1) := by decide +kernel
theorem dX11_staysSilent_16 : decode cX11_staysSilent 16 = .ok (.iconst 2, 1) := by decide +kernel
theorem dX11_staysSilent_17 : decode cX11_staysSilent 17 = .ok (.if_icmp .ge 38, 3) := by decide +kernel
theorem dX11_staysSilent_20 : decode cX11_staysSilent 20 = .ok (.aload_n 0, 1) := by decide +kernel
theorem dX11_staysSilent_21 : decode cX11_staysSilent 21 = .ok (.getfield 116, 3) := by decide +kernel
theorem dX11_staysSilent_24 : decode cX11_staysSilent 24 = .ok (.aload_n 0, 1) := by decide +kernel
theorem dX11_staysSilent_25 : decode cX11_staysSilent 25 = .ok (.iload_n 1, 1) := by decide +kernel
theorem dX11_staysSilent_26 : decode cX11_staysSilent 26 = .ok (.iload_n 2, 1) := by decide +kernel
theorem dX11_staysSilent_27 : decode cX11_staysSilent 27 = .ok (.invokevirtual 366, 3) := by decide +kernel
theorem dX11_staysSilent_30 : decode cX11_staysSilent 30 = .ok (.iaload, 1) := by decide +kernel
theorem dX11_staysSilent_31 : decode cX11_staysSilent 31 = .ok (.ifCond .le 18, 3) := by decide +kernel
theorem dX11_staysSilent_34 : decode cX11_staysSilent 34 = .ok (.aload_n 0, 1) := by decide +kernel
theorem dX11_staysSilent_35 : decode cX11_staysSilent 35 = .ok (.getfield 116, 3) := by decide +kernel
theorem dX11_staysSilent_38 : decode cX11_staysSilent 38 = .ok (.aload_n 0, 1) := by decide +kernel
theorem dX11_staysSilent_39 : decode cX11_staysSilent 39 = .ok (.iload_n 1, 1) := by decide +kernel
theorem dX11_staysSilent_40 : decode cX11_staysSilent 40 = .ok (.iload_n 2, 1) := by decide +kernel
theorem dX11_staysSilent_41 : decode cX11_staysSilent 41 = .ok (.invokevirtual 366, 3) := by decide +kernel
theorem dX11_staysSilent_44 : decode cX11_staysSilent 44 = .ok (.dup2, 1) := by decide +kernel
theorem dX11_staysSilent_45 : decode cX11_staysSilent 45 = .ok (.iaload, 1) := by decide +kernel
theorem dX11_staysSilent_46 : decode cX11_staysSilent 46 = .ok (.iconst 1, 1) := by decide +kernel
theorem dX11_staysSilent_47 : decode cX11_staysSilent 47 = .ok (.isub, 1) := by decide +kernel
theorem dX11_staysSilent_48 : decode cX11_staysSilent 48 = .ok (.iastore, 1) := by decide +kernel
theorem dX11_staysSilent_49 : decode cX11_staysSilent 49 = .ok (.iinc 2 1, 3) := by decide +kernel
theorem dX11_staysSilent_52 : decode cX11_staysSilent 52 = .ok (.goto (-37), 3) := by decide +kernel
theorem dX11_staysSilent_55 : decode cX11_staysSilent 55 = .ok (.return_, 1) := by decide +kernel
theorem dX11_hiredBy_0 : decode cX11_hiredBy 0 = .ok (.iconst 0, 1) := by decide +kernel
theorem dX11_hiredBy_1 : decode cX11_hiredBy 1 = .ok (.istore_n 2, 1) := by decide +kernel
theorem dX11_hiredBy_2 : decode cX11_hiredBy 2 = .ok (.iconst 0, 1) := by decide +kernel
theorem dX11_hiredBy_3 : decode cX11_hiredBy 3 = .ok (.istore_n 3, 1) := by decide +kernel
theorem dX11_hiredBy_4 : decode cX11_hiredBy 4 = .ok (.iload_n 3, 1) := by decide +kernel
theorem dX11_hiredBy_5 : decode cX11_hiredBy 5 = .ok (.aload_n 0, 1) := by decide +kernel
theorem dX11_hiredBy_6 : decode cX11_hiredBy 6 = .ok (.getfield 55, 3) := by decide +kernel
theorem dX11_hiredBy_9 : decode cX11_hiredBy 9 = .ok (.aload_n 0, 1) := by decide +kernel
theorem dX11_hiredBy_10 : decode cX11_hiredBy 10 = .ok (.getfield 233, 3) := by decide +kernel
theorem dX11_hiredBy_13 : decode cX11_hiredBy 13 = .ok (.iaload, 1) := by decide +kernel
theorem dX11_hiredBy_14 : decode cX11_hiredBy 14 = .ok (.if_icmp .ge 28, 3) := by decide +kernel
theorem dX11_hiredBy_17 : decode cX11_hiredBy 17 = .ok (.aload_n 0, 1) := by decide +kernel
theorem dX11_hiredBy_18 : decode cX11_hiredBy 18 = .ok (.getfield 116, 3) := by decide +kernel
theorem dX11_hiredBy_21 : decode cX11_hiredBy 21 = .ok (.bipush 12, 2) := by decide +kernel
theorem dX11_hiredBy_23 : decode cX11_hiredBy 23 = .ok (.iload_n 3, 1) := by decide +kernel
theorem dX11_hiredBy_24 : decode cX11_hiredBy 24 = .ok (.iadd, 1) := by decide +kernel
theorem dX11_hiredBy_25 : decode cX11_hiredBy 25 = .ok (.iaload, 1) := by decide +kernel
theorem dX11_hiredBy_26 : decode cX11_hiredBy 26 = .ok (.iload_n 1, 1) := by decide +kernel
theorem dX11_hiredBy_27 : decode cX11_hiredBy 27 = .ok (.if_icmp .ne 9, 3) := by decide +kernel
theorem dX11_hiredBy_30 : decode cX11_hiredBy 30 = .ok (.iload_n 2, 1) := by decide +kernel
theorem dX11_hiredBy_31 : decode cX11_hiredBy 31 = .ok (.iconst 1, 1) := by decide +kernel
theorem dX11_hiredBy_32 : decode cX11_hiredBy 32 = .ok (.iload_n 3, 1) := by decide +kernel
theorem dX11_hiredBy_33 : decode cX11_hiredBy 33 = .ok (.ishl, 1) := by decide +kernel
theorem dX11_hiredBy_34 : decode cX11_hiredBy 34 = .ok (.ior, 1) := by decide +kernel
theorem dX11_hiredBy_35 : decode cX11_hiredBy 35 = .ok (.istore_n 2, 1) := by decide +kernel
theorem dX11_hiredBy_36 : decode cX11_hiredBy 36 = .ok (.iinc 3 1, 3) := by decide +kernel
theorem dX11_hiredBy_39 : decode cX11_hiredBy 39 = .ok (.goto (-35), 3) := by decide +kernel
theorem dX11_hiredBy_42 : decode cX11_hiredBy 42 = .ok (.iload_n 2, 1) := by decide +kernel
theorem dX11_hiredBy_43 : decode cX11_hiredBy 43 = .ok (.ireturn, 1) := by decide +kernel
theorem dX11_weekGoes_0 : decode cX11_weekGoes 0 = .ok (.iconst 0, 1) := by decide +kernel
theorem dX11_weekGoes_1 : decode cX11_weekGoes 1 = .ok (.istore_n 1, 1) := by decide +kernel
theorem dX11_weekGoes_2 : decode cX11_weekGoes 2 = .ok (.iload_n 1, 1) := by decide +kernel
theorem dX11_weekGoes_3 : decode cX11_weekGoes 3 = .ok (.aload_n 0, 1) := by decide +kernel
theorem dX11_weekGoes_4 : decode cX11_weekGoes 4 = .ok (.getfield 55, 3) := by decide +kernel
theorem dX11_weekGoes_7 : decode cX11_weekGoes 7 = .ok (.aload_n 0, 1) := by decide +kernel
theorem dX11_weekGoes_8 : decode cX11_weekGoes 8 = .ok (.getfield 233, 3) := by decide +kernel
theorem dX11_weekGoes_11 : decode cX11_weekGoes 11 = .ok (.iaload, 1) := by decide +kernel
theorem dX11_weekGoes_12 : decode cX11_weekGoes 12 = .ok (.if_icmp .ge 102, 3) := by decide +kernel
theorem dX11_weekGoes_15 : decode cX11_weekGoes 15 = .ok (.aload_n 0, 1) := by decide +kernel
theorem dX11_weekGoes_16 : decode cX11_weekGoes 16 = .ok (.getfield 116, 3) := by decide +kernel
theorem dX11_weekGoes_19 : decode cX11_weekGoes 19 = .ok (.bipush 15, 2) := by decide +kernel
theorem dX11_weekGoes_21 : decode cX11_weekGoes 21 = .ok (.iload_n 1, 1) := by decide +kernel
theorem dX11_weekGoes_22 : decode cX11_weekGoes 22 = .ok (.iadd, 1) := by decide +kernel
theorem dX11_weekGoes_23 : decode cX11_weekGoes 23 = .ok (.iaload, 1) := by decide +kernel
theorem dX11_weekGoes_24 : decode cX11_weekGoes 24 = .ok (.iconst 1, 1) := by decide +kernel
theorem dX11_weekGoes_25 : decode cX11_weekGoes 25 = .ok (.if_icmp .ne 6, 3) := by decide +kernel
theorem dX11_weekGoes_28 : decode cX11_weekGoes 28 = .ok (.goto 80, 3) := by decide +kernel
theorem dX11_weekGoes_31 : decode cX11_weekGoes 31 = .ok (.aload_n 0, 1) := by decide +kernel
theorem dX11_weekGoes_32 : decode cX11_weekGoes 32 = .ok (.getfield 116, 3) := by decide +kernel
theorem dX11_weekGoes_35 : decode cX11_weekGoes 35 = .ok (.bipush 12, 2) := by decide +kernel
theorem dX11_weekGoes_37 : decode cX11_weekGoes 37 = .ok (.iload_n 1, 1) := by decide +kernel
theorem dX11_weekGoes_38 : decode cX11_weekGoes 38 = .ok (.iadd, 1) := by decide +kernel
theorem dX11_weekGoes_39 : decode cX11_weekGoes 39 = .ok (.iaload, 1) := by decide +kernel
theorem dX11_weekGoes_40 : decode cX11_weekGoes 40 = .ok (.ifCond .lt 11, 3) := by decide +kernel
theorem dX11_weekGoes_43 : decode cX11_weekGoes 43 = .ok (.aload_n 0, 1) := by decide +kernel
theorem dX11_weekGoes_44 : decode cX11_weekGoes 44 = .ok (.iload_n 1, 1) := by decide +kernel
theorem dX11_weekGoes_45 : decode cX11_weekGoes 45 = .ok (.invokevirtual 381, 3) := by decide +kernel
theorem dX11_weekGoes_48 : decode cX11_weekGoes 48 = .ok (.goto 8, 3) := by decide +kernel
theorem dX11_weekGoes_51 : decode cX11_weekGoes 51 = .ok (.aload_n 0, 1) := by decide +kernel
theorem dX11_weekGoes_52 : decode cX11_weekGoes 52 = .ok (.iload_n 1, 1) := by decide +kernel
theorem dX11_weekGoes_53 : decode cX11_weekGoes 53 = .ok (.invokevirtual 384, 3) := by decide +kernel
theorem dX11_weekGoes_56 : decode cX11_weekGoes 56 = .ok (.aload_n 0, 1) := by decide +kernel
theorem dX11_weekGoes_57 : decode cX11_weekGoes 57 = .ok (.getfield 116, 3) := by decide +kernel
theorem dX11_weekGoes_60 : decode cX11_weekGoes 60 = .ok (.aload_n 0, 1) := by decide +kernel
theorem dX11_weekGoes_61 : decode cX11_weekGoes 61 = .ok (.iload_n 1, 1) := by decide +kernel
theorem dX11_weekGoes_62 : decode cX11_weekGoes 62 = .ok (.iconst 0, 1) := by decide +kernel
theorem dX11_weekGoes_63 : decode cX11_weekGoes 63 = .ok (.invokevirtual 366, 3) := by decide +kernel
theorem dX11_weekGoes_66 : decode cX11_weekGoes 66 = .ok (.iaload, 1) := by decide +kernel
theorem dX11_weekGoes_67 : decode cX11_weekGoes 67 = .ok (.ifCond .le 20, 3) := by decide +kernel
theorem dX11_weekGoes_70 : decode cX11_weekGoes 70 = .ok (.aload_n 0, 1) := by decide +kernel
theorem dX11_weekGoes_71 : decode cX11_weekGoes 71 = .ok (.getfield 116, 3) := by decide +kernel
theorem dX11_weekGoes_74 : decode cX11_weekGoes 74 = .ok (.aload_n 0, 1) := by decide +kernel
theorem dX11_weekGoes_75 : decode cX11_weekGoes 75 = .ok (.iload_n 1, 1) := by decide +kernel
theorem dX11_weekGoes_76 : decode cX11_weekGoes 76 = .ok (.iconst 1, 1) := by decide +kernel
theorem dX11_weekGoes_77 : decode cX11_weekGoes 77 = .ok (.invokevirtual 366, 3) := by decide +kernel
theorem dX11_weekGoes_80 : decode cX11_weekGoes 80 = .ok (.iaload, 1) := by decide +kernel
theorem dX11_weekGoes_81 : decode cX11_weekGoes 81 = .ok (.ifCond .le 6, 3) := by decide +kernel
theorem dX11_weekGoes_84 : decode cX11_weekGoes 84 = .ok (.goto 24, 3) := by decide +kernel
theorem dX11_weekGoes_87 : decode cX11_weekGoes 87 = .ok (.aload_n 0, 1) := by decide +kernel
theorem dX11_weekGoes_88 : decode cX11_weekGoes 88 = .ok (.getfield 116, 3) := by decide +kernel
theorem dX11_weekGoes_91 : decode cX11_weekGoes 91 = .ok (.bipush 15, 2) := by decide +kernel
theorem dX11_weekGoes_93 : decode cX11_weekGoes 93 = .ok (.iload_n 1, 1) := by decide +kernel
theorem dX11_weekGoes_94 : decode cX11_weekGoes 94 = .ok (.iadd, 1) := by decide +kernel
theorem dX11_weekGoes_95 : decode cX11_weekGoes 95 = .ok (.iconst 1, 1) := by decide +kernel
theorem dX11_weekGoes_96 : decode cX11_weekGoes 96 = .ok (.iastore, 1) := by decide +kernel
theorem dX11_weekGoes_97 : decode cX11_weekGoes 97 = .ok (.aload_n 0, 1) := by decide +kernel
theorem dX11_weekGoes_98 : decode cX11_weekGoes 98 = .ok (.getfield 116, 3) := by decide +kernel
theorem dX11_weekGoes_101 : decode cX11_weekGoes 101 = .ok (.bipush 12, 2) := by decide +kernel
theorem dX11_weekGoes_103 : decode cX11_weekGoes 103 = .ok (.iload_n 1, 1) := by decide +kernel
theorem dX11_weekGoes_104 : decode cX11_weekGoes 104 = .ok (.iadd, 1) := by decide +kernel
theorem dX11_weekGoes_105 : decode cX11_weekGoes 105 = .ok (.bipush (-2), 2) := by decide +kernel
theorem dX11_weekGoes_107 : decode cX11_weekGoes 107 = .ok (.iastore, 1) := by decide +kernel
theorem dX11_weekGoes_108 : decode cX11_weekGoes 108 = .ok (.iinc 1 1, 3) := by decide +kernel
theorem dX11_weekGoes_111 : decode cX11_weekGoes 111 = .ok (.goto (-109), 3) := by decide +kernel
theorem dX11_weekGoes_114 : decode cX11_weekGoes 114 = .ok (.iconst 0, 1) := by decide +kernel
theorem dX11_weekGoes_115 : decode cX11_weekGoes 115 = .ok (.istore_n 1, 1) := by decide +kernel
theorem dX11_weekGoes_116 : decode cX11_weekGoes 116 = .ok (.iload_n 1, 1) := by decide +kernel
theorem dX11_weekGoes_117 : decode cX11_weekGoes 117 = .ok (.aload_n 0, 1) := by decide +kernel
theorem dX11_weekGoes_118 : decode cX11_weekGoes 118 = .ok (.getfield 61, 3) := by decide +kernel
theorem dX11_weekGoes_121 : decode cX11_weekGoes 121 = .ok (.aload_n 0, 1) := by decide +kernel
theorem dX11_weekGoes_122 : decode cX11_weekGoes 122 = .ok (.getfield 233, 3) := by decide +kernel
theorem dX11_weekGoes_125 : decode cX11_weekGoes 125 = .ok (.iaload, 1) := by decide +kernel
theorem dX11_weekGoes_126 : decode cX11_weekGoes 126 = .ok (.if_icmp .ge 43, 3) := by decide +kernel
theorem dX11_weekGoes_129 : decode cX11_weekGoes 129 = .ok (.aload_n 0, 1) := by decide +kernel
theorem dX11_weekGoes_130 : decode cX11_weekGoes 130 = .ok (.iload_n 1, 1) := by decide +kernel
theorem dX11_weekGoes_131 : decode cX11_weekGoes 131 = .ok (.invokevirtual 387, 3) := by decide +kernel
theorem dX11_weekGoes_134 : decode cX11_weekGoes 134 = .ok (.ifCond .ne 29, 3) := by decide +kernel
theorem dX11_weekGoes_137 : decode cX11_weekGoes 137 = .ok (.aload_n 0, 1) := by decide +kernel
theorem dX11_weekGoes_138 : decode cX11_weekGoes 138 = .ok (.getfield 116, 3) := by decide +kernel
theorem dX11_weekGoes_141 : decode cX11_weekGoes 141 = .ok (.bipush 24, 2) := by decide +kernel
theorem dX11_weekGoes_143 : decode cX11_weekGoes 143 = .ok (.iload_n 1, 1) := by decide +kernel
theorem dX11_weekGoes_144 : decode cX11_weekGoes 144 = .ok (.iadd, 1) := by decide +kernel
theorem dX11_weekGoes_145 : decode cX11_weekGoes 145 = .ok (.aload_n 0, 1) := by decide +kernel
theorem dX11_weekGoes_146 : decode cX11_weekGoes 146 = .ok (.getfield 116, 3) := by decide +kernel
theorem dX11_weekGoes_149 : decode cX11_weekGoes 149 = .ok (.bipush 24, 2) := by decide +kernel
theorem dX11_weekGoes_151 : decode cX11_weekGoes 151 = .ok (.iload_n 1, 1) := by decide +kernel
theorem dX11_weekGoes_152 : decode cX11_weekGoes 152 = .ok (.iadd, 1) := by decide +kernel
theorem dX11_weekGoes_153 : decode cX11_weekGoes 153 = .ok (.iaload, 1) := by decide +kernel
theorem dX11_weekGoes_154 : decode cX11_weekGoes 154 = .ok (.iconst 5, 1) := by decide +kernel
theorem dX11_weekGoes_155 : decode cX11_weekGoes 155 = .ok (.isub, 1) := by decide +kernel
theorem dX11_weekGoes_156 : decode cX11_weekGoes 156 = .ok (.iconst 0, 1) := by decide +kernel
theorem dX11_weekGoes_157 : decode cX11_weekGoes 157 = .ok (.bipush 99, 2) := by decide +kernel
theorem dX11_weekGoes_159 : decode cX11_weekGoes 159 = .ok (.invokestatic 342, 3) := by decide +kernel
theorem dX11_weekGoes_162 : decode cX11_weekGoes 162 = .ok (.iastore, 1) := by decide +kernel
theorem dX11_weekGoes_163 : decode cX11_weekGoes 163 = .ok (.iinc 1 1, 3) := by decide +kernel
theorem dX11_weekGoes_166 : decode cX11_weekGoes 166 = .ok (.goto (-50), 3) := by decide +kernel
theorem dX11_weekGoes_169 : decode cX11_weekGoes 169 = .ok (.aload_n 0, 1) := by decide +kernel
theorem dX11_weekGoes_170 : decode cX11_weekGoes 170 = .ok (.getfield 116, 3) := by decide +kernel
theorem dX11_weekGoes_173 : decode cX11_weekGoes 173 = .ok (.bipush 44, 2) := by decide +kernel
theorem dX11_weekGoes_175 : decode cX11_weekGoes 175 = .ok (.dup2, 1) := by decide +kernel
theorem dX11_weekGoes_176 : decode cX11_weekGoes 176 = .ok (.iaload, 1) := by decide +kernel
theorem dX11_weekGoes_177 : decode cX11_weekGoes 177 = .ok (.iconst 1, 1) := by decide +kernel
theorem dX11_weekGoes_178 : decode cX11_weekGoes 178 = .ok (.iadd, 1) := by decide +kernel
theorem dX11_weekGoes_179 : decode cX11_weekGoes 179 = .ok (.iastore, 1) := by decide +kernel
theorem dX11_weekGoes_180 : decode cX11_weekGoes 180 = .ok (.return_, 1) := by decide +kernel
theorem dX11_goes_0 : decode cX11_goes 0 = .ok (.iconst 0, 1) := by decide +kernel
theorem dX11_goes_1 : decode cX11_goes 1 = .ok (.istore_n 2, 1) := by decide +kernel
theorem dX11_goes_2 : decode cX11_goes 2 = .ok (.iload_n 2, 1) := by decide +kernel
theorem dX11_goes_3 : decode cX11_goes 3 = .ok (.iload_n 1, 1) := by decide +kernel
theorem dX11_goes_4 : decode cX11_goes 4 = .ok (.if_icmp .ge 13, 3) := by decide +kernel
theorem dX11_goes_7 : decode cX11_goes 7 = .ok (.aload_n 0, 1) := by decide +kernel
theorem dX11_goes_8 : decode cX11_goes 8 = .ok (.invokevirtual 390, 3) := by decide +kernel
theorem dX11_goes_11 : decode cX11_goes 11 = .ok (.iinc 2 1, 3) := by decide +kernel
theorem dX11_goes_14 : decode cX11_goes 14 = .ok (.goto (-12), 3) := by decide +kernel
theorem dX11_goes_17 : decode cX11_goes 17 = .ok (.return_, 1) := by decide +kernel
theorem dX11_spouse_0 : decode cX11_spouse 0 = .ok (.aload_n 0, 1) := by decide +kernel
theorem dX11_spouse_1 : decode cX11_spouse 1 = .ok (.iload_n 1, 1) := by decide +kernel
theorem dX11_spouse_2 : decode cX11_spouse 2 = .ok (.invokevirtual 393, 3) := by decide +kernel
theorem dX11_spouse_5 : decode cX11_spouse 5 = .ok (.ifCond .ne 5, 3) := by decide +kernel
theorem dX11_spouse_8 : decode cX11_spouse 8 = .ok (.iconst (-1), 1) := by decide +kernel
theorem dX11_spouse_9 : decode cX11_spouse 9 = .ok (.ireturn, 1) := by decide +kernel
theorem dX11_spouse_10 : decode cX11_spouse 10 = .ok (.aload_n 0, 1) := by decide +kernel
theorem dX11_spouse_11 : decode cX11_spouse 11 = .ok (.invokevirtual 396, 3) := by decide +kernel
theorem dX11_spouse_14 : decode cX11_spouse 14 = .ok (.iload_n 2, 1) := by decide +kernel
theorem dX11_spouse_15 : decode cX11_spouse 15 = .ok (.tableswitch 67 0 3 #[29, 36, 51, 57], 29) := by decide +kernel
theorem dX11_spouse_44 : decode cX11_spouse 44 = .ok (.aload_n 0, 1) := by decide +kernel
theorem dX11_spouse_45 : decode cX11_spouse 45 = .ok (.getfield 116, 3) := by decide +kernel
theorem dX11_spouse_48 : decode cX11_spouse 48 = .ok (.iload_n 1, 1) := by decide +kernel
theorem dX11_spouse_49 : decode cX11_spouse 49 = .ok (.iaload, 1) := by decide +kernel
theorem dX11_spouse_50 : decode cX11_spouse 50 = .ok (.ireturn, 1) := by decide +kernel
theorem dX11_spouse_51 : decode cX11_spouse 51 = .ok (.aload_n 0, 1) := by decide +kernel
theorem dX11_spouse_52 : decode cX11_spouse 52 = .ok (.getfield 52, 3) := by decide +kernel
theorem dX11_spouse_55 : decode cX11_spouse 55 = .ok (.bipush 6, 2) := by decide +kernel
theorem dX11_spouse_57 : decode cX11_spouse 57 = .ok (.aload_n 0, 1) := by decide +kernel
theorem dX11_spouse_58 : decode cX11_spouse 58 = .ok (.getfield 233, 3) := by decide +kernel
theorem dX11_spouse_61 : decode cX11_spouse 61 = .ok (.imul, 1) := by decide +kernel
theorem dX11_spouse_62 : decode cX11_spouse 62 = .ok (.iload_n 1, 1) := by decide +kernel
theorem dX11_spouse_63 : decode cX11_spouse 63 = .ok (.iadd, 1) := by decide +kernel
theorem dX11_spouse_64 : decode cX11_spouse 64 = .ok (.iaload, 1) := by decide +kernel
theorem dX11_spouse_65 : decode cX11_spouse 65 = .ok (.ireturn, 1) := by decide +kernel
theorem dX11_spouse_66 : decode cX11_spouse 66 = .ok (.aload_n 0, 1) := by decide +kernel
theorem dX11_spouse_67 : decode cX11_spouse 67 = .ok (.iload_n 1, 1) := by decide +kernel
theorem dX11_spouse_68 : decode cX11_spouse 68 = .ok (.invokevirtual 372, 3) := by decide +kernel
theorem dX11_spouse_71 : decode cX11_spouse 71 = .ok (.ireturn, 1) := by decide +kernel
theorem dX11_spouse_72 : decode cX11_spouse 72 = .ok (.aload_n 0, 1) := by decide +kernel
theorem dX11_spouse_73 : decode cX11_spouse 73 = .ok (.getfield 116, 3) := by decide +kernel
theorem dX11_spouse_76 : decode cX11_spouse 76 = .ok (.bipush 6, 2) := by decide +kernel
theorem dX11_spouse_78 : decode cX11_spouse 78 = .ok (.iload_n 1, 1) := by decide +kernel
theorem dX11_spouse_79 : decode cX11_spouse 79 = .ok (.iadd, 1) := by decide +kernel
theorem dX11_spouse_80 : decode cX11_spouse 80 = .ok (.iaload, 1) := by decide +kernel
theorem dX11_spouse_81 : decode cX11_spouse 81 = .ok (.ireturn, 1) := by decide +kernel
theorem dX11_spouse_82 : decode cX11_spouse 82 = .ok (.iconst (-1), 1) := by decide +kernel
theorem dX11_spouse_83 : decode cX11_spouse 83 = .ok (.ireturn, 1) := by decide +kernel
theorem dX11_couple_0 : decode cX11_couple 0 = .ok (.aload_n 0, 1) := by decide +kernel
theorem dX11_couple_1 : decode cX11_couple 1 = .ok (.iload_n 1, 1) := by decide +kernel
theorem dX11_couple_2 : decode cX11_couple 2 = .ok (.invokevirtual 399, 3) := by decide +kernel
theorem dX11_couple_5 : decode cX11_couple 5 = .ok (.ifCond .eq 12, 3) := by decide +kernel
theorem dX11_couple_8 : decode cX11_couple 8 = .ok (.iload_n 2, 1) := by decide +kernel
theorem dX11_couple_9 : decode cX11_couple 9 = .ok (.iconst 0, 1) := by decide +kernel
theorem dX11_couple_10 : decode cX11_couple 10 = .ok (.iconst 5, 1) := by decide +kernel
theorem dX11_couple_11 : decode cX11_couple 11 = .ok (.invokestatic 316, 3) := by decide +kernel
theorem dX11_couple_14 : decode cX11_couple 14 = .ok (.ifCond .ne 5, 3) := by decide +kernel
theorem dX11_couple_17 : decode cX11_couple 17 = .ok (.iconst (-1), 1) := by decide +kernel
theorem dX11_couple_18 : decode cX11_couple 18 = .ok (.ireturn, 1) := by decide +kernel
theorem dX11_couple_19 : decode cX11_couple 19 = .ok (.iload_n 2, 1) := by decide +kernel
theorem dX11_couple_20 : decode cX11_couple 20 = .ok (.iconst 2, 1) := by decide +kernel
theorem dX11_couple_21 : decode cX11_couple 21 = .ok (.if_icmp .ge 12, 3) := by decide +kernel
theorem dX11_couple_24 : decode cX11_couple 24 = .ok (.aload_n 0, 1) := by decide +kernel
theorem dX11_couple_25 : decode cX11_couple 25 = .ok (.iload_n 1, 1) := by decide +kernel
theorem dX11_couple_26 : decode cX11_couple 26 = .ok (.iload_n 2, 1) := by decide +kernel
theorem dX11_couple_27 : decode cX11_couple 27 = .ok (.invokevirtual 366, 3) := by decide +kernel
theorem dX11_couple_30 : decode cX11_couple 30 = .ok (.goto 16, 3) := by decide +kernel
theorem dX11_couple_33 : decode cX11_couple 33 = .ok (.aload_n 0, 1) := by decide +kernel
theorem dX11_couple_34 : decode cX11_couple 34 = .ok (.getfield 113, 3) := by decide +kernel
theorem dX11_couple_37 : decode cX11_couple 37 = .ok (.bipush 6, 2) := by decide +kernel
theorem dX11_couple_39 : decode cX11_couple 39 = .ok (.iconst 3, 1) := by decide +kernel
theorem dX11_couple_40 : decode cX11_couple 40 = .ok (.iload_n 2, 1) := by decide +kernel
theorem dX11_couple_41 : decode cX11_couple 41 = .ok (.imul, 1) := by decide +kernel
theorem dX11_couple_42 : decode cX11_couple 42 = .ok (.iadd, 1) := by decide +kernel
theorem dX11_couple_43 : decode cX11_couple 43 = .ok (.iload_n 1, 1) := by decide +kernel
theorem dX11_couple_44 : decode cX11_couple 44 = .ok (.iadd, 1) := by decide +kernel
theorem dX11_couple_45 : decode cX11_couple 45 = .ok (.iaload, 1) := by decide +kernel
theorem dX11_couple_46 : decode cX11_couple 46 = .ok (.ireturn, 1) := by decide +kernel
theorem dX11_third_0 : decode cX11_third 0 = .ok (.aload_n 0, 1) := by decide +kernel
theorem dX11_third_1 : decode cX11_third 1 = .ok (.iload_n 1, 1) := by decide +kernel
theorem dX11_third_2 : decode cX11_third 2 = .ok (.invokevirtual 402, 3) := by decide +kernel
theorem dX11_third_5 : decode cX11_third 5 = .ok (.ifCond .ne 7, 3) := by decide +kernel
theorem dX11_third_8 : decode cX11_third 8 = .ok (.ldc_w 405, 3) := by decide +kernel
theorem dX11_third_11 : decode cX11_third 11 = .ok (.ireturn, 1) := by decide +kernel
theorem dX11_third_12 : decode cX11_third 12 = .ok (.aload_n 0, 1) := by decide +kernel
theorem dX11_third_13 : decode cX11_third 13 = .ok (.invokevirtual 396, 3) := by decide +kernel
theorem dX11_third_16 : decode cX11_third 16 = .ok (.iload_n 2, 1) := by decide +kernel
theorem dX11_third_17 : decode cX11_third 17 = .ok (.tableswitch 95 0 7 #[47, 61, 61, 61, 61, 61, 75, 81], 47) := by decide +kernel
theorem dX11_third_64 : decode cX11_third 64 = .ok (.aload_n 0, 1) := by decide +kernel
theorem dX11_third_65 : decode cX11_third 65 = .ok (.getfield 64, 3) := by decide +kernel
theorem dX11_third_68 : decode cX11_third 68 = .ok (.iconst 4, 1) := by decide +kernel
theorem dX11_third_69 : decode cX11_third 69 = .ok (.aload_n 0, 1) := by decide +kernel
theorem dX11_third_70 : decode cX11_third 70 = .ok (.getfield 233, 3) := by decide +kernel
theorem dX11_third_73 : decode cX11_third 73 = .ok (.imul, 1) := by decide +kernel
theorem dX11_third_74 : decode cX11_third 74 = .ok (.iload_n 1, 1) := by decide +kernel
theorem dX11_third_75 : decode cX11_third 75 = .ok (.iadd, 1) := by decide +kernel
theorem dX11_third_76 : decode cX11_third 76 = .ok (.iaload, 1) := by decide +kernel
theorem dX11_third_77 : decode cX11_third 77 = .ok (.ireturn, 1) := by decide +kernel
theorem dX11_third_78 : decode cX11_third 78 = .ok (.aload_n 0, 1) := by decide +kernel
theorem dX11_third_79 : decode cX11_third 79 = .ok (.getfield 116, 3) := by decide +kernel
theorem dX11_third_82 : decode cX11_third 82 = .ok (.bipush 20, 2) := by decide +kernel
theorem dX11_third_84 : decode cX11_third 84 = .ok (.iconst 4, 1) := by decide +kernel
theorem dX11_third_85 : decode cX11_third 85 = .ok (.iload_n 2, 1) := by decide +kernel
theorem dX11_third_86 : decode cX11_third 86 = .ok (.imul, 1) := by decide +kernel
theorem dX11_third_87 : decode cX11_third 87 = .ok (.iadd, 1) := by decide +kernel
theorem dX11_third_88 : decode cX11_third 88 = .ok (.iload_n 1, 1) := by decide +kernel
theorem dX11_third_89 : decode cX11_third 89 = .ok (.iadd, 1) := by decide +kernel

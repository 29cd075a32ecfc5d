def RJ0 : String := "java/lang/String"
def RJ1 : String := "java/lang/StringLatin1"
def RJ3 : String := "jdk/internal/util/Preconditions"
abbrev cJ0_length_8abf5 : ByteArray := prog_16_method_54_code
def yJ0_length_8abf5 : MethodName := ⟨RJ0, "length", "()I"⟩
abbrev cJ0_charAt_5068e : ByteArray := prog_16_method_56_code
def yJ0_charAt_5068e : MethodName := ⟨RJ0, "charAt", "(I)C"⟩
abbrev cJ0_indexOf_0f7a4 : ByteArray := prog_16_method_79_code
def yJ0_indexOf_0f7a4 : MethodName := ⟨RJ0, "indexOf", "(I)I"⟩
abbrev cJ0_indexOf_7cf53 : ByteArray := prog_16_method_80_code
def yJ0_indexOf_7cf53 : MethodName := ⟨RJ0, "indexOf", "(II)I"⟩
abbrev cJ0_coder_7d493 : ByteArray := prog_16_method_152_code
def yJ0_coder_7d493 : MethodName := ⟨RJ0, "coder", "()B"⟩
abbrev cJ0_isLatin1_aae02 : ByteArray := prog_16_method_154_code
def yJ0_isLatin1_aae02 : MethodName := ⟨RJ0, "isLatin1", "()Z"⟩
abbrev cJ0_checkIndex_df160 : ByteArray := prog_16_method_155_code
def yJ0_checkIndex_df160 : MethodName := ⟨RJ0, "checkIndex", "(II)V"⟩
abbrev cJ1_charAt_3b067 : ByteArray := prog_17_method_2_code
def yJ1_charAt_3b067 : MethodName := ⟨RJ1, "charAt", "([BI)C"⟩
abbrev cJ1_canEncode_9a6ad : ByteArray := prog_17_method_4_code
def yJ1_canEncode_9a6ad : MethodName := ⟨RJ1, "canEncode", "(I)Z"⟩
abbrev cJ1_indexOf_4cfef : ByteArray := prog_17_method_22_code
def yJ1_indexOf_4cfef : MethodName := ⟨RJ1, "indexOf", "([BIII)I"⟩
abbrev cJ1_indexOfChar_4cfef : ByteArray := prog_17_method_23_code
def yJ1_indexOfChar_4cfef : MethodName := ⟨RJ1, "indexOfChar", "([BIII)I"⟩
abbrev cJ3_checkIndex_8e157 : ByteArray := prog_20_method_11_code
def yJ3_checkIndex_8e157 : MethodName := ⟨RJ3, "checkIndex", "(IILjava/util/function/BiFunction;)I"⟩
abbrev mJ0_length_8abf5 : rx_M := (cJ0_length_8abf5, 1, ((Option.some FieldType.int)), yJ0_length_8abf5)
set_option maxRecDepth 20000 in
theorem mm_J0_length_8abf5 : rx_m mJ0_length_8abf5 0 := ⟨by decide +kernel, rx_c1 133 rfl rfl, rx_c1 6 rfl rfl, by decide +kernel, by decide⟩
set_option maxRecDepth 20000 in
theorem mv_J0_length_8abf5 : Cond.instanceMethod yJ0_length_8abf5 ∈ rx_T ∧ Cond.selects yJ0_length_8abf5.cls yJ0_length_8abf5 yJ0_length_8abf5 ∈ rx_T := ⟨rx_c1 131 rfl rfl, rx_c1 132 rfl rfl⟩
abbrev mJ0_charAt_5068e : rx_M := (cJ0_charAt_5068e, 2, ((Option.some FieldType.char)), yJ0_charAt_5068e)
set_option maxRecDepth 20000 in
theorem mm_J0_charAt_5068e : rx_m mJ0_charAt_5068e 1 := ⟨by decide +kernel, rx_c1 143 rfl rfl, rx_c1 6 rfl rfl, by decide +kernel, by decide⟩
set_option maxRecDepth 20000 in
theorem mv_J0_charAt_5068e : Cond.instanceMethod yJ0_charAt_5068e ∈ rx_T ∧ Cond.selects yJ0_charAt_5068e.cls yJ0_charAt_5068e yJ0_charAt_5068e ∈ rx_T := ⟨rx_c1 141 rfl rfl, rx_c1 142 rfl rfl⟩
abbrev mJ0_indexOf_0f7a4 : rx_M := (cJ0_indexOf_0f7a4, 2, ((Option.some FieldType.int)), yJ0_indexOf_0f7a4)
set_option maxRecDepth 20000 in
theorem mm_J0_indexOf_0f7a4 : rx_m mJ0_indexOf_0f7a4 1 := ⟨by decide +kernel, rx_c2 229 rfl rfl, rx_c1 6 rfl rfl, by decide +kernel, by decide⟩
set_option maxRecDepth 20000 in
theorem mv_J0_indexOf_0f7a4 : Cond.instanceMethod yJ0_indexOf_0f7a4 ∈ rx_T ∧ Cond.selects yJ0_indexOf_0f7a4.cls yJ0_indexOf_0f7a4 yJ0_indexOf_0f7a4 ∈ rx_T := ⟨rx_c2 227 rfl rfl, rx_c2 228 rfl rfl⟩
abbrev mJ0_indexOf_7cf53 : rx_M := (cJ0_indexOf_7cf53, 3, ((Option.some FieldType.int)), yJ0_indexOf_7cf53)
set_option maxRecDepth 20000 in
theorem mm_J0_indexOf_7cf53 : rx_m mJ0_indexOf_7cf53 2 := ⟨by decide +kernel, rx_c2 233 rfl rfl, rx_c1 6 rfl rfl, by decide +kernel, by decide⟩
set_option maxRecDepth 20000 in
theorem mv_J0_indexOf_7cf53 : Cond.instanceMethod yJ0_indexOf_7cf53 ∈ rx_T ∧ Cond.selects yJ0_indexOf_7cf53.cls yJ0_indexOf_7cf53 yJ0_indexOf_7cf53 ∈ rx_T := ⟨rx_c2 231 rfl rfl, rx_c2 232 rfl rfl⟩
abbrev mJ0_coder_7d493 : rx_M := (cJ0_coder_7d493, 1, ((Option.some FieldType.byte)), yJ0_coder_7d493)
set_option maxRecDepth 20000 in
theorem mm_J0_coder_7d493 : rx_m mJ0_coder_7d493 0 := ⟨by decide +kernel, rx_c1 137 rfl rfl, rx_c1 6 rfl rfl, by decide +kernel, by decide⟩
set_option maxRecDepth 20000 in
theorem mv_J0_coder_7d493 : Cond.instanceMethod yJ0_coder_7d493 ∈ rx_T ∧ Cond.selects yJ0_coder_7d493.cls yJ0_coder_7d493 yJ0_coder_7d493 ∈ rx_T := ⟨rx_c1 135 rfl rfl, rx_c1 136 rfl rfl⟩
abbrev mJ0_isLatin1_aae02 : rx_M := (cJ0_isLatin1_aae02, 1, ((Option.some FieldType.boolean)), yJ0_isLatin1_aae02)
set_option maxRecDepth 20000 in
theorem mm_J0_isLatin1_aae02 : rx_m mJ0_isLatin1_aae02 0 := ⟨by decide +kernel, rx_c1 147 rfl rfl, rx_c1 6 rfl rfl, by decide +kernel, by decide⟩
set_option maxRecDepth 20000 in
theorem mv_J0_isLatin1_aae02 : Cond.instanceMethod yJ0_isLatin1_aae02 ∈ rx_T ∧ Cond.selects yJ0_isLatin1_aae02.cls yJ0_isLatin1_aae02 yJ0_isLatin1_aae02 ∈ rx_T := ⟨rx_c1 145 rfl rfl, rx_c1 146 rfl rfl⟩
abbrev mJ0_checkIndex_df160 : rx_M := (cJ0_checkIndex_df160, 2, ((Option.none : Option FieldType)), yJ0_checkIndex_df160)
set_option maxRecDepth 20000 in
theorem mm_J0_checkIndex_df160 : rx_m mJ0_checkIndex_df160 2 := ⟨by decide +kernel, rx_c1 153 rfl rfl, rx_c1 6 rfl rfl, by decide +kernel, by decide⟩
set_option maxRecDepth 20000 in
theorem ms_J0_checkIndex_df160 : Cond.static yJ0_checkIndex_df160 ∈ rx_T := rx_c1 152 rfl rfl
abbrev mJ1_charAt_3b067 : rx_M := (cJ1_charAt_3b067, 2, ((Option.some FieldType.char)), yJ1_charAt_3b067)
set_option maxRecDepth 20000 in
theorem mm_J1_charAt_3b067 : rx_m mJ1_charAt_3b067 2 := ⟨by decide +kernel, rx_c1 150 rfl rfl, rx_c1 7 rfl rfl, by decide +kernel, by decide⟩
set_option maxRecDepth 20000 in
theorem ms_J1_charAt_3b067 : Cond.static yJ1_charAt_3b067 ∈ rx_T := rx_c1 149 rfl rfl
abbrev mJ1_canEncode_9a6ad : rx_M := (cJ1_canEncode_9a6ad, 1, ((Option.some FieldType.boolean)), yJ1_canEncode_9a6ad)
set_option maxRecDepth 20000 in
theorem mm_J1_canEncode_9a6ad : rx_m mJ1_canEncode_9a6ad 1 := ⟨by decide +kernel, rx_c3 0 rfl rfl, rx_c1 7 rfl rfl, by decide +kernel, by decide⟩
set_option maxRecDepth 20000 in
theorem ms_J1_canEncode_9a6ad : Cond.static yJ1_canEncode_9a6ad ∈ rx_T := rx_c2 239 rfl rfl
abbrev mJ1_indexOf_4cfef : rx_M := (cJ1_indexOf_4cfef, 4, ((Option.some FieldType.int)), yJ1_indexOf_4cfef)
set_option maxRecDepth 20000 in
theorem mm_J1_indexOf_4cfef : rx_m mJ1_indexOf_4cfef 4 := ⟨by decide +kernel, rx_c2 237 rfl rfl, rx_c1 7 rfl rfl, by decide +kernel, by decide⟩
set_option maxRecDepth 20000 in
theorem ms_J1_indexOf_4cfef : Cond.static yJ1_indexOf_4cfef ∈ rx_T := rx_c2 236 rfl rfl
abbrev mJ1_indexOfChar_4cfef : rx_M := (cJ1_indexOfChar_4cfef, 6, ((Option.some FieldType.int)), yJ1_indexOfChar_4cfef)
set_option maxRecDepth 20000 in
theorem mm_J1_indexOfChar_4cfef : rx_m mJ1_indexOfChar_4cfef 4 := ⟨by decide +kernel, rx_c3 7 rfl rfl, rx_c1 7 rfl rfl, by decide +kernel, by decide⟩
set_option maxRecDepth 20000 in
theorem ms_J1_indexOfChar_4cfef : Cond.static yJ1_indexOfChar_4cfef ∈ rx_T := rx_c3 6 rfl rfl
abbrev mJ3_checkIndex_8e157 : rx_M := (cJ3_checkIndex_8e157, 3, ((Option.some FieldType.int)), yJ3_checkIndex_8e157)
set_option maxRecDepth 20000 in
theorem mm_J3_checkIndex_8e157 : rx_m mJ3_checkIndex_8e157 3 := ⟨by decide +kernel, rx_c1 158 rfl rfl, rx_c1 8 rfl rfl, by decide +kernel, by decide⟩
set_option maxRecDepth 20000 in
theorem ms_J3_checkIndex_8e157 : Cond.static yJ3_checkIndex_8e157 ∈ rx_T := rx_c1 157 rfl rfl
set_option maxRecDepth 20000 in
theorem lk_J0_335 : Cond.methodLink RJ0 335 yJ0_coder_7d493 ∈ rx_T := rx_c1 134 rfl rfl
set_option maxRecDepth 20000 in
theorem lk_J0_492 : Cond.methodLink RJ0 492 yJ0_isLatin1_aae02 ∈ rx_T := rx_c1 144 rfl rfl
set_option maxRecDepth 20000 in
theorem lk_J0_495 : Cond.methodLink RJ0 495 yJ1_charAt_3b067 ∈ rx_T := rx_c1 148 rfl rfl
set_option maxRecDepth 20000 in
theorem lk_J0_1059 : Cond.methodLink RJ0 1059 yJ3_checkIndex_8e157 ∈ rx_T := rx_c1 156 rfl rfl
set_option maxRecDepth 20000 in
theorem lk_J0_633 : Cond.methodLink RJ0 633 yJ0_indexOf_7cf53 ∈ rx_T := rx_c2 230 rfl rfl
set_option maxRecDepth 20000 in
theorem lk_J0_505 : Cond.methodLink RJ0 505 yJ0_length_8abf5 ∈ rx_T := rx_c2 234 rfl rfl
set_option maxRecDepth 20000 in
theorem lk_J0_637 : Cond.methodLink RJ0 637 yJ1_indexOf_4cfef ∈ rx_T := rx_c2 235 rfl rfl
set_option maxRecDepth 20000 in
theorem lk_J1_9 : Cond.methodLink RJ1 9 yJ0_checkIndex_df160 ∈ rx_T := rx_c1 151 rfl rfl
set_option maxRecDepth 20000 in
theorem lk_J1_88 : Cond.methodLink RJ1 88 yJ1_canEncode_9a6ad ∈ rx_T := rx_c2 238 rfl rfl
set_option maxRecDepth 20000 in
theorem lk_J1_92 : Cond.methodLink RJ1 92 Lib.Math.max.name ∈ rx_T := rx_c3 1 rfl rfl
set_option maxRecDepth 20000 in
theorem lk_J1_38 : Cond.methodLink RJ1 38 Lib.Math.min.name ∈ rx_T := rx_c3 4 rfl rfl
set_option maxRecDepth 20000 in
theorem lk_J1_95 : Cond.methodLink RJ1 95 yJ1_indexOfChar_4cfef ∈ rx_T := rx_c3 5 rfl rfl
set_option maxRecDepth 20000 in
theorem lk_9_27 : Cond.methodLink RX9 27 yJ0_length_8abf5 ∈ rx_T := rx_c1 130 rfl rfl
set_option maxRecDepth 20000 in
theorem lk_9_33 : Cond.methodLink RX9 33 yJ0_charAt_5068e ∈ rx_T := rx_c1 140 rfl rfl
set_option maxRecDepth 20000 in
theorem lk_9_81 : Cond.methodLink RX9 81 yJ0_indexOf_0f7a4 ∈ rx_T := rx_c2 226 rfl rfl
set_option maxRecDepth 20000 in
theorem fl_J0_9 : Cond.fieldLink RJ0 9 "java/lang/String" "value" "[B" ∈ rx_T := rx_c8 41 rfl rfl
set_option maxRecDepth 20000 in
theorem fl_J0_15 : Cond.fieldLink RJ0 15 "java/lang/String" "coder" "B" ∈ rx_T := rx_c8 42 rfl rfl
set_option maxRecDepth 20000 in
theorem fl_J0_38 : Cond.fieldLink RJ0 38 "java/lang/String" "COMPACT_STRINGS" "Z" ∈ rx_T := rx_c1 138 rfl rfl
set_option maxRecDepth 20000 in
theorem fl_J0_1053 : Cond.fieldLink RJ0 1053 "jdk/internal/util/Preconditions" "SIOOBE_FORMATTER" "Ljava/util/function/BiFunction;" ∈ rx_T := rx_c1 154 rfl rfl
theorem dJ0_length_8abf5_0 : decode cJ0_length_8abf5 0 = .ok (.aload_n 0, 1) := by decide +kernel
theorem dJ0_length_8abf5_1 : decode cJ0_length_8abf5 1 = .ok (.getfield 9, 3) := by decide +kernel
theorem dJ0_length_8abf5_4 : decode cJ0_length_8abf5 4 = .ok (.arraylength, 1) := by decide +kernel
theorem dJ0_length_8abf5_5 : decode cJ0_length_8abf5 5 = .ok (.aload_n 0, 1) := by decide +kernel
theorem dJ0_length_8abf5_6 : decode cJ0_length_8abf5 6 = .ok (.invokevirtual 335, 3) := by decide +kernel
theorem dJ0_length_8abf5_9 : decode cJ0_length_8abf5 9 = .ok (.ishr, 1) := by decide +kernel
theorem dJ0_length_8abf5_10 : decode cJ0_length_8abf5 10 = .ok (.ireturn, 1) := by decide +kernel
theorem dJ0_charAt_5068e_0 : decode cJ0_charAt_5068e 0 = .ok (.aload_n 0, 1) := by decide +kernel
theorem dJ0_charAt_5068e_1 : decode cJ0_charAt_5068e 1 = .ok (.invokevirtual 492, 3) := by decide +kernel
theorem dJ0_charAt_5068e_4 : decode cJ0_charAt_5068e 4 = .ok (.ifCond .eq 12, 3) := by decide +kernel
theorem dJ0_charAt_5068e_7 : decode cJ0_charAt_5068e 7 = .ok (.aload_n 0, 1) := by decide +kernel
theorem dJ0_charAt_5068e_8 : decode cJ0_charAt_5068e 8 = .ok (.getfield 9, 3) := by decide +kernel
theorem dJ0_charAt_5068e_11 : decode cJ0_charAt_5068e 11 = .ok (.iload_n 1, 1) := by decide +kernel
theorem dJ0_charAt_5068e_12 : decode cJ0_charAt_5068e 12 = .ok (.invokestatic 495, 3) := by decide +kernel
theorem dJ0_charAt_5068e_15 : decode cJ0_charAt_5068e 15 = .ok (.ireturn, 1) := by decide +kernel
theorem dJ0_charAt_5068e_16 : decode cJ0_charAt_5068e 16 = .ok (.aload_n 0, 1) := by decide +kernel
theorem dJ0_charAt_5068e_17 : decode cJ0_charAt_5068e 17 = .ok (.getfield 9, 3) := by decide +kernel
theorem dJ0_charAt_5068e_20 : decode cJ0_charAt_5068e 20 = .ok (.iload_n 1, 1) := by decide +kernel
theorem dJ0_charAt_5068e_21 : decode cJ0_charAt_5068e 21 = .ok (.invokestatic 498, 3) := by decide +kernel
theorem dJ0_charAt_5068e_24 : decode cJ0_charAt_5068e 24 = .ok (.ireturn, 1) := by decide +kernel
theorem dJ0_indexOf_0f7a4_0 : decode cJ0_indexOf_0f7a4 0 = .ok (.aload_n 0, 1) := by decide +kernel
theorem dJ0_indexOf_0f7a4_1 : decode cJ0_indexOf_0f7a4 1 = .ok (.iload_n 1, 1) := by decide +kernel
theorem dJ0_indexOf_0f7a4_2 : decode cJ0_indexOf_0f7a4 2 = .ok (.iconst 0, 1) := by decide +kernel
theorem dJ0_indexOf_0f7a4_3 : decode cJ0_indexOf_0f7a4 3 = .ok (.invokevirtual 633, 3) := by decide +kernel
theorem dJ0_indexOf_0f7a4_6 : decode cJ0_indexOf_0f7a4 6 = .ok (.ireturn, 1) := by decide +kernel
theorem dJ0_indexOf_7cf53_0 : decode cJ0_indexOf_7cf53 0 = .ok (.aload_n 0, 1) := by decide +kernel
theorem dJ0_indexOf_7cf53_1 : decode cJ0_indexOf_7cf53 1 = .ok (.invokevirtual 492, 3) := by decide +kernel
theorem dJ0_indexOf_7cf53_4 : decode cJ0_indexOf_7cf53 4 = .ok (.ifCond .eq 19, 3) := by decide +kernel
theorem dJ0_indexOf_7cf53_7 : decode cJ0_indexOf_7cf53 7 = .ok (.aload_n 0, 1) := by decide +kernel
theorem dJ0_indexOf_7cf53_8 : decode cJ0_indexOf_7cf53 8 = .ok (.getfield 9, 3) := by decide +kernel
theorem dJ0_indexOf_7cf53_11 : decode cJ0_indexOf_7cf53 11 = .ok (.iload_n 1, 1) := by decide +kernel
theorem dJ0_indexOf_7cf53_12 : decode cJ0_indexOf_7cf53 12 = .ok (.iload_n 2, 1) := by decide +kernel
theorem dJ0_indexOf_7cf53_13 : decode cJ0_indexOf_7cf53 13 = .ok (.aload_n 0, 1) := by decide +kernel
theorem dJ0_indexOf_7cf53_14 : decode cJ0_indexOf_7cf53 14 = .ok (.invokevirtual 505, 3) := by decide +kernel
theorem dJ0_indexOf_7cf53_17 : decode cJ0_indexOf_7cf53 17 = .ok (.invokestatic 637, 3) := by decide +kernel
theorem dJ0_indexOf_7cf53_20 : decode cJ0_indexOf_7cf53 20 = .ok (.goto 16, 3) := by decide +kernel
theorem dJ0_indexOf_7cf53_23 : decode cJ0_indexOf_7cf53 23 = .ok (.aload_n 0, 1) := by decide +kernel
theorem dJ0_indexOf_7cf53_24 : decode cJ0_indexOf_7cf53 24 = .ok (.getfield 9, 3) := by decide +kernel
theorem dJ0_indexOf_7cf53_27 : decode cJ0_indexOf_7cf53 27 = .ok (.iload_n 1, 1) := by decide +kernel
theorem dJ0_indexOf_7cf53_28 : decode cJ0_indexOf_7cf53 28 = .ok (.iload_n 2, 1) := by decide +kernel
theorem dJ0_indexOf_7cf53_29 : decode cJ0_indexOf_7cf53 29 = .ok (.aload_n 0, 1) := by decide +kernel
theorem dJ0_indexOf_7cf53_30 : decode cJ0_indexOf_7cf53 30 = .ok (.invokevirtual 505, 3) := by decide +kernel
theorem dJ0_indexOf_7cf53_33 : decode cJ0_indexOf_7cf53 33 = .ok (.invokestatic 640, 3) := by decide +kernel
theorem dJ0_indexOf_7cf53_36 : decode cJ0_indexOf_7cf53 36 = .ok (.ireturn, 1) := by decide +kernel
theorem dJ0_coder_7d493_0 : decode cJ0_coder_7d493 0 = .ok (.getstatic 38, 3) := by decide +kernel
theorem dJ0_coder_7d493_3 : decode cJ0_coder_7d493 3 = .ok (.ifCond .eq 10, 3) := by decide +kernel
theorem dJ0_coder_7d493_6 : decode cJ0_coder_7d493 6 = .ok (.aload_n 0, 1) := by decide +kernel
theorem dJ0_coder_7d493_7 : decode cJ0_coder_7d493 7 = .ok (.getfield 15, 3) := by decide +kernel
theorem dJ0_coder_7d493_10 : decode cJ0_coder_7d493 10 = .ok (.goto 4, 3) := by decide +kernel
theorem dJ0_coder_7d493_13 : decode cJ0_coder_7d493 13 = .ok (.iconst 1, 1) := by decide +kernel
theorem dJ0_coder_7d493_14 : decode cJ0_coder_7d493 14 = .ok (.ireturn, 1) := by decide +kernel
theorem dJ0_isLatin1_aae02_0 : decode cJ0_isLatin1_aae02 0 = .ok (.getstatic 38, 3) := by decide +kernel
theorem dJ0_isLatin1_aae02_3 : decode cJ0_isLatin1_aae02 3 = .ok (.ifCond .eq 14, 3) := by decide +kernel
theorem dJ0_isLatin1_aae02_6 : decode cJ0_isLatin1_aae02 6 = .ok (.aload_n 0, 1) := by decide +kernel
theorem dJ0_isLatin1_aae02_7 : decode cJ0_isLatin1_aae02 7 = .ok (.getfield 15, 3) := by decide +kernel
theorem dJ0_isLatin1_aae02_10 : decode cJ0_isLatin1_aae02 10 = .ok (.ifCond .ne 7, 3) := by decide +kernel
theorem dJ0_isLatin1_aae02_13 : decode cJ0_isLatin1_aae02 13 = .ok (.iconst 1, 1) := by decide +kernel
theorem dJ0_isLatin1_aae02_14 : decode cJ0_isLatin1_aae02 14 = .ok (.goto 4, 3) := by decide +kernel
theorem dJ0_isLatin1_aae02_17 : decode cJ0_isLatin1_aae02 17 = .ok (.iconst 0, 1) := by decide +kernel
theorem dJ0_isLatin1_aae02_18 : decode cJ0_isLatin1_aae02 18 = .ok (.ireturn, 1) := by decide +kernel
theorem dJ0_checkIndex_df160_0 : decode cJ0_checkIndex_df160 0 = .ok (.iload_n 0, 1) := by decide +kernel
theorem dJ0_checkIndex_df160_1 : decode cJ0_checkIndex_df160 1 = .ok (.iload_n 1, 1) := by decide +kernel
theorem dJ0_checkIndex_df160_2 : decode cJ0_checkIndex_df160 2 = .ok (.getstatic 1053, 3) := by decide +kernel
theorem dJ0_checkIndex_df160_5 : decode cJ0_checkIndex_df160 5 = .ok (.invokestatic 1059, 3) := by decide +kernel
theorem dJ0_checkIndex_df160_8 : decode cJ0_checkIndex_df160 8 = .ok (.pop, 1) := by decide +kernel
theorem dJ0_checkIndex_df160_9 : decode cJ0_checkIndex_df160 9 = .ok (.return_, 1) := by decide +kernel
theorem dJ1_charAt_3b067_0 : decode cJ1_charAt_3b067 0 = .ok (.iload_n 1, 1) := by decide +kernel
theorem dJ1_charAt_3b067_1 : decode cJ1_charAt_3b067 1 = .ok (.aload_n 0, 1) := by decide +kernel
theorem dJ1_charAt_3b067_2 : decode cJ1_charAt_3b067 2 = .ok (.arraylength, 1) := by decide +kernel
theorem dJ1_charAt_3b067_3 : decode cJ1_charAt_3b067 3 = .ok (.invokestatic 9, 3) := by decide +kernel
theorem dJ1_charAt_3b067_6 : decode cJ1_charAt_3b067 6 = .ok (.aload_n 0, 1) := by decide +kernel
theorem dJ1_charAt_3b067_7 : decode cJ1_charAt_3b067 7 = .ok (.iload_n 1, 1) := by decide +kernel
theorem dJ1_charAt_3b067_8 : decode cJ1_charAt_3b067 8 = .ok (.baload, 1) := by decide +kernel
theorem dJ1_charAt_3b067_9 : decode cJ1_charAt_3b067 9 = .ok (.sipush 255, 3) := by decide +kernel
theorem dJ1_charAt_3b067_12 : decode cJ1_charAt_3b067 12 = .ok (.iand, 1) := by decide +kernel
theorem dJ1_charAt_3b067_13 : decode cJ1_charAt_3b067 13 = .ok (.i2c, 1) := by decide +kernel
theorem dJ1_charAt_3b067_14 : decode cJ1_charAt_3b067 14 = .ok (.ireturn, 1) := by decide +kernel
theorem dJ1_canEncode_9a6ad_0 : decode cJ1_canEncode_9a6ad 0 = .ok (.iload_n 0, 1) := by decide +kernel
theorem dJ1_canEncode_9a6ad_1 : decode cJ1_canEncode_9a6ad 1 = .ok (.ifCond .lt 14, 3) := by decide +kernel
theorem dJ1_canEncode_9a6ad_4 : decode cJ1_canEncode_9a6ad 4 = .ok (.iload_n 0, 1) := by decide +kernel
theorem dJ1_canEncode_9a6ad_5 : decode cJ1_canEncode_9a6ad 5 = .ok (.sipush 255, 3) := by decide +kernel
theorem dJ1_canEncode_9a6ad_8 : decode cJ1_canEncode_9a6ad 8 = .ok (.if_icmp .gt 7, 3) := by decide +kernel
theorem dJ1_canEncode_9a6ad_11 : decode cJ1_canEncode_9a6ad 11 = .ok (.iconst 1, 1) := by decide +kernel
theorem dJ1_canEncode_9a6ad_12 : decode cJ1_canEncode_9a6ad 12 = .ok (.goto 4, 3) := by decide +kernel
theorem dJ1_canEncode_9a6ad_15 : decode cJ1_canEncode_9a6ad 15 = .ok (.iconst 0, 1) := by decide +kernel
theorem dJ1_canEncode_9a6ad_16 : decode cJ1_canEncode_9a6ad 16 = .ok (.ireturn, 1) := by decide +kernel
theorem dJ1_indexOf_4cfef_0 : decode cJ1_indexOf_4cfef 0 = .ok (.iload_n 1, 1) := by decide +kernel
theorem dJ1_indexOf_4cfef_1 : decode cJ1_indexOf_4cfef 1 = .ok (.invokestatic 88, 3) := by decide +kernel
theorem dJ1_indexOf_4cfef_4 : decode cJ1_indexOf_4cfef 4 = .ok (.ifCond .ne 5, 3) := by decide +kernel
theorem dJ1_indexOf_4cfef_7 : decode cJ1_indexOf_4cfef 7 = .ok (.iconst (-1), 1) := by decide +kernel
theorem dJ1_indexOf_4cfef_8 : decode cJ1_indexOf_4cfef 8 = .ok (.ireturn, 1) := by decide +kernel
theorem dJ1_indexOf_4cfef_9 : decode cJ1_indexOf_4cfef 9 = .ok (.iload_n 2, 1) := by decide +kernel
theorem dJ1_indexOf_4cfef_10 : decode cJ1_indexOf_4cfef 10 = .ok (.iconst 0, 1) := by decide +kernel
theorem dJ1_indexOf_4cfef_11 : decode cJ1_indexOf_4cfef 11 = .ok (.invokestatic 92, 3) := by decide +kernel
theorem dJ1_indexOf_4cfef_14 : decode cJ1_indexOf_4cfef 14 = .ok (.istore_n 2, 1) := by decide +kernel
theorem dJ1_indexOf_4cfef_15 : decode cJ1_indexOf_4cfef 15 = .ok (.iload_n 3, 1) := by decide +kernel
theorem dJ1_indexOf_4cfef_16 : decode cJ1_indexOf_4cfef 16 = .ok (.aload_n 0, 1) := by decide +kernel
theorem dJ1_indexOf_4cfef_17 : decode cJ1_indexOf_4cfef 17 = .ok (.arraylength, 1) := by decide +kernel
theorem dJ1_indexOf_4cfef_18 : decode cJ1_indexOf_4cfef 18 = .ok (.invokestatic 38, 3) := by decide +kernel
theorem dJ1_indexOf_4cfef_21 : decode cJ1_indexOf_4cfef 21 = .ok (.istore_n 3, 1) := by decide +kernel
theorem dJ1_indexOf_4cfef_22 : decode cJ1_indexOf_4cfef 22 = .ok (.iload_n 2, 1) := by decide +kernel
theorem dJ1_indexOf_4cfef_23 : decode cJ1_indexOf_4cfef 23 = .ok (.iload_n 3, 1) := by decide +kernel
theorem dJ1_indexOf_4cfef_24 : decode cJ1_indexOf_4cfef 24 = .ok (.if_icmp .lt 5, 3) := by decide +kernel
theorem dJ1_indexOf_4cfef_27 : decode cJ1_indexOf_4cfef 27 = .ok (.iconst (-1), 1) := by decide +kernel
theorem dJ1_indexOf_4cfef_28 : decode cJ1_indexOf_4cfef 28 = .ok (.ireturn, 1) := by decide +kernel
theorem dJ1_indexOf_4cfef_29 : decode cJ1_indexOf_4cfef 29 = .ok (.aload_n 0, 1) := by decide +kernel
theorem dJ1_indexOf_4cfef_30 : decode cJ1_indexOf_4cfef 30 = .ok (.iload_n 1, 1) := by decide +kernel
theorem dJ1_indexOf_4cfef_31 : decode cJ1_indexOf_4cfef 31 = .ok (.iload_n 2, 1) := by decide +kernel
theorem dJ1_indexOf_4cfef_32 : decode cJ1_indexOf_4cfef 32 = .ok (.iload_n 3, 1) := by decide +kernel
theorem dJ1_indexOf_4cfef_33 : decode cJ1_indexOf_4cfef 33 = .ok (.invokestatic 95, 3) := by decide +kernel
theorem dJ1_indexOf_4cfef_36 : decode cJ1_indexOf_4cfef 36 = .ok (.ireturn, 1) := by decide +kernel
theorem dJ1_indexOfChar_4cfef_0 : decode cJ1_indexOfChar_4cfef 0 = .ok (.iload_n 1, 1) := by decide +kernel
theorem dJ1_indexOfChar_4cfef_1 : decode cJ1_indexOfChar_4cfef 1 = .ok (.i2b, 1) := by decide +kernel
theorem dJ1_indexOfChar_4cfef_2 : decode cJ1_indexOfChar_4cfef 2 = .ok (.istore 4, 2) := by decide +kernel
theorem dJ1_indexOfChar_4cfef_4 : decode cJ1_indexOfChar_4cfef 4 = .ok (.iload_n 2, 1) := by decide +kernel
theorem dJ1_indexOfChar_4cfef_5 : decode cJ1_indexOfChar_4cfef 5 = .ok (.istore 5, 2) := by decide +kernel
theorem dJ1_indexOfChar_4cfef_7 : decode cJ1_indexOfChar_4cfef 7 = .ok (.iload 5, 2) := by decide +kernel
theorem dJ1_indexOfChar_4cfef_9 : decode cJ1_indexOfChar_4cfef 9 = .ok (.iload_n 3, 1) := by decide +kernel
theorem dJ1_indexOfChar_4cfef_10 : decode cJ1_indexOfChar_4cfef 10 = .ok (.if_icmp .ge 21, 3) := by decide +kernel
theorem dJ1_indexOfChar_4cfef_13 : decode cJ1_indexOfChar_4cfef 13 = .ok (.aload_n 0, 1) := by decide +kernel
theorem dJ1_indexOfChar_4cfef_14 : decode cJ1_indexOfChar_4cfef 14 = .ok (.iload 5, 2) := by decide +kernel
theorem dJ1_indexOfChar_4cfef_16 : decode cJ1_indexOfChar_4cfef 16 = .ok (.baload, 1) := by decide +kernel
theorem dJ1_indexOfChar_4cfef_17 : decode cJ1_indexOfChar_4cfef 17 = .ok (.iload 4, 2) := by decide +kernel
theorem dJ1_indexOfChar_4cfef_19 : decode cJ1_indexOfChar_4cfef 19 = .ok (.if_icmp .ne 6, 3) := by decide +kernel
theorem dJ1_indexOfChar_4cfef_22 : decode cJ1_indexOfChar_4cfef 22 = .ok (.iload 5, 2) := by decide +kernel
theorem dJ1_indexOfChar_4cfef_24 : decode cJ1_indexOfChar_4cfef 24 = .ok (.ireturn, 1) := by decide +kernel
theorem dJ1_indexOfChar_4cfef_25 : decode cJ1_indexOfChar_4cfef 25 = .ok (.iinc 5 1, 3) := by decide +kernel
theorem dJ1_indexOfChar_4cfef_28 : decode cJ1_indexOfChar_4cfef 28 = .ok (.goto (-21), 3) := by decide +kernel
theorem dJ1_indexOfChar_4cfef_31 : decode cJ1_indexOfChar_4cfef 31 = .ok (.iconst (-1), 1) := by decide +kernel
theorem dJ1_indexOfChar_4cfef_32 : decode cJ1_indexOfChar_4cfef 32 = .ok (.ireturn, 1) := by decide +kernel
theorem dJ3_checkIndex_8e157_0 : decode cJ3_checkIndex_8e157 0 = .ok (.iload_n 0, 1) := by decide +kernel
theorem dJ3_checkIndex_8e157_1 : decode cJ3_checkIndex_8e157 1 = .ok (.ifCond .lt 8, 3) := by decide +kernel
theorem dJ3_checkIndex_8e157_4 : decode cJ3_checkIndex_8e157 4 = .ok (.iload_n 0, 1) := by decide +kernel
theorem dJ3_checkIndex_8e157_5 : decode cJ3_checkIndex_8e157 5 = .ok (.iload_n 1, 1) := by decide +kernel
theorem dJ3_checkIndex_8e157_6 : decode cJ3_checkIndex_8e157 6 = .ok (.if_icmp .lt 10, 3) := by decide +kernel
theorem dJ3_checkIndex_8e157_9 : decode cJ3_checkIndex_8e157 9 = .ok (.aload_n 2, 1) := by decide +kernel
theorem dJ3_checkIndex_8e157_10 : decode cJ3_checkIndex_8e157 10 = .ok (.iload_n 0, 1) := by decide +kernel
theorem dJ3_checkIndex_8e157_11 : decode cJ3_checkIndex_8e157 11 = .ok (.iload_n 1, 1) := by decide +kernel
theorem dJ3_checkIndex_8e157_12 : decode cJ3_checkIndex_8e157 12 = .ok (.invokestatic 95, 3) := by decide +kernel
theorem dJ3_checkIndex_8e157_15 : decode cJ3_checkIndex_8e157 15 = .ok (.athrow, 1) := by decide +kernel
theorem dJ3_checkIndex_8e157_16 : decode cJ3_checkIndex_8e157 16 = .ok (.iload_n 0, 1) := by decide +kernel
theorem dJ3_checkIndex_8e157_17 : decode cJ3_checkIndex_8e157 17 = .ok (.ireturn, 1) := by decide +kernel

section EVT
variable {G : Nat × Nat} {d : Nat} {M : rx_M} {pc : Nat} {ls : List (Option Value)} {st : List Value} {S : rx_S} {Post : Option Value → rx_S → Prop}
theorem ev_ldcs0 (q : Nat) (hd : decode M.1 pc = .ok (.ldc 25, 2)) (ho : M.2.2.2.cls = RX9) (hq : pc + 2 = q) (k : EV G d M q ls (.ref 1000 :: st) S Post) : EV G d M pc ls st S Post := by
  subst hq
  intro l D cy ad p e R s m args below meth c H locs arr n0 n1 hRR hok hP hD hS hL
  exact va_ldcS hok.x hok.b (own := RX9) (by rw [← ho]; exact hok.own) hok.STR.2.1 hd (k l D cy ad p e R s m args below meth c H locs arr n0 n1 hRR hok hP hD hS hL)
theorem ev_ldcs1 (q : Nat) (hd : decode M.1 pc = .ok (.ldc 79, 2)) (ho : M.2.2.2.cls = RX9) (hq : pc + 2 = q) (k : EV G d M q ls (.ref 1001 :: st) S Post) : EV G d M pc ls st S Post := by
  subst hq
  intro l D cy ad p e R s m args below meth c H locs arr n0 n1 hRR hok hP hD hS hL
  exact va_ldcS hok.x hok.b (own := RX9) (by rw [← ho]; exact hok.own) hok.STR.2.2.1 hd (k l D cy ad p e R s m args below meth c H locs arr n0 n1 hRR hok hP hD hS hL)
theorem ev_sval (i q : Nat) (hi : i < 2) (hd : decode M.1 pc = .ok (.getfield 9, 3)) (ho : M.2.2.2.cls = RJ0) (hq : pc + 3 = q) (k : EV G d M q ls (.ref (2000 + i) :: st) S Post) : EV G d M pc ls (.ref (1000 + i) :: st) S Post := by
  subst hq
  intro l D cy ad p e R s m args below meth c H locs arr n0 n1 hRR hok hP hD hS hL
  exact vk_getf hok.x hok.b (own := RJ0) (ref := "java/lang/String") (hok.STR.1.1 i hi).2.2.1 hS (by rw [← ho]; exact hok.own) (hok.ts _ fl_J0_9) (fun _ h => h) hd (k l D cy ad p e R s m args below meth c H locs arr n0 n1 hRR hok hP hD hS hL)
theorem ev_scod (i q : Nat) (hi : i < 2) (hd : decode M.1 pc = .ok (.getfield 15, 3)) (ho : M.2.2.2.cls = RJ0) (hq : pc + 3 = q) (k : EV G d M q ls (.int 0 :: st) S Post) : EV G d M pc ls (.ref (1000 + i) :: st) S Post := by
  subst hq
  intro l D cy ad p e R s m args below meth c H locs arr n0 n1 hRR hok hP hD hS hL
  exact vk_getf hok.x hok.b (own := RJ0) (ref := "java/lang/String") (hok.STR.1.1 i hi).2.1 hS (by rw [← ho]; exact hok.own) (hok.ts _ fl_J0_15) (fun _ h => h) hd (k l D cy ad p e R s m args below meth c H locs arr n0 n1 hRR hok hP hD hS hL)
theorem ev_scs (q : Nat) (hd : decode M.1 pc = .ok (.getstatic 38, 3)) (ho : M.2.2.2.cls = RJ0) (hq : pc + 3 = q) (k : EV G d M q ls (.int 1 :: st) S Post) : EV G d M pc ls st S Post := by
  subst hq
  intro l D cy ad p e R s m args below meth c H locs arr n0 n1 hRR hok hP hD hS hL
  exact va_gets hok.x hok.b (own := RJ0) (ref := "java/lang/String") hok.STR.2.2.2.1 hS (by rw [← ho]; exact hok.own) (hok.ts _ fl_J0_38) (fun _ h => h) hd (k l D cy ad p e R s m args below meth c H locs arr n0 n1 hRR hok hP hD hS hL)
theorem ev_fmt (q : Nat) (hd : decode M.1 pc = .ok (.getstatic 1053, 3)) (ho : M.2.2.2.cls = RJ0) (hq : pc + 3 = q) (k : ∀ v : Value, v = .null ∨ v = .ref 3000 → EV G d M q ls (v :: st) S Post) : EV G d M pc ls st S Post := by
  subst hq
  intro l D cy ad p e R s m args below meth c H locs arr n0 n1 hRR hok hP hD hS hL
  obtain ⟨v, hv, hZ⟩ := hok.STR.2.2.2.2
  exact va_gets hok.x hok.b (own := RJ0) (ref := "jdk/internal/util/Preconditions") hZ hS (by rw [← ho]; exact hok.own) (hok.ts _ fl_J0_1053) (fun _ h => h) hd (k v hv l D cy ad p e R s m args below meth c H locs arr n0 n1 hRR hok hP hD hS hL)
theorem ev_slen (i q : Nat) (hi : i < 2) {v : Int32} (hd : decode M.1 pc = .ok (.arraylength, 1)) (hv : Int32.ofNat (rx_len.getD i 0) = v) (hq : pc + 1 = q) (k : EV G d M q ls (.int v :: st) S Post) : EV G d M pc ls (.ref (2000 + i) :: st) S Post := by
  subst hq
  intro l D cy ad p e R s m args below meth c H locs arr n0 n1 hRR hok hP hD hS hL
  exact va_tlen hok.x hok.b (hok.STR.1.1 i hi).2.2.2 hS hv hd (k l D cy ad p e R s m args below meth c H locs arr n0 n1 hRR hok hP hD hS hL)
theorem ev_sbald (i q : Nat) (hi : i < 2) {x : Int32} {j : Int32} (hd : decode M.1 pc = .ok (.baload, 1)) (hin : vp_in j (rx_len.getD i 0)) (hx : (rx_byt.getD i []).getD j.toNatClampNeg 0 = x) (hq : pc + 1 = q) (k : EV G d M q ls (.int x :: st) S Post) : EV G d M pc ls (.int j :: .ref (2000 + i) :: st) S Post := by
  subst hq
  intro l D cy ad p e R s m args below meth c H locs arr n0 n1 hRR hok hP hD hS hL
  exact va_tb hok.x hok.b (hok.STR.1.1 i hi).2.2.2 hS hin (v := .int x) (by show Value.int _ = _; rw [hx]) hd (k l D cy ad p e R s m args below meth c H locs arr n0 n1 hRR hok hP hD hS hL)
/-- invokevirtual on a String constant -/
theorem ev_callT {M' : rx_M} {n idx : Nat} {vs : List Value} {P1 : Option Value → rx_S → Prop} (i q : Nat) (hi : i < 2) (hd : decode M.1 pc = .ok (.invokevirtual idx, 3)) (hM : EM G d M' (.ref (1000 + i) :: vs) S P1) (hm : rx_m M' n) (hv : Cond.instanceMethod M'.2.2.2 ∈ rx_T ∧ Cond.selects M'.2.2.2.cls M'.2.2.2 M'.2.2.2 ∈ rx_T) (hl : Cond.methodLink M.2.2.2.cls idx M'.2.2.2 ∈ rx_T) (hc : M'.2.2.2.cls = "java/lang/String")
    (hn : vs.length = n) (hfit : (rx_al (.ref (1000 + i) :: vs)).length ≤ M'.2.1) (hst : (st.map fun v => v.category).sum ≤ 8) (hq : pc + 3 = q)
    (kk : ∀ (r : Option Value) (S1 : rx_S), P1 r S1 → EV G (d + 1) M q ls (r.toList ++ st) S1 Post) : EV G (d + 1) M pc ls (vs.reverse ++ .ref (1000 + i) :: st) S Post := by
  subst hq
  intro l D cy ad p e R s m args below meth c H locs arr n0 n1 hRR hok hP hD hS hL
  obtain ⟨hm1, hm2, hm3, hm4, hm5⟩ := hm
  have hr := hok.room
  have hrec := vk_recv hok.STR.1 hi hS
  rw [← hc] at hrec
  have hpre := rx_pre (vs := .ref (1000 + i) :: vs) hok hP hD hS
  have hMet := rx_met hM hfit hm1 l D cy ad H.size
  have hstk : (vs.reverse ++ .ref (1000 + i) :: st).map (rx_cv ad) = (vs.map (rx_cv ad)).reverse ++ .ref (ad (1000 + i)) :: st.map (rx_cv ad) := by simp [rx_cv]
  have hroom : (d + 1 ≤ R.frames) ∧ (8 + (M'.2.1 + 11) + 64 * d ≤ R.locals) := ⟨hr.1, by omega⟩
  have hsum : 2 * (F0 m pc arr ((vs.reverse ++ .ref (1000 + i) :: st).map (rx_cv ad))).monitorRoom + ((st.map (rx_cv ad)).map fun v => v.category).sum ≤ 8 := lv_room (by rw [rx_cat]; exact hst)
  have kk' : ∀ (r : Option Value) (S1 : rx_S) (H1 : Heap) (locs1 : List Loc), P1 r S1 → va_P D rx_cl (rx_w G cy ad S1) H1 → va_S (rx_A G ad s.heap.size) s.heap H1 locs1 → W p l e R s m args below meth c H1 locs1 n0 n1 (MQ below (rx_Q G D cy ad Post) args s n0 n1 (rx_A G ad s.heap.size)) (F0 m (pc + 3) arr ((r.toList ++ st).map (rx_cv ad))) := fun r S1 H1 locs1 h1 h2 h3 => kk r S1 h1 l D cy ad p e R s m args below meth c H1 locs1 arr n0 n1 hRR hok h2 (rx_D_S S1 hD) h3 hL
  exact rx_cont (va_runV (As := vs.map (rx_cv ad)) (rest := st.map (rx_cv ad)) (C := M'.2.2.2.cls) (b := ad (1000 + i)) (index := idx) (n := n) ⟨hok.x, hok.b, hok.ml, hok.own, hok.ts⟩ hMet ⟨callB_of n hok.ts (rx_good (M := M) hm2) rfl rfl rfl (hok.ts _ hm3) (hok.ts _ hl) hm4 hroom, hok.ts _ hv.1, hok.ts _ hv.2⟩ ⟨hpre.1, hrec, hpre.2⟩ rfl (by rw [List.length_map]; exact hn) hL.1 hstk hsum hd ⟨hRR.1, hRR.2⟩) hS kk'
theorem ev_cT0 {M' : rx_M} {idx : Nat} {x : Int32} {S1 : rx_S} (i q : Nat) (hi : i < 2) (hd : decode M.1 pc = .ok (.invokevirtual idx, 3)) (hM : EM G d M' [.ref (1000 + i)] S (rx_pi x S1)) (hm : rx_m M' 0) (hv : Cond.instanceMethod M'.2.2.2 ∈ rx_T ∧ Cond.selects M'.2.2.2.cls M'.2.2.2 M'.2.2.2 ∈ rx_T) (hl : Cond.methodLink M.2.2.2.cls idx M'.2.2.2 ∈ rx_T) (hc : M'.2.2.2.cls = "java/lang/String") (hfit : 1 ≤ M'.2.1) (hst : (st.map fun v => v.category).sum ≤ 8) (hq : pc + 3 = q) (kk : EV G (d + 1) M q ls (.int x :: st) S1 Post) : EV G (d + 1) M pc ls (.ref (1000 + i) :: st) S Post :=
  ev_callT (vs := []) i q hi hd hM hm hv hl hc rfl hfit hst hq (fun r T h => by obtain ⟨rfl, rfl⟩ := h; exact kk)
theorem ev_cT1 {M' : rx_M} {idx : Nat} {x y : Int32} {S1 : rx_S} (i q : Nat) (hi : i < 2) (hd : decode M.1 pc = .ok (.invokevirtual idx, 3)) (hM : EM G d M' [.ref (1000 + i), .int y] S (rx_pi x S1)) (hm : rx_m M' 1) (hv : Cond.instanceMethod M'.2.2.2 ∈ rx_T ∧ Cond.selects M'.2.2.2.cls M'.2.2.2 M'.2.2.2 ∈ rx_T) (hl : Cond.methodLink M.2.2.2.cls idx M'.2.2.2 ∈ rx_T) (hc : M'.2.2.2.cls = "java/lang/String") (hfit : 2 ≤ M'.2.1) (hst : (st.map fun v => v.category).sum ≤ 8) (hq : pc + 3 = q) (kk : EV G (d + 1) M q ls (.int x :: st) S1 Post) : EV G (d + 1) M pc ls (.int y :: .ref (1000 + i) :: st) S Post :=
  ev_callT (vs := [.int y]) i q hi hd hM hm hv hl hc rfl hfit hst hq (fun r T h => by obtain ⟨rfl, rfl⟩ := h; exact kk)
theorem ev_cT2 {M' : rx_M} {idx : Nat} {x y z : Int32} {S1 : rx_S} (i q : Nat) (hi : i < 2) (hd : decode M.1 pc = .ok (.invokevirtual idx, 3)) (hM : EM G d M' [.ref (1000 + i), .int y, .int z] S (rx_pi x S1)) (hm : rx_m M' 2) (hv : Cond.instanceMethod M'.2.2.2 ∈ rx_T ∧ Cond.selects M'.2.2.2.cls M'.2.2.2 M'.2.2.2 ∈ rx_T) (hl : Cond.methodLink M.2.2.2.cls idx M'.2.2.2 ∈ rx_T) (hc : M'.2.2.2.cls = "java/lang/String") (hfit : 3 ≤ M'.2.1) (hst : (st.map fun v => v.category).sum ≤ 8) (hq : pc + 3 = q) (kk : EV G (d + 1) M q ls (.int x :: st) S1 Post) : EV G (d + 1) M pc ls (.int z :: .int y :: .ref (1000 + i) :: st) S Post :=
  ev_callT (vs := [.int y, .int z]) i q hi hd hM hm hv hl hc rfl hfit hst hq (fun r T h => by obtain ⟨rfl, rfl⟩ := h; exact kk)
end EVT
theorem em_isLatin1 {G : Nat × Nat} {d : Nat} {S : rx_S} (i : Nat) (hi : i < 2) : EM G d mJ0_isLatin1_aae02 [.ref (1000 + i)] S (rx_pi 1 S) := by
  show EV G d mJ0_isLatin1_aae02 0 [some (.ref (1000 + i))] [] S (rx_pi 1 S)
  refine ev_scs 3 dJ0_isLatin1_aae02_0 rfl rfl ?_
  refine ev_if_eq 17 6 dJ0_isLatin1_aae02_3 rfl rfl (fun c => absurd c (by decide)) (fun _ => ?_)
  refine ev_aload_n (i := 0) 7 dJ0_isLatin1_aae02_6 rfl rfl rfl ?_
  refine ev_scod i 10 hi dJ0_isLatin1_aae02_7 rfl rfl ?_
  refine ev_if_ne 17 13 dJ0_isLatin1_aae02_10 rfl rfl (fun c => absurd rfl c) (fun _ => ?_)
  refine ev_iconst (v := 1) 14 dJ0_isLatin1_aae02_13 (by decide) rfl ?_
  refine ev_goto 18 dJ0_isLatin1_aae02_14 rfl ?_
  exact ev_zreturn dJ0_isLatin1_aae02_18 rfl (by decide) ⟨rfl, rfl⟩
theorem em_coder {G : Nat × Nat} {d : Nat} {S : rx_S} (i : Nat) (hi : i < 2) : EM G d mJ0_coder_7d493 [.ref (1000 + i)] S (rx_pi 0 S) := by
  show EV G d mJ0_coder_7d493 0 [some (.ref (1000 + i))] [] S (rx_pi 0 S)
  refine ev_scs 3 dJ0_coder_7d493_0 rfl rfl ?_
  refine ev_if_eq 13 6 dJ0_coder_7d493_3 rfl rfl (fun c => absurd c (by decide)) (fun _ => ?_)
  refine ev_aload_n (i := 0) 7 dJ0_coder_7d493_6 rfl rfl rfl ?_
  refine ev_scod i 10 hi dJ0_coder_7d493_7 rfl rfl ?_
  refine ev_goto 14 dJ0_coder_7d493_10 rfl ?_
  exact ev_zreturn dJ0_coder_7d493_14 rfl (by decide) ⟨rfl, rfl⟩
theorem em_length {G : Nat × Nat} {d : Nat} {S : rx_S} (i : Nat) (hi : i < 2) {n : Int32} (hn : Int32.ofNat (rx_len.getD i 0) = n) : EM G (d + 1) mJ0_length_8abf5 [.ref (1000 + i)] S (rx_pi n S) := by
  show EV G (d + 1) mJ0_length_8abf5 0 [some (.ref (1000 + i))] [] S (rx_pi n S)
  refine ev_aload_n (i := 0) 1 dJ0_length_8abf5_0 rfl rfl rfl ?_
  refine ev_sval i 4 hi dJ0_length_8abf5_1 rfl rfl ?_
  refine ev_slen i 5 hi dJ0_length_8abf5_4 hn rfl ?_
  refine ev_aload_n (i := 0) 6 dJ0_length_8abf5_5 rfl rfl rfl ?_
  refine ev_cT0 i 9 hi dJ0_length_8abf5_6 (em_coder i hi) mm_J0_coder_7d493 mv_J0_coder_7d493 lk_J0_335 rfl (Nat.le_of_ble_eq_true rfl) (Nat.le_of_ble_eq_true rfl) rfl ?_
  refine ev_ishr 10 dJ0_length_8abf5_9 rfl ?_
  exact ev_ireturn dJ0_length_8abf5_10 rfl ⟨by rw [sb_shr0], rfl⟩
/-- Preconditions.checkIndex -/
theorem em_pcheck {G : Nat × Nat} {d : Nat} {S : rx_S} {x n : Int32} {v : Value} (hv : v = .null ∨ v = .ref 3000) (h1 : ¬ x < 0) (h2 : x < n) : EM G d mJ3_checkIndex_8e157 [.int x, .int n, v] S (rx_pi x S) := by
  have hc : rx_ar 3 [.int x, .int n, v] = [some (.int x), some (.int n), some v] := by rcases hv with rfl | rfl <;> rfl
  show EV G d mJ3_checkIndex_8e157 0 (rx_ar 3 [.int x, .int n, v]) [] S (rx_pi x S)
  rw [hc]
  refine ev_iload_n (i := 0) 1 dJ3_checkIndex_8e157_0 rfl rfl rfl ?_
  refine ev_if_lt 9 4 dJ3_checkIndex_8e157_1 rfl rfl (fun c => absurd c h1) (fun _ => ?_)
  refine ev_iload_n (i := 0) 5 dJ3_checkIndex_8e157_4 rfl rfl rfl ?_
  refine ev_iload_n (i := 1) 6 dJ3_checkIndex_8e157_5 rfl rfl rfl ?_
  refine ev_icmp_lt 16 9 dJ3_checkIndex_8e157_6 rfl rfl (fun _ => ?_) (fun c => absurd h2 c)
  refine ev_iload_n (i := 0) 17 dJ3_checkIndex_8e157_16 rfl rfl rfl ?_
  exact ev_ireturn dJ3_checkIndex_8e157_17 rfl ⟨rfl, rfl⟩
theorem em_scheck {G : Nat × Nat} {d : Nat} {S : rx_S} {x n : Int32} (h1 : ¬ x < 0) (h2 : x < n) : EM G (d + 1) mJ0_checkIndex_df160 [.int x, .int n] S (rx_pv S) := by
  show EV G (d + 1) mJ0_checkIndex_df160 0 [some (.int x), some (.int n)] [] S (rx_pv S)
  refine ev_iload_n (i := 0) 1 dJ0_checkIndex_df160_0 rfl rfl rfl ?_
  refine ev_iload_n (i := 1) 2 dJ0_checkIndex_df160_1 rfl rfl rfl ?_
  refine ev_fmt 5 dJ0_checkIndex_df160_2 rfl rfl (fun v hv => ?_)
  refine ev_callS (vs := [.int x, .int n, v]) 8 dJ0_checkIndex_df160_5 (em_pcheck hv h1 h2) mm_J3_checkIndex_8e157 ms_J3_checkIndex_8e157 (Or.inl lk_J0_1059) rfl (by rcases hv with rfl | rfl <;> exact Nat.le_of_ble_eq_true rfl) (Nat.le_of_ble_eq_true rfl) rfl (fun r T h => ?_)
  obtain ⟨rfl, rfl⟩ := h
  show EV G (d + 1) mJ0_checkIndex_df160 8 [some (.int x), some (.int n)] [.int x] T (rx_pv T)
  refine ev_pop 9 dJ0_checkIndex_df160_8 rfl rfl ?_
  exact ev_return dJ0_checkIndex_df160_9 rfl ⟨rfl, rfl⟩
def rx_ch (i j : Nat) : Int32 := (((rx_byt.getD i []).getD j 0 &&& 255).toUInt32 % 65536).toInt32
theorem em_lcharAt {G : Nat × Nat} {d : Nat} {S : rx_S} (i : Nat) (hi : i < 2) {x : Int32} (hx : vp_in x (rx_len.getD i 0)) (h1 : ¬ x < 0) (h2 : x < Int32.ofNat (rx_len.getD i 0)) : EM G (d + 2) mJ1_charAt_3b067 [.ref (2000 + i), .int x] S (rx_pi (rx_ch i x.toNatClampNeg) S) := by
  show EV G (d + 2) mJ1_charAt_3b067 0 [some (.ref (2000 + i)), some (.int x)] [] S (rx_pi (rx_ch i x.toNatClampNeg) S)
  refine ev_iload_n (i := 1) 1 dJ1_charAt_3b067_0 rfl rfl rfl ?_
  refine ev_aload_n (i := 0) 2 dJ1_charAt_3b067_1 rfl rfl rfl ?_
  refine ev_slen i 3 hi dJ1_charAt_3b067_2 rfl rfl ?_
  refine ev_callS (vs := [.int x, .int (Int32.ofNat (rx_len.getD i 0))]) 6 dJ1_charAt_3b067_3 (em_scheck h1 h2) mm_J0_checkIndex_df160 ms_J0_checkIndex_df160 (Or.inl lk_J1_9) rfl (Nat.le_of_ble_eq_true rfl) (Nat.le_of_ble_eq_true rfl) rfl (fun r T h => ?_)
  obtain ⟨rfl, rfl⟩ := h
  show EV G (d + 2) mJ1_charAt_3b067 6 [some (.ref (2000 + i)), some (.int x)] [] T (rx_pi (rx_ch i x.toNatClampNeg) T)
  refine ev_aload_n (i := 0) 7 dJ1_charAt_3b067_6 rfl rfl rfl ?_
  refine ev_iload_n (i := 1) 8 dJ1_charAt_3b067_7 rfl rfl rfl ?_
  refine ev_sbald i 9 hi dJ1_charAt_3b067_8 hx rfl rfl ?_
  refine ev_sipush (v := 255) 12 dJ1_charAt_3b067_9 (by decide) rfl ?_
  refine ev_iand 13 dJ1_charAt_3b067_12 rfl ?_
  refine ev_i2c 14 dJ1_charAt_3b067_13 rfl ?_
  exact ev_zreturn dJ1_charAt_3b067_14 rfl (pk_nc _) ⟨rfl, rfl⟩
theorem em_charAt {G : Nat × Nat} {d : Nat} {S : rx_S} (i : Nat) (hi : i < 2) {x : Int32} (hx : vp_in x (rx_len.getD i 0)) (h1 : ¬ x < 0) (h2 : x < Int32.ofNat (rx_len.getD i 0)) : EM G (d + 3) mJ0_charAt_5068e [.ref (1000 + i), .int x] S (rx_pi (rx_ch i x.toNatClampNeg) S) := by
  show EV G (d + 3) mJ0_charAt_5068e 0 [some (.ref (1000 + i)), some (.int x)] [] S (rx_pi (rx_ch i x.toNatClampNeg) S)
  refine ev_aload_n (i := 0) 1 dJ0_charAt_5068e_0 rfl rfl rfl ?_
  refine ev_cT0 i 4 hi dJ0_charAt_5068e_1 (em_isLatin1 i hi) mm_J0_isLatin1_aae02 mv_J0_isLatin1_aae02 lk_J0_492 rfl (Nat.le_of_ble_eq_true rfl) (Nat.le_of_ble_eq_true rfl) rfl ?_
  refine ev_if_eq 16 7 dJ0_charAt_5068e_4 rfl rfl (fun c => absurd c (by decide)) (fun _ => ?_)
  refine ev_aload_n (i := 0) 8 dJ0_charAt_5068e_7 rfl rfl rfl ?_
  refine ev_sval i 11 hi dJ0_charAt_5068e_8 rfl rfl ?_
  refine ev_iload_n (i := 1) 12 dJ0_charAt_5068e_11 rfl rfl rfl ?_
  refine ev_callS (vs := [.ref (2000 + i), .int x]) 15 dJ0_charAt_5068e_12 (em_lcharAt i hi hx h1 h2) mm_J1_charAt_3b067 ms_J1_charAt_3b067 (Or.inl lk_J0_495) rfl (Nat.le_of_ble_eq_true rfl) (Nat.le_of_ble_eq_true rfl) rfl (fun r T h => ?_)
  obtain ⟨rfl, rfl⟩ := h
  show EV G (d + 3) mJ0_charAt_5068e 15 [some (.ref (1000 + i)), some (.int x)] [.int _] T _
  exact ev_zreturn dJ0_charAt_5068e_15 rfl (pk_nc _) ⟨rfl, rfl⟩
/-! indexOf in ";=+-*/<()" -/
def rx_ixc (c : Int32) : Int32 := if (59 : Int32) = c then 0 else if (61 : Int32) = c then 1 else if (43 : Int32) = c then 2 else if (45 : Int32) = c then 3 else if (42 : Int32) = c then 4 else if (47 : Int32) = c then 5 else if (60 : Int32) = c then 6 else if (40 : Int32) = c then 7 else if (41 : Int32) = c then 8 else -1
def rx_ixs (c : Int32) : Int32 := if c < 0 then -1 else if (255 : Int32) < c then -1 else rx_ixc (rx_i2b c)
theorem em_canEncode {G : Nat × Nat} {d : Nat} {S : rx_S} {c : Int32} : EM G d mJ1_canEncode_9a6ad [.int c] S (rx_pi (if c < 0 then 0 else if (255 : Int32) < c then 0 else 1) S) := by
  show EV G d mJ1_canEncode_9a6ad 0 [some (.int c)] [] S _
  refine ev_iload_n (i := 0) 1 dJ1_canEncode_9a6ad_0 rfl rfl rfl ?_
  refine ev_if_lt 15 4 dJ1_canEncode_9a6ad_1 rfl rfl (fun c1 => ?_) (fun c1 => ?_)
  · refine ev_iconst (v := 0) 16 dJ1_canEncode_9a6ad_15 (by decide) rfl ?_
    exact ev_zreturn dJ1_canEncode_9a6ad_16 rfl (by decide) ⟨by rw [if_pos c1], rfl⟩
  · refine ev_iload_n (i := 0) 5 dJ1_canEncode_9a6ad_4 rfl rfl rfl ?_
    refine ev_sipush (v := 255) 8 dJ1_canEncode_9a6ad_5 (by decide) rfl ?_
    refine ev_icmp_gt 15 11 dJ1_canEncode_9a6ad_8 rfl rfl (fun c2 => ?_) (fun c2 => ?_)
    · refine ev_iconst (v := 0) 16 dJ1_canEncode_9a6ad_15 (by decide) rfl ?_
      exact ev_zreturn dJ1_canEncode_9a6ad_16 rfl (by decide) ⟨by rw [if_neg c1, if_pos c2], rfl⟩
    · refine ev_iconst (v := 1) 12 dJ1_canEncode_9a6ad_11 (by decide) rfl ?_
      refine ev_goto 16 dJ1_canEncode_9a6ad_12 rfl ?_
      exact ev_zreturn dJ1_canEncode_9a6ad_16 rfl (by decide) ⟨by rw [if_neg c1, if_neg c2], rfl⟩
/-- the loop, from its head at place j -/
theorem em_ixstep {G : Nat × Nat} {d : Nat} {S : rx_S} {ch c : Int32} {z : Int32} (j b : Int32) (hin : vp_in j 9) (hb : (rx_byt.getD 1 []).getD j.toNatClampNeg 0 = b) (hlt : ¬ (9 : Int32) ≤ j) {j' : Int32} (hj : j + Int32.ofInt 1 = j') (hit : b = c → z = j) (miss : ¬ b = c → EV G d mJ1_indexOfChar_4cfef 7 [some (.ref 2001), some (.int ch), some (.int 0), some (.int 9), some (.int c), some (.int j')] [] S (rx_pi z S)) : EV G d mJ1_indexOfChar_4cfef 7 [some (.ref 2001), some (.int ch), some (.int 0), some (.int 9), some (.int c), some (.int j)] [] S (rx_pi z S) := by
  refine ev_iload 9 dJ1_indexOfChar_4cfef_7 rfl rfl ?_
  refine ev_iload_n (i := 3) 10 dJ1_indexOfChar_4cfef_9 rfl rfl rfl ?_
  refine ev_icmp_ge 31 13 dJ1_indexOfChar_4cfef_10 rfl rfl (fun q => absurd q hlt) (fun _ => ?_)
  refine ev_aload_n (i := 0) 14 dJ1_indexOfChar_4cfef_13 rfl rfl rfl ?_
  refine ev_iload 16 dJ1_indexOfChar_4cfef_14 rfl rfl ?_
  refine ev_sbald 1 17 (by decide) (x := b) dJ1_indexOfChar_4cfef_16 hin hb rfl ?_
  refine ev_iload 19 dJ1_indexOfChar_4cfef_17 rfl rfl ?_
  refine ev_icmp_ne 25 22 dJ1_indexOfChar_4cfef_19 rfl rfl (fun q => ?_) (fun q => ?_)
  · refine ev_iinc (v := j') (ls' := [some (.ref 2001), some (.int ch), some (.int 0), some (.int 9), some (.int c), some (.int j')]) 28 dJ1_indexOfChar_4cfef_25 rfl hj (Nat.le_of_ble_eq_true rfl) rfl rfl ?_
    refine ev_goto 7 dJ1_indexOfChar_4cfef_28 rfl ?_
    exact miss q
  · refine ev_iload 24 dJ1_indexOfChar_4cfef_22 rfl rfl ?_
    exact ev_ireturn dJ1_indexOfChar_4cfef_24 rfl ⟨by rw [hit q], rfl⟩
theorem em_indexOfChar {G : Nat × Nat} {d : Nat} {S : rx_S} {ch : Int32} : EM G d mJ1_indexOfChar_4cfef [.ref 2001, .int ch, .int 0, .int 9] S (rx_pi (rx_ixc (rx_i2b ch)) S) := by
  show EV G d mJ1_indexOfChar_4cfef 0 [some (.ref 2001), some (.int ch), some (.int 0), some (.int 9), none, none] [] S _
  refine ev_iload_n (i := 1) 1 dJ1_indexOfChar_4cfef_0 rfl rfl rfl ?_
  refine ev_tob 2 dJ1_indexOfChar_4cfef_1 rfl ?_
  generalize rx_i2b ch = c
  refine ev_istore (ls' := [some (.ref 2001), some (.int ch), some (.int 0), some (.int 9), some (.int c), none]) 4 dJ1_indexOfChar_4cfef_2 (Nat.le_of_ble_eq_true rfl) rfl rfl ?_
  refine ev_iload_n (i := 2) 5 dJ1_indexOfChar_4cfef_4 rfl rfl rfl ?_
  refine ev_istore (ls' := [some (.ref 2001), some (.int ch), some (.int 0), some (.int 9), some (.int c), some (.int 0)]) 7 dJ1_indexOfChar_4cfef_5 (Nat.le_of_ble_eq_true rfl) rfl rfl ?_
  unfold rx_ixc
  refine em_ixstep 0 59 (rx_vin (by decide)) (by decide) (by decide) (j' := 1) (by decide) (fun q => if_pos q) (fun q => ?_)
  rw [if_neg q]
  refine em_ixstep 1 61 (rx_vin (by decide)) (by decide) (by decide) (j' := 2) (by decide) (fun q => if_pos q) (fun q => ?_)
  rw [if_neg q]
  refine em_ixstep 2 43 (rx_vin (by decide)) (by decide) (by decide) (j' := 3) (by decide) (fun q => if_pos q) (fun q => ?_)
  rw [if_neg q]
  refine em_ixstep 3 45 (rx_vin (by decide)) (by decide) (by decide) (j' := 4) (by decide) (fun q => if_pos q) (fun q => ?_)
  rw [if_neg q]
  refine em_ixstep 4 42 (rx_vin (by decide)) (by decide) (by decide) (j' := 5) (by decide) (fun q => if_pos q) (fun q => ?_)
  rw [if_neg q]
  refine em_ixstep 5 47 (rx_vin (by decide)) (by decide) (by decide) (j' := 6) (by decide) (fun q => if_pos q) (fun q => ?_)
  rw [if_neg q]
  refine em_ixstep 6 60 (rx_vin (by decide)) (by decide) (by decide) (j' := 7) (by decide) (fun q => if_pos q) (fun q => ?_)
  rw [if_neg q]
  refine em_ixstep 7 40 (rx_vin (by decide)) (by decide) (by decide) (j' := 8) (by decide) (fun q => if_pos q) (fun q => ?_)
  rw [if_neg q]
  refine em_ixstep 8 41 (rx_vin (by decide)) (by decide) (by decide) (j' := 9) (by decide) (fun q => if_pos q) (fun q => ?_)
  rw [if_neg q]
  refine ev_iload 9 dJ1_indexOfChar_4cfef_7 rfl rfl ?_
  refine ev_iload_n (i := 3) 10 dJ1_indexOfChar_4cfef_9 rfl rfl rfl ?_
  refine ev_icmp_ge 31 13 dJ1_indexOfChar_4cfef_10 rfl rfl (fun _ => ?_) (fun q => absurd (by decide) q)
  refine ev_iconst (v := -1) 32 dJ1_indexOfChar_4cfef_31 (by decide) rfl ?_
  exact ev_ireturn dJ1_indexOfChar_4cfef_32 rfl ⟨rfl, rfl⟩
theorem em_lindexOf {G : Nat × Nat} {d : Nat} {S : rx_S} {ch : Int32} : EM G (d + 1) mJ1_indexOf_4cfef [.ref 2001, .int ch, .int 0, .int 9] S (rx_pi (rx_ixs ch) S) := by
  show EV G (d + 1) mJ1_indexOf_4cfef 0 [some (.ref 2001), some (.int ch), some (.int 0), some (.int 9)] [] S _
  refine ev_iload_n (i := 1) 1 dJ1_indexOf_4cfef_0 rfl rfl rfl ?_
  refine ev_cSi1 4 dJ1_indexOf_4cfef_1 em_canEncode mm_J1_canEncode_9a6ad ms_J1_canEncode_9a6ad (Or.inl lk_J1_88) (Nat.le_of_ble_eq_true rfl) (Nat.le_of_ble_eq_true rfl) rfl ?_
  refine ev_if_ne 9 7 dJ1_indexOf_4cfef_4 rfl rfl (fun q => ?_) (fun q => ?_)
  · have h1 : ¬ ch < 0 := fun h => q (by rw [if_pos h])
    have h2 : ¬ (255 : Int32) < ch := fun h => q (by rw [if_neg h1, if_pos h])
    refine ev_iload_n (i := 2) 10 dJ1_indexOf_4cfef_9 rfl rfl rfl ?_
    refine ev_iconst (v := 0) 11 dJ1_indexOf_4cfef_10 (by decide) rfl ?_
    refine ev_max 14 dJ1_indexOf_4cfef_11 lk_J1_92 w_max (Nat.le_of_ble_eq_true rfl) rfl ?_
    refine ev_nm (y := 0) (by decide) ?_
    refine ev_istore_n (ls' := [some (.ref 2001), some (.int ch), some (.int 0), some (.int 9)]) 15 dJ1_indexOf_4cfef_14 rfl (Nat.le_of_ble_eq_true rfl) rfl rfl ?_
    refine ev_iload_n (i := 3) 16 dJ1_indexOf_4cfef_15 rfl rfl rfl ?_
    refine ev_aload_n (i := 0) 17 dJ1_indexOf_4cfef_16 rfl rfl rfl ?_
    refine ev_slen 1 18 (by decide) (v := 9) dJ1_indexOf_4cfef_17 (by decide) rfl ?_
    refine ev_min 21 dJ1_indexOf_4cfef_18 lk_J1_38 w_min (Nat.le_of_ble_eq_true rfl) rfl ?_
    refine ev_nm (y := 9) (by decide) ?_
    refine ev_istore_n (ls' := [some (.ref 2001), some (.int ch), some (.int 0), some (.int 9)]) 22 dJ1_indexOf_4cfef_21 rfl (Nat.le_of_ble_eq_true rfl) rfl rfl ?_
    refine ev_iload_n (i := 2) 23 dJ1_indexOf_4cfef_22 rfl rfl rfl ?_
    refine ev_iload_n (i := 3) 24 dJ1_indexOf_4cfef_23 rfl rfl rfl ?_
    refine ev_icmp_lt 29 27 dJ1_indexOf_4cfef_24 rfl rfl (fun _ => ?_) (fun c => absurd (by decide) c)
    refine ev_aload_n (i := 0) 30 dJ1_indexOf_4cfef_29 rfl rfl rfl ?_
    refine ev_iload_n (i := 1) 31 dJ1_indexOf_4cfef_30 rfl rfl rfl ?_
    refine ev_iload_n (i := 2) 32 dJ1_indexOf_4cfef_31 rfl rfl rfl ?_
    refine ev_iload_n (i := 3) 33 dJ1_indexOf_4cfef_32 rfl rfl rfl ?_
    refine ev_cSi4 36 dJ1_indexOf_4cfef_33 em_indexOfChar mm_J1_indexOfChar_4cfef ms_J1_indexOfChar_4cfef (Or.inl lk_J1_95) (Nat.le_of_ble_eq_true rfl) (Nat.le_of_ble_eq_true rfl) rfl ?_
    exact ev_ireturn dJ1_indexOf_4cfef_36 rfl ⟨by rw [rx_ixs, if_neg h1, if_neg h2], rfl⟩
  · refine ev_iconst (v := -1) 8 dJ1_indexOf_4cfef_7 (by decide) rfl ?_
    refine ev_ireturn dJ1_indexOf_4cfef_8 rfl ⟨?_, rfl⟩
    by_cases h1 : ch < 0
    · rw [rx_ixs, if_pos h1]
    · by_cases h2 : (255 : Int32) < ch
      · rw [rx_ixs, if_neg h1, if_pos h2]
      · rw [if_neg h1, if_neg h2] at q
        exact absurd q (by decide)
theorem em_indexOf2 {G : Nat × Nat} {d : Nat} {S : rx_S} {ch : Int32} : EM G (d + 2) mJ0_indexOf_7cf53 [.ref 1001, .int ch, .int 0] S (rx_pi (rx_ixs ch) S) := by
  show EV G (d + 2) mJ0_indexOf_7cf53 0 [some (.ref 1001), some (.int ch), some (.int 0)] [] S _
  refine ev_aload_n (i := 0) 1 dJ0_indexOf_7cf53_0 rfl rfl rfl ?_
  refine ev_cT0 1 4 (by decide) dJ0_indexOf_7cf53_1 (em_isLatin1 1 (by decide)) mm_J0_isLatin1_aae02 mv_J0_isLatin1_aae02 lk_J0_492 rfl (Nat.le_of_ble_eq_true rfl) (Nat.le_of_ble_eq_true rfl) rfl ?_
  refine ev_if_eq 23 7 dJ0_indexOf_7cf53_4 rfl rfl (fun c => absurd c (by decide)) (fun _ => ?_)
  refine ev_aload_n (i := 0) 8 dJ0_indexOf_7cf53_7 rfl rfl rfl ?_
  refine ev_sval 1 11 (by decide) dJ0_indexOf_7cf53_8 rfl rfl ?_
  refine ev_iload_n (i := 1) 12 dJ0_indexOf_7cf53_11 rfl rfl rfl ?_
  refine ev_iload_n (i := 2) 13 dJ0_indexOf_7cf53_12 rfl rfl rfl ?_
  refine ev_aload_n (i := 0) 14 dJ0_indexOf_7cf53_13 rfl rfl rfl ?_
  refine ev_cT0 1 17 (by decide) dJ0_indexOf_7cf53_14 (em_length (n := 9) 1 (by decide) (by decide)) mm_J0_length_8abf5 mv_J0_length_8abf5 lk_J0_505 rfl (Nat.le_of_ble_eq_true rfl) (Nat.le_of_ble_eq_true rfl) rfl ?_
  refine ev_cSi4 20 dJ0_indexOf_7cf53_17 em_lindexOf mm_J1_indexOf_4cfef ms_J1_indexOf_4cfef (Or.inl lk_J0_637) (Nat.le_of_ble_eq_true rfl) (Nat.le_of_ble_eq_true rfl) rfl ?_
  refine ev_goto 36 dJ0_indexOf_7cf53_20 rfl ?_
  exact ev_ireturn dJ0_indexOf_7cf53_36 rfl ⟨rfl, rfl⟩
theorem em_indexOf {G : Nat × Nat} {d : Nat} {S : rx_S} {ch : Int32} : EM G (d + 3) mJ0_indexOf_0f7a4 [.ref 1001, .int ch] S (rx_pi (rx_ixs ch) S) := by
  show EV G (d + 3) mJ0_indexOf_0f7a4 0 [some (.ref 1001), some (.int ch)] [] S _
  refine ev_aload_n (i := 0) 1 dJ0_indexOf_0f7a4_0 rfl rfl rfl ?_
  refine ev_iload_n (i := 1) 2 dJ0_indexOf_0f7a4_1 rfl rfl rfl ?_
  refine ev_iconst (v := 0) 3 dJ0_indexOf_0f7a4_2 (by decide) rfl ?_
  refine ev_cT2 1 6 (by decide) dJ0_indexOf_0f7a4_3 em_indexOf2 mm_J0_indexOf_7cf53 mv_J0_indexOf_7cf53 lk_J0_633 rfl (Nat.le_of_ble_eq_true rfl) (Nat.le_of_ble_eq_true rfl) rfl ?_
  exact ev_ireturn dJ0_indexOf_0f7a4_6 rfl ⟨rfl, rfl⟩


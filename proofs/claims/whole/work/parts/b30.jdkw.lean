/-! THE TEXTS OF THE LIBRARY'S CLASSES that the class calls: length, charAt, indexOf of a text -/
abbrev jt_c_cd : ByteArray := prog_16_method_152_code
abbrev jt_y_cd : MethodName := ⟨"java/lang/String", "coder", "()B"⟩
theorem jt_d_cd_0 : decode jt_c_cd 0 = .ok (.getstatic 38, 3) := by decide +kernel
theorem jt_d_cd_3 : decode jt_c_cd 3 = .ok (.ifCond .eq 10, 3) := by decide +kernel
theorem jt_d_cd_6 : decode jt_c_cd 6 = .ok (.aload_n 0, 1) := by decide +kernel
theorem jt_d_cd_7 : decode jt_c_cd 7 = .ok (.getfield 15, 3) := by decide +kernel
theorem jt_d_cd_10 : decode jt_c_cd 10 = .ok (.goto 4, 3) := by decide +kernel
theorem jt_d_cd_13 : decode jt_c_cd 13 = .ok (.iconst 1, 1) := by decide +kernel
theorem jt_d_cd_14 : decode jt_c_cd 14 = .ok (.ireturn, 1) := by decide +kernel
abbrev jt_c_ln : ByteArray := prog_16_method_54_code
abbrev jt_y_ln : MethodName := ⟨"java/lang/String", "length", "()I"⟩
theorem jt_d_ln_0 : decode jt_c_ln 0 = .ok (.aload_n 0, 1) := by decide +kernel
theorem jt_d_ln_1 : decode jt_c_ln 1 = .ok (.getfield 9, 3) := by decide +kernel
theorem jt_d_ln_4 : decode jt_c_ln 4 = .ok (.arraylength, 1) := by decide +kernel
theorem jt_d_ln_5 : decode jt_c_ln 5 = .ok (.aload_n 0, 1) := by decide +kernel
theorem jt_d_ln_6 : decode jt_c_ln 6 = .ok (.invokevirtual 335, 3) := by decide +kernel
theorem jt_d_ln_9 : decode jt_c_ln 9 = .ok (.ishr, 1) := by decide +kernel
theorem jt_d_ln_10 : decode jt_c_ln 10 = .ok (.ireturn, 1) := by decide +kernel
abbrev jt_c_la : ByteArray := prog_16_method_154_code
abbrev jt_y_la : MethodName := ⟨"java/lang/String", "isLatin1", "()Z"⟩
theorem jt_d_la_0 : decode jt_c_la 0 = .ok (.getstatic 38, 3) := by decide +kernel
theorem jt_d_la_3 : decode jt_c_la 3 = .ok (.ifCond .eq 14, 3) := by decide +kernel
theorem jt_d_la_6 : decode jt_c_la 6 = .ok (.aload_n 0, 1) := by decide +kernel
theorem jt_d_la_7 : decode jt_c_la 7 = .ok (.getfield 15, 3) := by decide +kernel
theorem jt_d_la_10 : decode jt_c_la 10 = .ok (.ifCond .ne 7, 3) := by decide +kernel
theorem jt_d_la_13 : decode jt_c_la 13 = .ok (.iconst 1, 1) := by decide +kernel
theorem jt_d_la_14 : decode jt_c_la 14 = .ok (.goto 4, 3) := by decide +kernel
theorem jt_d_la_17 : decode jt_c_la 17 = .ok (.iconst 0, 1) := by decide +kernel
theorem jt_d_la_18 : decode jt_c_la 18 = .ok (.ireturn, 1) := by decide +kernel
abbrev jt_c_pc : ByteArray := prog_21_method_11_code
abbrev jt_y_pc : MethodName := ⟨"jdk/internal/util/Preconditions", "checkIndex", "(IILjava/util/function/BiFunction;)I"⟩
theorem jt_d_pc_0 : decode jt_c_pc 0 = .ok (.iload_n 0, 1) := by decide +kernel
theorem jt_d_pc_1 : decode jt_c_pc 1 = .ok (.ifCond .lt 8, 3) := by decide +kernel
theorem jt_d_pc_4 : decode jt_c_pc 4 = .ok (.iload_n 0, 1) := by decide +kernel
theorem jt_d_pc_5 : decode jt_c_pc 5 = .ok (.iload_n 1, 1) := by decide +kernel
theorem jt_d_pc_6 : decode jt_c_pc 6 = .ok (.if_icmp .lt 10, 3) := by decide +kernel
theorem jt_d_pc_9 : decode jt_c_pc 9 = .ok (.aload_n 2, 1) := by decide +kernel
theorem jt_d_pc_10 : decode jt_c_pc 10 = .ok (.iload_n 0, 1) := by decide +kernel
theorem jt_d_pc_11 : decode jt_c_pc 11 = .ok (.iload_n 1, 1) := by decide +kernel
theorem jt_d_pc_12 : decode jt_c_pc 12 = .ok (.invokestatic 95, 3) := by decide +kernel
theorem jt_d_pc_15 : decode jt_c_pc 15 = .ok (.athrow, 1) := by decide +kernel
theorem jt_d_pc_16 : decode jt_c_pc 16 = .ok (.iload_n 0, 1) := by decide +kernel
theorem jt_d_pc_17 : decode jt_c_pc 17 = .ok (.ireturn, 1) := by decide +kernel
abbrev jt_c_ck : ByteArray := prog_16_method_155_code
abbrev jt_y_ck : MethodName := ⟨"java/lang/String", "checkIndex", "(II)V"⟩
theorem jt_d_ck_0 : decode jt_c_ck 0 = .ok (.iload_n 0, 1) := by decide +kernel
theorem jt_d_ck_1 : decode jt_c_ck 1 = .ok (.iload_n 1, 1) := by decide +kernel
theorem jt_d_ck_2 : decode jt_c_ck 2 = .ok (.getstatic 1053, 3) := by decide +kernel
theorem jt_d_ck_5 : decode jt_c_ck 5 = .ok (.invokestatic 1059, 3) := by decide +kernel
theorem jt_d_ck_8 : decode jt_c_ck 8 = .ok (.pop, 1) := by decide +kernel
theorem jt_d_ck_9 : decode jt_c_ck 9 = .ok (.return_, 1) := by decide +kernel
abbrev jt_c_sc : ByteArray := prog_17_method_2_code
abbrev jt_y_sc : MethodName := ⟨"java/lang/StringLatin1", "charAt", "([BI)C"⟩
theorem jt_d_sc_0 : decode jt_c_sc 0 = .ok (.iload_n 1, 1) := by decide +kernel
theorem jt_d_sc_1 : decode jt_c_sc 1 = .ok (.aload_n 0, 1) := by decide +kernel
theorem jt_d_sc_2 : decode jt_c_sc 2 = .ok (.arraylength, 1) := by decide +kernel
theorem jt_d_sc_3 : decode jt_c_sc 3 = .ok (.invokestatic 9, 3) := by decide +kernel
theorem jt_d_sc_6 : decode jt_c_sc 6 = .ok (.aload_n 0, 1) := by decide +kernel
theorem jt_d_sc_7 : decode jt_c_sc 7 = .ok (.iload_n 1, 1) := by decide +kernel
theorem jt_d_sc_8 : decode jt_c_sc 8 = .ok (.baload, 1) := by decide +kernel
theorem jt_d_sc_9 : decode jt_c_sc 9 = .ok (.sipush 255, 3) := by decide +kernel
theorem jt_d_sc_12 : decode jt_c_sc 12 = .ok (.iand, 1) := by decide +kernel
theorem jt_d_sc_13 : decode jt_c_sc 13 = .ok (.i2c, 1) := by decide +kernel
theorem jt_d_sc_14 : decode jt_c_sc 14 = .ok (.ireturn, 1) := by decide +kernel
abbrev jt_c_ca : ByteArray := prog_16_method_56_code
abbrev jt_y_ca : MethodName := ⟨"java/lang/String", "charAt", "(I)C"⟩
theorem jt_d_ca_0 : decode jt_c_ca 0 = .ok (.aload_n 0, 1) := by decide +kernel
theorem jt_d_ca_1 : decode jt_c_ca 1 = .ok (.invokevirtual 492, 3) := by decide +kernel
theorem jt_d_ca_4 : decode jt_c_ca 4 = .ok (.ifCond .eq 12, 3) := by decide +kernel
theorem jt_d_ca_7 : decode jt_c_ca 7 = .ok (.aload_n 0, 1) := by decide +kernel
theorem jt_d_ca_8 : decode jt_c_ca 8 = .ok (.getfield 9, 3) := by decide +kernel
theorem jt_d_ca_11 : decode jt_c_ca 11 = .ok (.iload_n 1, 1) := by decide +kernel
theorem jt_d_ca_12 : decode jt_c_ca 12 = .ok (.invokestatic 495, 3) := by decide +kernel
theorem jt_d_ca_15 : decode jt_c_ca 15 = .ok (.ireturn, 1) := by decide +kernel
theorem jt_d_ca_16 : decode jt_c_ca 16 = .ok (.aload_n 0, 1) := by decide +kernel
theorem jt_d_ca_17 : decode jt_c_ca 17 = .ok (.getfield 9, 3) := by decide +kernel
theorem jt_d_ca_20 : decode jt_c_ca 20 = .ok (.iload_n 1, 1) := by decide +kernel
theorem jt_d_ca_21 : decode jt_c_ca 21 = .ok (.invokestatic 498, 3) := by decide +kernel
theorem jt_d_ca_24 : decode jt_c_ca 24 = .ok (.ireturn, 1) := by decide +kernel
abbrev jt_c_en : ByteArray := prog_17_method_4_code
abbrev jt_y_en : MethodName := ⟨"java/lang/StringLatin1", "canEncode", "(I)Z"⟩
theorem jt_d_en_0 : decode jt_c_en 0 = .ok (.iload_n 0, 1) := by decide +kernel
theorem jt_d_en_1 : decode jt_c_en 1 = .ok (.ifCond .lt 14, 3) := by decide +kernel
theorem jt_d_en_4 : decode jt_c_en 4 = .ok (.iload_n 0, 1) := by decide +kernel
theorem jt_d_en_5 : decode jt_c_en 5 = .ok (.sipush 255, 3) := by decide +kernel
theorem jt_d_en_8 : decode jt_c_en 8 = .ok (.if_icmp .gt 7, 3) := by decide +kernel
theorem jt_d_en_11 : decode jt_c_en 11 = .ok (.iconst 1, 1) := by decide +kernel
theorem jt_d_en_12 : decode jt_c_en 12 = .ok (.goto 4, 3) := by decide +kernel
theorem jt_d_en_15 : decode jt_c_en 15 = .ok (.iconst 0, 1) := by decide +kernel
theorem jt_d_en_16 : decode jt_c_en 16 = .ok (.ireturn, 1) := by decide +kernel
abbrev jt_c_ic : ByteArray := prog_17_method_23_code
abbrev jt_y_ic : MethodName := ⟨"java/lang/StringLatin1", "indexOfChar", "([BIII)I"⟩
theorem jt_d_ic_0 : decode jt_c_ic 0 = .ok (.iload_n 1, 1) := by decide +kernel
theorem jt_d_ic_1 : decode jt_c_ic 1 = .ok (.i2b, 1) := by decide +kernel
theorem jt_d_ic_2 : decode jt_c_ic 2 = .ok (.istore 4, 2) := by decide +kernel
theorem jt_d_ic_4 : decode jt_c_ic 4 = .ok (.iload_n 2, 1) := by decide +kernel
theorem jt_d_ic_5 : decode jt_c_ic 5 = .ok (.istore 5, 2) := by decide +kernel
theorem jt_d_ic_7 : decode jt_c_ic 7 = .ok (.iload 5, 2) := by decide +kernel
theorem jt_d_ic_9 : decode jt_c_ic 9 = .ok (.iload_n 3, 1) := by decide +kernel
theorem jt_d_ic_10 : decode jt_c_ic 10 = .ok (.if_icmp .ge 21, 3) := by decide +kernel
theorem jt_d_ic_13 : decode jt_c_ic 13 = .ok (.aload_n 0, 1) := by decide +kernel
theorem jt_d_ic_14 : decode jt_c_ic 14 = .ok (.iload 5, 2) := by decide +kernel
theorem jt_d_ic_16 : decode jt_c_ic 16 = .ok (.baload, 1) := by decide +kernel
theorem jt_d_ic_17 : decode jt_c_ic 17 = .ok (.iload 4, 2) := by decide +kernel
theorem jt_d_ic_19 : decode jt_c_ic 19 = .ok (.if_icmp .ne 6, 3) := by decide +kernel
theorem jt_d_ic_22 : decode jt_c_ic 22 = .ok (.iload 5, 2) := by decide +kernel
theorem jt_d_ic_24 : decode jt_c_ic 24 = .ok (.ireturn, 1) := by decide +kernel
theorem jt_d_ic_25 : decode jt_c_ic 25 = .ok (.iinc 5 1, 3) := by decide +kernel
theorem jt_d_ic_28 : decode jt_c_ic 28 = .ok (.goto (-21), 3) := by decide +kernel
theorem jt_d_ic_31 : decode jt_c_ic 31 = .ok (.iconst (-1), 1) := by decide +kernel
theorem jt_d_ic_32 : decode jt_c_ic 32 = .ok (.ireturn, 1) := by decide +kernel
abbrev jt_c_ix : ByteArray := prog_17_method_22_code
abbrev jt_y_ix : MethodName := ⟨"java/lang/StringLatin1", "indexOf", "([BIII)I"⟩
theorem jt_d_ix_0 : decode jt_c_ix 0 = .ok (.iload_n 1, 1) := by decide +kernel
theorem jt_d_ix_1 : decode jt_c_ix 1 = .ok (.invokestatic 88, 3) := by decide +kernel
theorem jt_d_ix_4 : decode jt_c_ix 4 = .ok (.ifCond .ne 5, 3) := by decide +kernel
theorem jt_d_ix_7 : decode jt_c_ix 7 = .ok (.iconst (-1), 1) := by decide +kernel
theorem jt_d_ix_8 : decode jt_c_ix 8 = .ok (.ireturn, 1) := by decide +kernel
theorem jt_d_ix_9 : decode jt_c_ix 9 = .ok (.iload_n 2, 1) := by decide +kernel
theorem jt_d_ix_10 : decode jt_c_ix 10 = .ok (.iconst 0, 1) := by decide +kernel
theorem jt_d_ix_11 : decode jt_c_ix 11 = .ok (.invokestatic 92, 3) := by decide +kernel
theorem jt_d_ix_14 : decode jt_c_ix 14 = .ok (.istore_n 2, 1) := by decide +kernel
theorem jt_d_ix_15 : decode jt_c_ix 15 = .ok (.iload_n 3, 1) := by decide +kernel
theorem jt_d_ix_16 : decode jt_c_ix 16 = .ok (.aload_n 0, 1) := by decide +kernel
theorem jt_d_ix_17 : decode jt_c_ix 17 = .ok (.arraylength, 1) := by decide +kernel
theorem jt_d_ix_18 : decode jt_c_ix 18 = .ok (.invokestatic 38, 3) := by decide +kernel
theorem jt_d_ix_21 : decode jt_c_ix 21 = .ok (.istore_n 3, 1) := by decide +kernel
theorem jt_d_ix_22 : decode jt_c_ix 22 = .ok (.iload_n 2, 1) := by decide +kernel
theorem jt_d_ix_23 : decode jt_c_ix 23 = .ok (.iload_n 3, 1) := by decide +kernel
theorem jt_d_ix_24 : decode jt_c_ix 24 = .ok (.if_icmp .lt 5, 3) := by decide +kernel
theorem jt_d_ix_27 : decode jt_c_ix 27 = .ok (.iconst (-1), 1) := by decide +kernel
theorem jt_d_ix_28 : decode jt_c_ix 28 = .ok (.ireturn, 1) := by decide +kernel
theorem jt_d_ix_29 : decode jt_c_ix 29 = .ok (.aload_n 0, 1) := by decide +kernel
theorem jt_d_ix_30 : decode jt_c_ix 30 = .ok (.iload_n 1, 1) := by decide +kernel
theorem jt_d_ix_31 : decode jt_c_ix 31 = .ok (.iload_n 2, 1) := by decide +kernel
theorem jt_d_ix_32 : decode jt_c_ix 32 = .ok (.iload_n 3, 1) := by decide +kernel
theorem jt_d_ix_33 : decode jt_c_ix 33 = .ok (.invokestatic 95, 3) := by decide +kernel
theorem jt_d_ix_36 : decode jt_c_ix 36 = .ok (.ireturn, 1) := by decide +kernel
abbrev jt_c_i2 : ByteArray := prog_16_method_80_code
abbrev jt_y_i2 : MethodName := ⟨"java/lang/String", "indexOf", "(II)I"⟩
theorem jt_d_i2_0 : decode jt_c_i2 0 = .ok (.aload_n 0, 1) := by decide +kernel
theorem jt_d_i2_1 : decode jt_c_i2 1 = .ok (.invokevirtual 492, 3) := by decide +kernel
theorem jt_d_i2_4 : decode jt_c_i2 4 = .ok (.ifCond .eq 19, 3) := by decide +kernel
theorem jt_d_i2_7 : decode jt_c_i2 7 = .ok (.aload_n 0, 1) := by decide +kernel
theorem jt_d_i2_8 : decode jt_c_i2 8 = .ok (.getfield 9, 3) := by decide +kernel
theorem jt_d_i2_11 : decode jt_c_i2 11 = .ok (.iload_n 1, 1) := by decide +kernel
theorem jt_d_i2_12 : decode jt_c_i2 12 = .ok (.iload_n 2, 1) := by decide +kernel
theorem jt_d_i2_13 : decode jt_c_i2 13 = .ok (.aload_n 0, 1) := by decide +kernel
theorem jt_d_i2_14 : decode jt_c_i2 14 = .ok (.invokevirtual 505, 3) := by decide +kernel
theorem jt_d_i2_17 : decode jt_c_i2 17 = .ok (.invokestatic 637, 3) := by decide +kernel
theorem jt_d_i2_20 : decode jt_c_i2 20 = .ok (.goto 16, 3) := by decide +kernel
theorem jt_d_i2_23 : decode jt_c_i2 23 = .ok (.aload_n 0, 1) := by decide +kernel
theorem jt_d_i2_24 : decode jt_c_i2 24 = .ok (.getfield 9, 3) := by decide +kernel
theorem jt_d_i2_27 : decode jt_c_i2 27 = .ok (.iload_n 1, 1) := by decide +kernel
theorem jt_d_i2_28 : decode jt_c_i2 28 = .ok (.iload_n 2, 1) := by decide +kernel
theorem jt_d_i2_29 : decode jt_c_i2 29 = .ok (.aload_n 0, 1) := by decide +kernel
theorem jt_d_i2_30 : decode jt_c_i2 30 = .ok (.invokevirtual 505, 3) := by decide +kernel
theorem jt_d_i2_33 : decode jt_c_i2 33 = .ok (.invokestatic 640, 3) := by decide +kernel
theorem jt_d_i2_36 : decode jt_c_i2 36 = .ok (.ireturn, 1) := by decide +kernel
abbrev jt_c_i1 : ByteArray := prog_16_method_79_code
abbrev jt_y_i1 : MethodName := ⟨"java/lang/String", "indexOf", "(I)I"⟩
theorem jt_d_i1_0 : decode jt_c_i1 0 = .ok (.aload_n 0, 1) := by decide +kernel
theorem jt_d_i1_1 : decode jt_c_i1 1 = .ok (.iload_n 1, 1) := by decide +kernel
theorem jt_d_i1_2 : decode jt_c_i1 2 = .ok (.iconst 0, 1) := by decide +kernel
theorem jt_d_i1_3 : decode jt_c_i1 3 = .ok (.invokevirtual 633, 3) := by decide +kernel
theorem jt_d_i1_6 : decode jt_c_i1 6 = .ok (.ireturn, 1) := by decide +kernel
theorem jt_w109 : Cond.initialized "java/lang/String" ∈ gtbl := gt_in 109 (by decide +kernel) rfl
theorem jt_w110 : Cond.initialized "java/lang/StringLatin1" ∈ gtbl := gt_in 110 (by decide +kernel) rfl
theorem jt_w111 : Cond.initialized "jdk/internal/util/Preconditions" ∈ gtbl := gt_in 111 (by decide +kernel) rfl
theorem jt_w121 : Cond.initialized "java/lang/Math" ∈ gtbl := gt_in 121 (by decide +kernel) rfl
theorem jt_w143 : Cond.instanceMethod jt_y_ln ∈ gtbl := gt_in 143 (by decide +kernel) rfl
theorem jt_w144 : Cond.selects "java/lang/String" jt_y_ln jt_y_ln ∈ gtbl := gt_in 144 (by decide +kernel) rfl
theorem jt_w145 : Cond.code jt_y_ln jt_c_ln 1 (some .int) ∈ gtbl := gt_in 145 (by decide +kernel) rfl
theorem jt_w146 : Cond.methodLink "java/lang/String" 335 jt_y_cd ∈ gtbl := gt_in 146 (by decide +kernel) rfl
theorem jt_w147 : Cond.instanceMethod jt_y_cd ∈ gtbl := gt_in 147 (by decide +kernel) rfl
theorem jt_w148 : Cond.selects "java/lang/String" jt_y_cd jt_y_cd ∈ gtbl := gt_in 148 (by decide +kernel) rfl
theorem jt_w149 : Cond.code jt_y_cd jt_c_cd 1 (some .byte) ∈ gtbl := gt_in 149 (by decide +kernel) rfl
theorem jt_w150 : Cond.fieldLink "java/lang/String" 38 "java/lang/String" "COMPACT_STRINGS" "Z" ∈ gtbl := gt_in 150 (by decide +kernel) rfl
theorem jt_w153 : Cond.instanceMethod jt_y_ca ∈ gtbl := gt_in 153 (by decide +kernel) rfl
theorem jt_w154 : Cond.selects "java/lang/String" jt_y_ca jt_y_ca ∈ gtbl := gt_in 154 (by decide +kernel) rfl
theorem jt_w155 : Cond.code jt_y_ca jt_c_ca 2 (some .char) ∈ gtbl := gt_in 155 (by decide +kernel) rfl
theorem jt_w156 : Cond.methodLink "java/lang/String" 492 jt_y_la ∈ gtbl := gt_in 156 (by decide +kernel) rfl
theorem jt_w157 : Cond.instanceMethod jt_y_la ∈ gtbl := gt_in 157 (by decide +kernel) rfl
theorem jt_w158 : Cond.selects "java/lang/String" jt_y_la jt_y_la ∈ gtbl := gt_in 158 (by decide +kernel) rfl
theorem jt_w159 : Cond.code jt_y_la jt_c_la 1 (some .boolean) ∈ gtbl := gt_in 159 (by decide +kernel) rfl
theorem jt_w160 : Cond.methodLink "java/lang/String" 495 jt_y_sc ∈ gtbl := gt_in 160 (by decide +kernel) rfl
theorem jt_w161 : Cond.static jt_y_sc ∈ gtbl := gt_in 161 (by decide +kernel) rfl
theorem jt_w162 : Cond.code jt_y_sc jt_c_sc 2 (some .char) ∈ gtbl := gt_in 162 (by decide +kernel) rfl
theorem jt_w163 : Cond.methodLink "java/lang/StringLatin1" 9 jt_y_ck ∈ gtbl := gt_in 163 (by decide +kernel) rfl
theorem jt_w164 : Cond.static jt_y_ck ∈ gtbl := gt_in 164 (by decide +kernel) rfl
theorem jt_w165 : Cond.code jt_y_ck jt_c_ck 2 none ∈ gtbl := gt_in 165 (by decide +kernel) rfl
theorem jt_w166 : Cond.fieldLink "java/lang/String" 1053 "jdk/internal/util/Preconditions" "SIOOBE_FORMATTER" "Ljava/util/function/BiFunction;" ∈ gtbl := gt_in 166 (by decide +kernel) rfl
theorem jt_w168 : Cond.methodLink "java/lang/String" 1059 jt_y_pc ∈ gtbl := gt_in 168 (by decide +kernel) rfl
theorem jt_w169 : Cond.static jt_y_pc ∈ gtbl := gt_in 169 (by decide +kernel) rfl
theorem jt_w170 : Cond.code jt_y_pc jt_c_pc 3 (some .int) ∈ gtbl := gt_in 170 (by decide +kernel) rfl
theorem jt_w626 : Cond.instanceMethod jt_y_i1 ∈ gtbl := gt_in 626 (by decide +kernel) rfl
theorem jt_w627 : Cond.selects "java/lang/String" jt_y_i1 jt_y_i1 ∈ gtbl := gt_in 627 (by decide +kernel) rfl
theorem jt_w628 : Cond.code jt_y_i1 jt_c_i1 2 (some .int) ∈ gtbl := gt_in 628 (by decide +kernel) rfl
theorem jt_w629 : Cond.methodLink "java/lang/String" 633 jt_y_i2 ∈ gtbl := gt_in 629 (by decide +kernel) rfl
theorem jt_w630 : Cond.instanceMethod jt_y_i2 ∈ gtbl := gt_in 630 (by decide +kernel) rfl
theorem jt_w631 : Cond.selects "java/lang/String" jt_y_i2 jt_y_i2 ∈ gtbl := gt_in 631 (by decide +kernel) rfl
theorem jt_w632 : Cond.code jt_y_i2 jt_c_i2 3 (some .int) ∈ gtbl := gt_in 632 (by decide +kernel) rfl
theorem jt_w633 : Cond.methodLink "java/lang/String" 505 jt_y_ln ∈ gtbl := gt_in 633 (by decide +kernel) rfl
theorem jt_w634 : Cond.methodLink "java/lang/String" 637 jt_y_ix ∈ gtbl := gt_in 634 (by decide +kernel) rfl
theorem jt_w635 : Cond.static jt_y_ix ∈ gtbl := gt_in 635 (by decide +kernel) rfl
theorem jt_w636 : Cond.code jt_y_ix jt_c_ix 4 (some .int) ∈ gtbl := gt_in 636 (by decide +kernel) rfl
theorem jt_w637 : Cond.methodLink "java/lang/StringLatin1" 88 jt_y_en ∈ gtbl := gt_in 637 (by decide +kernel) rfl
theorem jt_w638 : Cond.static jt_y_en ∈ gtbl := gt_in 638 (by decide +kernel) rfl
theorem jt_w639 : Cond.code jt_y_en jt_c_en 1 (some .boolean) ∈ gtbl := gt_in 639 (by decide +kernel) rfl
theorem jt_w640 : Cond.methodLink "java/lang/StringLatin1" 92 Lib.Math.max.name ∈ gtbl := gt_in 640 (by decide +kernel) rfl
theorem jt_w641 : Cond.static Lib.Math.max.name ∈ gtbl := gt_in 641 (by decide +kernel) rfl
theorem jt_w642 : Cond.code Lib.Math.max.name Lib.Math.max.code 2 (some .int) ∈ gtbl := gt_in 642 (by decide +kernel) rfl
theorem jt_w643 : Cond.methodLink "java/lang/StringLatin1" 38 Lib.Math.min.name ∈ gtbl := gt_in 643 (by decide +kernel) rfl
theorem jt_w644 : Cond.static Lib.Math.min.name ∈ gtbl := gt_in 644 (by decide +kernel) rfl
theorem jt_w645 : Cond.code Lib.Math.min.name Lib.Math.min.code 2 (some .int) ∈ gtbl := gt_in 645 (by decide +kernel) rfl
theorem jt_w646 : Cond.methodLink "java/lang/StringLatin1" 95 jt_y_ic ∈ gtbl := gt_in 646 (by decide +kernel) rfl
theorem jt_w647 : Cond.static jt_y_ic ∈ gtbl := gt_in 647 (by decide +kernel) rfl
theorem jt_w648 : Cond.code jt_y_ic jt_c_ic 6 (some .int) ∈ gtbl := gt_in 648 (by decide +kernel) rfl
theorem jt_w1946 : Cond.fieldLink "java/lang/String" 9 "java/lang/String" "value" "[B" ∈ gtbl := gt_in 1946 (by decide +kernel) rfl
theorem jt_w1947 : Cond.fieldLink "java/lang/String" 15 "java/lang/String" "coder" "B" ∈ gtbl := gt_in 1947 (by decide +kernel) rfl

abbrev yJ_bc : MethodName := ⟨"java/lang/Integer", "bitCount", "(I)I"⟩
set_option maxRecDepth 100000 in
theorem kJc_bc : Cond.code yJ_bc prog_15_method_49_code 1 (some .int) ∈ lw_gd := gs_3 61 (by decide +kernel) (by decide +kernel)
theorem kJd_bc : yJ_bc.cls ≠ "java/lang/invoke/MethodHandle" ∧ yJ_bc.cls ≠ "java/lang/invoke/VarHandle" ∧ (parseMethodDescriptor yJ_bc.desc).map (fun d => d.parameters.length) = some 1 := by decide +kernel
abbrev yJ_em : MethodName := ⟨"java/lang/String", "isEmpty", "()Z"⟩
set_option maxRecDepth 100000 in
theorem kJc_em : Cond.code yJ_em prog_17_method_55_code 1 (some .boolean) ∈ lw_gd := gs_5 10 (by decide +kernel) (by decide +kernel)
theorem kJd_em : yJ_em.cls ≠ "java/lang/invoke/MethodHandle" ∧ yJ_em.cls ≠ "java/lang/invoke/VarHandle" ∧ (parseMethodDescriptor yJ_em.desc).map (fun d => d.parameters.length) = some 0 := by decide +kernel
abbrev yJ_le : MethodName := ⟨"java/lang/String", "length", "()I"⟩
set_option maxRecDepth 100000 in
theorem kJc_le : Cond.code yJ_le prog_17_method_54_code 1 (some .int) ∈ lw_gd := gs_5 14 (by decide +kernel) (by decide +kernel)
theorem kJd_le : yJ_le.cls ≠ "java/lang/invoke/MethodHandle" ∧ yJ_le.cls ≠ "java/lang/invoke/VarHandle" ∧ (parseMethodDescriptor yJ_le.desc).map (fun d => d.parameters.length) = some 0 := by decide +kernel
abbrev yJ_co : MethodName := ⟨"java/lang/String", "coder", "()B"⟩
set_option maxRecDepth 100000 in
theorem kJc_co : Cond.code yJ_co prog_17_method_152_code 1 (some .byte) ∈ lw_gd := gs_5 18 (by decide +kernel) (by decide +kernel)
theorem kJd_co : yJ_co.cls ≠ "java/lang/invoke/MethodHandle" ∧ yJ_co.cls ≠ "java/lang/invoke/VarHandle" ∧ (parseMethodDescriptor yJ_co.desc).map (fun d => d.parameters.length) = some 0 := by decide +kernel
abbrev yJ_ca : MethodName := ⟨"java/lang/String", "charAt", "(I)C"⟩
set_option maxRecDepth 100000 in
theorem kJc_ca : Cond.code yJ_ca prog_17_method_56_code 2 (some .char) ∈ lw_gd := gs_5 24 (by decide +kernel) (by decide +kernel)
theorem kJd_ca : yJ_ca.cls ≠ "java/lang/invoke/MethodHandle" ∧ yJ_ca.cls ≠ "java/lang/invoke/VarHandle" ∧ (parseMethodDescriptor yJ_ca.desc).map (fun d => d.parameters.length) = some 1 := by decide +kernel
abbrev yJ_la : MethodName := ⟨"java/lang/String", "isLatin1", "()Z"⟩
set_option maxRecDepth 100000 in
theorem kJc_la : Cond.code yJ_la prog_17_method_154_code 1 (some .boolean) ∈ lw_gd := gs_5 28 (by decide +kernel) (by decide +kernel)
theorem kJd_la : yJ_la.cls ≠ "java/lang/invoke/MethodHandle" ∧ yJ_la.cls ≠ "java/lang/invoke/VarHandle" ∧ (parseMethodDescriptor yJ_la.desc).map (fun d => d.parameters.length) = some 0 := by decide +kernel
abbrev yJ_lc : MethodName := ⟨"java/lang/StringLatin1", "charAt", "([BI)C"⟩
set_option maxRecDepth 100000 in
theorem kJc_lc : Cond.code yJ_lc prog_18_method_2_code 2 (some .char) ∈ lw_gd := gs_5 31 (by decide +kernel) (by decide +kernel)
theorem kJd_lc : yJ_lc.cls ≠ "java/lang/invoke/MethodHandle" ∧ yJ_lc.cls ≠ "java/lang/invoke/VarHandle" ∧ (parseMethodDescriptor yJ_lc.desc).map (fun d => d.parameters.length) = some 2 := by decide +kernel
abbrev yJ_ci : MethodName := ⟨"java/lang/String", "checkIndex", "(II)V"⟩
set_option maxRecDepth 100000 in
theorem kJc_ci : Cond.code yJ_ci prog_17_method_155_code 2 none ∈ lw_gd := gs_5 34 (by decide +kernel) (by decide +kernel)
theorem kJd_ci : yJ_ci.cls ≠ "java/lang/invoke/MethodHandle" ∧ yJ_ci.cls ≠ "java/lang/invoke/VarHandle" ∧ (parseMethodDescriptor yJ_ci.desc).map (fun d => d.parameters.length) = some 2 := by decide +kernel
abbrev yJ_pi : MethodName := ⟨"jdk/internal/util/Preconditions", "checkIndex", "(IILjava/util/function/BiFunction;)I"⟩
set_option maxRecDepth 100000 in
theorem kJc_pi : Cond.code yJ_pi prog_21_method_11_code 3 (some .int) ∈ lw_gd := gs_5 39 (by decide +kernel) (by decide +kernel)
theorem kJd_pi : yJ_pi.cls ≠ "java/lang/invoke/MethodHandle" ∧ yJ_pi.cls ≠ "java/lang/invoke/VarHandle" ∧ (parseMethodDescriptor yJ_pi.desc).map (fun d => d.parameters.length) = some 3 := by decide +kernel
set_option maxRecDepth 100000 in
theorem kJt_bc : Cond.static yJ_bc ∈ lw_gd := gs_3 60 (by decide +kernel) (by decide +kernel)
set_option maxRecDepth 100000 in
theorem kJk_265 : Cond.constant "java/lang/Integer" 265 1431655765 ∈ lw_gd := gs_3 62 (by decide +kernel) (by decide +kernel)
set_option maxRecDepth 100000 in
theorem kJk_266 : Cond.constant "java/lang/Integer" 266 858993459 ∈ lw_gd := gs_3 63 (by decide +kernel) (by decide +kernel)
set_option maxRecDepth 100000 in
theorem kJk_267 : Cond.constant "java/lang/Integer" 267 252645135 ∈ lw_gd := gs_3 64 (by decide +kernel) (by decide +kernel)
set_option maxRecDepth 100000 in
theorem kJi_em : Cond.instanceMethod yJ_em ∈ lw_gd := gs_5 8 (by decide +kernel) (by decide +kernel)
set_option maxRecDepth 100000 in
theorem kJs_em : Cond.selects "java/lang/String" yJ_em yJ_em ∈ lw_gd := gs_5 9 (by decide +kernel) (by decide +kernel)
set_option maxRecDepth 100000 in
theorem kJi_le : Cond.instanceMethod yJ_le ∈ lw_gd := gs_5 12 (by decide +kernel) (by decide +kernel)
set_option maxRecDepth 100000 in
theorem kJs_le : Cond.selects "java/lang/String" yJ_le yJ_le ∈ lw_gd := gs_5 13 (by decide +kernel) (by decide +kernel)
set_option maxRecDepth 100000 in
theorem kJl_co : Cond.methodLink "java/lang/String" 335 yJ_co ∈ lw_gd := gs_5 15 (by decide +kernel) (by decide +kernel)
set_option maxRecDepth 100000 in
theorem kJi_co : Cond.instanceMethod yJ_co ∈ lw_gd := gs_5 16 (by decide +kernel) (by decide +kernel)
set_option maxRecDepth 100000 in
theorem kJs_co : Cond.selects "java/lang/String" yJ_co yJ_co ∈ lw_gd := gs_5 17 (by decide +kernel) (by decide +kernel)
set_option maxRecDepth 100000 in
theorem kJf_COMPACT_STRINGS : Cond.fieldLink "java/lang/String" 38 "java/lang/String" "COMPACT_STRINGS" "Z" ∈ lw_gd := gs_5 19 (by decide +kernel) (by decide +kernel)
set_option maxRecDepth 100000 in
theorem kJi_ca : Cond.instanceMethod yJ_ca ∈ lw_gd := gs_5 22 (by decide +kernel) (by decide +kernel)
set_option maxRecDepth 100000 in
theorem kJs_ca : Cond.selects "java/lang/String" yJ_ca yJ_ca ∈ lw_gd := gs_5 23 (by decide +kernel) (by decide +kernel)
set_option maxRecDepth 100000 in
theorem kJl_la : Cond.methodLink "java/lang/String" 492 yJ_la ∈ lw_gd := gs_5 25 (by decide +kernel) (by decide +kernel)
set_option maxRecDepth 100000 in
theorem kJi_la : Cond.instanceMethod yJ_la ∈ lw_gd := gs_5 26 (by decide +kernel) (by decide +kernel)
set_option maxRecDepth 100000 in
theorem kJs_la : Cond.selects "java/lang/String" yJ_la yJ_la ∈ lw_gd := gs_5 27 (by decide +kernel) (by decide +kernel)
set_option maxRecDepth 100000 in
theorem kJl_lc : Cond.methodLink "java/lang/String" 495 yJ_lc ∈ lw_gd := gs_5 29 (by decide +kernel) (by decide +kernel)
set_option maxRecDepth 100000 in
theorem kJt_lc : Cond.static yJ_lc ∈ lw_gd := gs_5 30 (by decide +kernel) (by decide +kernel)
set_option maxRecDepth 100000 in
theorem kJl_ci : Cond.methodLink "java/lang/StringLatin1" 9 yJ_ci ∈ lw_gd := gs_5 32 (by decide +kernel) (by decide +kernel)
set_option maxRecDepth 100000 in
theorem kJt_ci : Cond.static yJ_ci ∈ lw_gd := gs_5 33 (by decide +kernel) (by decide +kernel)
set_option maxRecDepth 100000 in
theorem kJf_SIOOBE_FORMATTER : Cond.fieldLink "java/lang/String" 1053 "jdk/internal/util/Preconditions" "SIOOBE_FORMATTER" "Ljava/util/function/BiFunction;" ∈ lw_gd := gs_5 35 (by decide +kernel) (by decide +kernel)
set_option maxRecDepth 100000 in
theorem kJl_pi : Cond.methodLink "java/lang/String" 1059 yJ_pi ∈ lw_gd := gs_5 37 (by decide +kernel) (by decide +kernel)
set_option maxRecDepth 100000 in
theorem kJt_pi : Cond.static yJ_pi ∈ lw_gd := gs_5 38 (by decide +kernel) (by decide +kernel)
set_option maxRecDepth 100000 in
theorem kJf_value : Cond.fieldLink "java/lang/String" 9 "java/lang/String" "value" "[B" ∈ lw_gd := gs_7 215 (by decide +kernel) (by decide +kernel)
set_option maxRecDepth 100000 in
theorem kJf_coder : Cond.fieldLink "java/lang/String" 15 "java/lang/String" "coder" "B" ∈ lw_gd := gs_7 216 (by decide +kernel) (by decide +kernel)
set_option maxRecDepth 100000 in
theorem kJN_Pre : Cond.initialized "jdk/internal/util/Preconditions" ∈ lw_gd := gs_1 19 (by decide +kernel) (by decide +kernel)
theorem dJ_bc_0 : decode prog_15_method_49_code 0 = .ok (.iload_n 0, 1) := by decide +kernel
theorem dJ_bc_1 : decode prog_15_method_49_code 1 = .ok (.iload_n 0, 1) := by decide +kernel
theorem dJ_bc_2 : decode prog_15_method_49_code 2 = .ok (.iconst 1, 1) := by decide +kernel
theorem dJ_bc_3 : decode prog_15_method_49_code 3 = .ok (.iushr, 1) := by decide +kernel
theorem dJ_bc_4 : decode prog_15_method_49_code 4 = .ok (.ldc_w 265, 3) := by decide +kernel
theorem dJ_bc_7 : decode prog_15_method_49_code 7 = .ok (.iand, 1) := by decide +kernel
theorem dJ_bc_8 : decode prog_15_method_49_code 8 = .ok (.isub, 1) := by decide +kernel
theorem dJ_bc_9 : decode prog_15_method_49_code 9 = .ok (.istore_n 0, 1) := by decide +kernel
theorem dJ_bc_10 : decode prog_15_method_49_code 10 = .ok (.iload_n 0, 1) := by decide +kernel
theorem dJ_bc_11 : decode prog_15_method_49_code 11 = .ok (.ldc_w 266, 3) := by decide +kernel
theorem dJ_bc_14 : decode prog_15_method_49_code 14 = .ok (.iand, 1) := by decide +kernel
theorem dJ_bc_15 : decode prog_15_method_49_code 15 = .ok (.iload_n 0, 1) := by decide +kernel
theorem dJ_bc_16 : decode prog_15_method_49_code 16 = .ok (.iconst 2, 1) := by decide +kernel
theorem dJ_bc_17 : decode prog_15_method_49_code 17 = .ok (.iushr, 1) := by decide +kernel
theorem dJ_bc_18 : decode prog_15_method_49_code 18 = .ok (.ldc_w 266, 3) := by decide +kernel
theorem dJ_bc_21 : decode prog_15_method_49_code 21 = .ok (.iand, 1) := by decide +kernel
theorem dJ_bc_22 : decode prog_15_method_49_code 22 = .ok (.iadd, 1) := by decide +kernel
theorem dJ_bc_23 : decode prog_15_method_49_code 23 = .ok (.istore_n 0, 1) := by decide +kernel
theorem dJ_bc_24 : decode prog_15_method_49_code 24 = .ok (.iload_n 0, 1) := by decide +kernel
theorem dJ_bc_25 : decode prog_15_method_49_code 25 = .ok (.iload_n 0, 1) := by decide +kernel
theorem dJ_bc_26 : decode prog_15_method_49_code 26 = .ok (.iconst 4, 1) := by decide +kernel
theorem dJ_bc_27 : decode prog_15_method_49_code 27 = .ok (.iushr, 1) := by decide +kernel
theorem dJ_bc_28 : decode prog_15_method_49_code 28 = .ok (.iadd, 1) := by decide +kernel
theorem dJ_bc_29 : decode prog_15_method_49_code 29 = .ok (.ldc_w 267, 3) := by decide +kernel
theorem dJ_bc_32 : decode prog_15_method_49_code 32 = .ok (.iand, 1) := by decide +kernel
theorem dJ_bc_33 : decode prog_15_method_49_code 33 = .ok (.istore_n 0, 1) := by decide +kernel
theorem dJ_bc_34 : decode prog_15_method_49_code 34 = .ok (.iload_n 0, 1) := by decide +kernel
theorem dJ_bc_35 : decode prog_15_method_49_code 35 = .ok (.iload_n 0, 1) := by decide +kernel
theorem dJ_bc_36 : decode prog_15_method_49_code 36 = .ok (.bipush 8, 2) := by decide +kernel
theorem dJ_bc_38 : decode prog_15_method_49_code 38 = .ok (.iushr, 1) := by decide +kernel
theorem dJ_bc_39 : decode prog_15_method_49_code 39 = .ok (.iadd, 1) := by decide +kernel
theorem dJ_bc_40 : decode prog_15_method_49_code 40 = .ok (.istore_n 0, 1) := by decide +kernel
theorem dJ_bc_41 : decode prog_15_method_49_code 41 = .ok (.iload_n 0, 1) := by decide +kernel
theorem dJ_bc_42 : decode prog_15_method_49_code 42 = .ok (.iload_n 0, 1) := by decide +kernel
theorem dJ_bc_43 : decode prog_15_method_49_code 43 = .ok (.bipush 16, 2) := by decide +kernel
theorem dJ_bc_45 : decode prog_15_method_49_code 45 = .ok (.iushr, 1) := by decide +kernel
theorem dJ_bc_46 : decode prog_15_method_49_code 46 = .ok (.iadd, 1) := by decide +kernel
theorem dJ_bc_47 : decode prog_15_method_49_code 47 = .ok (.istore_n 0, 1) := by decide +kernel
theorem dJ_bc_48 : decode prog_15_method_49_code 48 = .ok (.iload_n 0, 1) := by decide +kernel
theorem dJ_bc_49 : decode prog_15_method_49_code 49 = .ok (.bipush 63, 2) := by decide +kernel
theorem dJ_bc_51 : decode prog_15_method_49_code 51 = .ok (.iand, 1) := by decide +kernel
theorem dJ_bc_52 : decode prog_15_method_49_code 52 = .ok (.ireturn, 1) := by decide +kernel
theorem dJ_em_0 : decode prog_17_method_55_code 0 = .ok (.aload_n 0, 1) := by decide +kernel
theorem dJ_em_1 : decode prog_17_method_55_code 1 = .ok (.getfield 9, 3) := by decide +kernel
theorem dJ_em_4 : decode prog_17_method_55_code 4 = .ok (.arraylength, 1) := by decide +kernel
theorem dJ_em_5 : decode prog_17_method_55_code 5 = .ok (.ifCond .ne 7, 3) := by decide +kernel
theorem dJ_em_8 : decode prog_17_method_55_code 8 = .ok (.iconst 1, 1) := by decide +kernel
theorem dJ_em_9 : decode prog_17_method_55_code 9 = .ok (.goto 4, 3) := by decide +kernel
theorem dJ_em_12 : decode prog_17_method_55_code 12 = .ok (.iconst 0, 1) := by decide +kernel
theorem dJ_em_13 : decode prog_17_method_55_code 13 = .ok (.ireturn, 1) := by decide +kernel
theorem dJ_le_0 : decode prog_17_method_54_code 0 = .ok (.aload_n 0, 1) := by decide +kernel
theorem dJ_le_1 : decode prog_17_method_54_code 1 = .ok (.getfield 9, 3) := by decide +kernel
theorem dJ_le_4 : decode prog_17_method_54_code 4 = .ok (.arraylength, 1) := by decide +kernel
theorem dJ_le_5 : decode prog_17_method_54_code 5 = .ok (.aload_n 0, 1) := by decide +kernel
theorem dJ_le_6 : decode prog_17_method_54_code 6 = .ok (.invokevirtual 335, 3) := by decide +kernel
theorem dJ_le_9 : decode prog_17_method_54_code 9 = .ok (.ishr, 1) := by decide +kernel
theorem dJ_le_10 : decode prog_17_method_54_code 10 = .ok (.ireturn, 1) := by decide +kernel
theorem dJ_co_0 : decode prog_17_method_152_code 0 = .ok (.getstatic 38, 3) := by decide +kernel
theorem dJ_co_3 : decode prog_17_method_152_code 3 = .ok (.ifCond .eq 10, 3) := by decide +kernel
theorem dJ_co_6 : decode prog_17_method_152_code 6 = .ok (.aload_n 0, 1) := by decide +kernel
theorem dJ_co_7 : decode prog_17_method_152_code 7 = .ok (.getfield 15, 3) := by decide +kernel
theorem dJ_co_10 : decode prog_17_method_152_code 10 = .ok (.goto 4, 3) := by decide +kernel
theorem dJ_co_13 : decode prog_17_method_152_code 13 = .ok (.iconst 1, 1) := by decide +kernel
theorem dJ_co_14 : decode prog_17_method_152_code 14 = .ok (.ireturn, 1) := by decide +kernel
theorem dJ_ca_0 : decode prog_17_method_56_code 0 = .ok (.aload_n 0, 1) := by decide +kernel
theorem dJ_ca_1 : decode prog_17_method_56_code 1 = .ok (.invokevirtual 492, 3) := by decide +kernel
theorem dJ_ca_4 : decode prog_17_method_56_code 4 = .ok (.ifCond .eq 12, 3) := by decide +kernel
theorem dJ_ca_7 : decode prog_17_method_56_code 7 = .ok (.aload_n 0, 1) := by decide +kernel
theorem dJ_ca_8 : decode prog_17_method_56_code 8 = .ok (.getfield 9, 3) := by decide +kernel
theorem dJ_ca_11 : decode prog_17_method_56_code 11 = .ok (.iload_n 1, 1) := by decide +kernel
theorem dJ_ca_12 : decode prog_17_method_56_code 12 = .ok (.invokestatic 495, 3) := by decide +kernel
theorem dJ_ca_15 : decode prog_17_method_56_code 15 = .ok (.ireturn, 1) := by decide +kernel
theorem dJ_ca_16 : decode prog_17_method_56_code 16 = .ok (.aload_n 0, 1) := by decide +kernel
theorem dJ_ca_17 : decode prog_17_method_56_code 17 = .ok (.getfield 9, 3) := by decide +kernel
theorem dJ_ca_20 : decode prog_17_method_56_code 20 = .ok (.iload_n 1, 1) := by decide +kernel
theorem dJ_ca_21 : decode prog_17_method_56_code 21 = .ok (.invokestatic 498, 3) := by decide +kernel
theorem dJ_ca_24 : decode prog_17_method_56_code 24 = .ok (.ireturn, 1) := by decide +kernel
theorem dJ_la_0 : decode prog_17_method_154_code 0 = .ok (.getstatic 38, 3) := by decide +kernel
theorem dJ_la_3 : decode prog_17_method_154_code 3 = .ok (.ifCond .eq 14, 3) := by decide +kernel
theorem dJ_la_6 : decode prog_17_method_154_code 6 = .ok (.aload_n 0, 1) := by decide +kernel
theorem dJ_la_7 : decode prog_17_method_154_code 7 = .ok (.getfield 15, 3) := by decide +kernel
theorem dJ_la_10 : decode prog_17_method_154_code 10 = .ok (.ifCond .ne 7, 3) := by decide +kernel
theorem dJ_la_13 : decode prog_17_method_154_code 13 = .ok (.iconst 1, 1) := by decide +kernel
theorem dJ_la_14 : decode prog_17_method_154_code 14 = .ok (.goto 4, 3) := by decide +kernel
theorem dJ_la_17 : decode prog_17_method_154_code 17 = .ok (.iconst 0, 1) := by decide +kernel
theorem dJ_la_18 : decode prog_17_method_154_code 18 = .ok (.ireturn, 1) := by decide +kernel
theorem dJ_lc_0 : decode prog_18_method_2_code 0 = .ok (.iload_n 1, 1) := by decide +kernel
theorem dJ_lc_1 : decode prog_18_method_2_code 1 = .ok (.aload_n 0, 1) := by decide +kernel
theorem dJ_lc_2 : decode prog_18_method_2_code 2 = .ok (.arraylength, 1) := by decide +kernel
theorem dJ_lc_3 : decode prog_18_method_2_code 3 = .ok (.invokestatic 9, 3) := by decide +kernel
theorem dJ_lc_6 : decode prog_18_method_2_code 6 = .ok (.aload_n 0, 1) := by decide +kernel
theorem dJ_lc_7 : decode prog_18_method_2_code 7 = .ok (.iload_n 1, 1) := by decide +kernel
theorem dJ_lc_8 : decode prog_18_method_2_code 8 = .ok (.baload, 1) := by decide +kernel
theorem dJ_lc_9 : decode prog_18_method_2_code 9 = .ok (.sipush 255, 3) := by decide +kernel
theorem dJ_lc_12 : decode prog_18_method_2_code 12 = .ok (.iand, 1) := by decide +kernel
theorem dJ_lc_13 : decode prog_18_method_2_code 13 = .ok (.i2c, 1) := by decide +kernel
theorem dJ_lc_14 : decode prog_18_method_2_code 14 = .ok (.ireturn, 1) := by decide +kernel
theorem dJ_ci_0 : decode prog_17_method_155_code 0 = .ok (.iload_n 0, 1) := by decide +kernel
theorem dJ_ci_1 : decode prog_17_method_155_code 1 = .ok (.iload_n 1, 1) := by decide +kernel
theorem dJ_ci_2 : decode prog_17_method_155_code 2 = .ok (.getstatic 1053, 3) := by decide +kernel
theorem dJ_ci_5 : decode prog_17_method_155_code 5 = .ok (.invokestatic 1059, 3) := by decide +kernel
theorem dJ_ci_8 : decode prog_17_method_155_code 8 = .ok (.pop, 1) := by decide +kernel
theorem dJ_ci_9 : decode prog_17_method_155_code 9 = .ok (.return_, 1) := by decide +kernel
theorem dJ_pi_0 : decode prog_21_method_11_code 0 = .ok (.iload_n 0, 1) := by decide +kernel
theorem dJ_pi_1 : decode prog_21_method_11_code 1 = .ok (.ifCond .lt 8, 3) := by decide +kernel
theorem dJ_pi_4 : decode prog_21_method_11_code 4 = .ok (.iload_n 0, 1) := by decide +kernel
theorem dJ_pi_5 : decode prog_21_method_11_code 5 = .ok (.iload_n 1, 1) := by decide +kernel
theorem dJ_pi_6 : decode prog_21_method_11_code 6 = .ok (.if_icmp .lt 10, 3) := by decide +kernel
theorem dJ_pi_9 : decode prog_21_method_11_code 9 = .ok (.aload_n 2, 1) := by decide +kernel
theorem dJ_pi_10 : decode prog_21_method_11_code 10 = .ok (.iload_n 0, 1) := by decide +kernel
theorem dJ_pi_11 : decode prog_21_method_11_code 11 = .ok (.iload_n 1, 1) := by decide +kernel
theorem dJ_pi_12 : decode prog_21_method_11_code 12 = .ok (.invokestatic 95, 3) := by decide +kernel
theorem dJ_pi_15 : decode prog_21_method_11_code 15 = .ok (.athrow, 1) := by decide +kernel
theorem dJ_pi_16 : decode prog_21_method_11_code 16 = .ok (.iload_n 0, 1) := by decide +kernel
theorem dJ_pi_17 : decode prog_21_method_11_code 17 = .ok (.ireturn, 1) := by decide +kernel
section RJ2
variable {p : Program} {l : Launch} {e : Env} {R : Room} {s : State} {m : MethodId} {args : Array Value} {below : List Frame} {meth : Method} {c : Code} {cells slots : Nat} {Qs : State → Prop}
variable {D : va_G} {aC : Nat → ClassId} {ad : Nat → Nat} {nL : Nat} {cc : ByteArray} {own : String} {fr lo : Nat} {ret : Option FieldType}
variable {pc : Nat} {L : List (Nat × RV)} {S : List RV} {M : Mem}
theorem r_ldcw (hC : rC p R s m args meth c cells slots D aC ad nL cc own fr lo ret) {i : Nat} {v : Int32} (z : Int) (d : decode cc pc = .ok (.ldc_w i, 3)) (hw : Cond.constant own i v ∈ lw_gd) (h1 : v = Int32.ofInt z) (k : rG p l e R s m args below meth c cells slots Qs D aC ad nL (pc + 3) L (vI z :: S) M) : rG p l e R s m args below meth c cells slots Qs D aC ad nL pc L S M := by
  intro H locs ls hP hO hS hl
  subst h1
  exact lv_ldcw hC.1 hC.2.1 hC.2.2.2.1 (hC.2.2.2.2.1 _ hw) d (k H locs ls hP hO hS hl)
/-- a String's bytes, its coder; the length and a place of the bytes -/
theorem r_sval (hC : rC p R s m args meth c cells slots D aC ad nL cc "java/lang/String" fr lo ret) {i : Nat} (hi : i < nStr) (d : decode cc pc = .ok (.getfield 9, 3)) (k : rG p l e R s m args below meth c cells slots Qs D aC ad nL (pc + 3) L (vR (231 + i) :: S) M) : rG p l e R s m args below meth c cells slots Qs D aC ad nL pc L (vR (211 + i) :: S) M := by
  intro H locs ls hP hO hS hl
  exact vk_getf hC.1 hC.2.1 (hC.2.2.2.2.2.2.2.1.2.2.1.1 i hi).2.2.1 hS hC.2.2.2.1 (hC.2.2.2.2.1 _ kJf_value) (fun _ h => h) d (k H locs ls hP hO hS hl)
theorem r_scod (hC : rC p R s m args meth c cells slots D aC ad nL cc "java/lang/String" fr lo ret) {i : Nat} (hi : i < nStr) (d : decode cc pc = .ok (.getfield 15, 3)) (k : rG p l e R s m args below meth c cells slots Qs D aC ad nL (pc + 3) L (vI 0 :: S) M) : rG p l e R s m args below meth c cells slots Qs D aC ad nL pc L (vR (211 + i) :: S) M := by
  intro H locs ls hP hO hS hl
  exact vk_getf hC.1 hC.2.1 (hC.2.2.2.2.2.2.2.1.2.2.1.1 i hi).2.1 hS hC.2.2.2.1 (hC.2.2.2.2.1 _ kJf_coder) (fun _ h => h) d (k H locs ls hP hO hS hl)
theorem r_scpt (hC : rC p R s m args meth c cells slots D aC ad nL cc "java/lang/String" fr lo ret) (d : decode cc pc = .ok (.getstatic 38, 3)) (k : rG p l e R s m args below meth c cells slots Qs D aC ad nL (pc + 3) L (vI 1 :: S) M) : rG p l e R s m args below meth c cells slots Qs D aC ad nL pc L S M := by
  intro H locs ls hP hO hS hl
  exact va_gets hC.1 hC.2.1 hC.2.2.2.2.2.2.2.1.2.2.2.2.1 hS hC.2.2.2.1 (hC.2.2.2.2.1 _ kJf_COMPACT_STRINGS) (fun _ h => h) d (k H locs ls hP hO hS hl)
theorem r_sblen (hC : rC p R s m args meth c cells slots D aC ad nL cc own fr lo ret) {i : Nat} (hi : i < nStr) (d : decode cc pc = .ok (.arraylength, 1)) (k : rG p l e R s m args below meth c cells slots Qs D aC ad nL (pc + 1) L (vI (strLen.getD i 0 : Nat) :: S) M) : rG p l e R s m args below meth c cells slots Qs D aC ad nL pc L (vR (231 + i) :: S) M := by
  intro H locs ls hP hO hS hl
  exact va_tlen hC.1 hC.2.1 (hC.2.2.2.2.2.2.2.1.2.2.1.1 i hi).2.2.2 hS (v := Int32.ofInt (strLen.getD i 0 : Nat)) Int32.ofInt_eq_ofNat.symm d (k H locs ls hP hO hS hl)
theorem r_sbald (hC : rC p R s m args meth c cells slots D aC ad nL cc own fr lo ret) {i : Nat} {j : Int} (hi : i < nStr) (h1 : 0 ≤ j) (h2 : j < (strLen.getD i 0 : Nat)) (hn : strLen.getD i 0 ≤ 2147483647) (d : decode cc pc = .ok (.baload, 1)) (k : rG p l e R s m args below meth c cells slots Qs D aC ad nL (pc + 1) L (vI ((strByt.getD i []).getD j.toNat 0).toInt :: S) M) : rG p l e R s m args below meth c cells slots Qs D aC ad nL pc L (vI j :: vR (231 + i) :: S) M := by
  intro H locs ls hP hO hS hl
  exact va_tb hC.1 hC.2.1 (hC.2.2.2.2.2.2.2.1.2.2.1.1 i hi).2.2.2 hS (i_in h1 h2 hn) (v := .int (Int32.ofInt ((strByt.getD i []).getD j.toNat 0).toInt)) (by rw [i_clamp h1 (by omega), i_back]) d (k H locs ls hP hO hS hl)
theorem r_i2c (hC : rC p R s m args meth c cells slots D aC ad nL cc own fr lo ret) {z : Int} (h1 : 0 ≤ z) (h2 : z < 65536) (d : decode cc pc = .ok (.i2c, 1)) (k : rG p l e R s m args below meth c cells slots Qs D aC ad nL (pc + 1) L (vI z :: S) M) : rG p l e R s m args below meth c cells slots Qs D aC ad nL pc L (vI z :: S) M := by
  intro H locs ls hP hO hS hl
  have e1 := i_toInt (z := z) (by omega) (by omega)
  exact lv_i2c hC.1 hC.2.1 d (lg_i2c_word (by rw [e1]; exact h1) (by rw [e1]; exact h2)) (k H locs ls hP hO hS hl)
theorem r_nret {ty : FieldType} {Post : Option RV → Mem → Prop} {z : Int} (hC : rC p R s m args meth c cells slots D aC ad nL cc own fr lo (some ty)) (hn : narrow ty (.int (Int32.ofInt z)) = .int (Int32.ofInt z)) (d : decode cc pc = .ok (.ireturn, 1)) (hp : Post (some (vI z)) M) : rG p l e R s m args below meth c cells slots (MQ below (dQ D aC ad Post) args s cells slots (Adr ad)) D aC ad nL pc L [vI z] M := by
  intro H locs ls hP hO hS hl
  obtain ⟨hx, hb, -, -, -, -, -, -, hr, hlk, -⟩ := hC
  exact W.zret hx hb hr hn (fun t ht hW => ⟨⟨some (vI z), M, rfl, hp, by rw [ht]; exact hP, hO⟩, hS.F ht⟩) hS.2.2 d hlk
/-- a call of a String's own method -/
theorem r_callVS (hC : rC p R s m args meth c cells slots D aC ad nL cc own fr lo ret) {y : MethodName} {cc' : ByteArray} {maxL' fr' lo' i idx : Nat} {ret' : Option FieldType} {av : List RV} {Post : Option RV → Mem → Prop} (hi : i < nStr)
    (hD : Does l D aC ad y cc' maxL' ret' fr' lo' (vR (211 + i) :: av) M Post) (kc : Cond.code y cc' maxL' ret' ∈ lw_gd) (km : Cond.methodLink own idx y ∈ lw_gd) (kI : Cond.instanceMethod y ∈ lw_gd) (kS : Cond.selects "java/lang/String" y y ∈ lw_gd) (kN : Cond.initialized y.cls ∈ lw_gd)
    (hd : y.cls ≠ "java/lang/invoke/MethodHandle" ∧ y.cls ≠ "java/lang/invoke/VarHandle" ∧ (parseMethodDescriptor y.desc).map (fun d => d.parameters.length) = some av.length) (hroom : fr' + 1 ≤ fr ∧ 8 + (maxL' + 11) + lo' ≤ lo) {S0 : List RV} (hst : av.reverse ++ vR (211 + i) :: S = S0) (hw : wid S ≤ 8) (d : decode cc pc = .ok (.invokevirtual idx, 3))
    (k : ∀ (r : Option RV) (M' : Mem), Post r M' → rG p l e R s m args below meth c cells slots Qs D aC ad nL (pc + 3) L (r.toList ++ S) M') : rG p l e R s m args below meth c cells slots Qs D aC ad nL pc L S0 M := by
  intro H locs ls hP hO hS hl
  subst hst
  have hrm := hC.2.2.2.2.2.2.2.2.2.2
  refine r_go (rest := S.map (cV ad)) (Post := Post) (va_runV (C := "java/lang/String") (b := ad (211 + i)) (As := av.map (cV ad)) (n := av.length) (Ts := lw_gd) (own := own) (nL := nL) ⟨hC.1, hC.2.1, hC.2.2.1, hC.2.2.2.1, hC.2.2.2.2.1⟩ hD
    ⟨callB_of av.length hC.2.2.2.2.1 (gd_in_code kc) rfl rfl rfl (hC.2.2.2.2.1 _ kN) (hC.2.2.2.2.1 _ km) hd ⟨Nat.le_trans hroom.1 hrm.1, Nat.le_trans hroom.2 hrm.2.1⟩, hC.2.2.2.2.1 _ kI, hC.2.2.2.2.1 _ kS⟩
    ⟨dP_blind, vk_recv (i := i) (adK := fun i => ad (211 + i)) hC.2.2.2.2.2.2.2.1.2.2.1 hi hS, fun U hU hW => dP_at hC hP hO hS U hU hW⟩ rfl (by simp) hl.1 (by simp [cV]) (lv_room (by rw [cat_sum]; exact hw)) d ⟨hrm.2.2.1, hrm.2.2.2⟩) hS (fun r M' H1 locs1 hp hP1 hO1 hS1 => ?_)
  have := k r M' hp H1 locs1 ls hP1 hO1 hS1 hl
  cases r with
  | none => exact this
  | some v => exact this
theorem d_Jbc {x : Int} : Does l D aC ad yJ_bc prog_15_method_49_code 1 (some .int) 0 0 [vI x] M (fun r N => N = M ∧ r = some (vI (bAnd (sw5 (sw4 (sw3 (sw2 (sw1 x))))) 63))) := by
  refine Does.of (by decide) (by simp [wid, isJ]) fun p e R s m args below meth c hC => ?_
  refine r_iload_n hC dJ_bc_0 rfl rfl ?_
  refine r_iload_n hC dJ_bc_1 rfl rfl ?_
  refine r_iconst hC dJ_bc_2 ?_
  refine r_iushr hC dJ_bc_3 ?_
  refine r_ldcw hC 1431655765 dJ_bc_4 kJk_265 (by decide) ?_
  refine r_iand hC dJ_bc_7 ?_
  refine r_isub hC dJ_bc_8 ?_
  refine r_istore_n hC dJ_bc_9 rfl (by decide) ?_
  refine r_iload_n hC dJ_bc_10 rfl rfl ?_
  refine r_ldcw hC 858993459 dJ_bc_11 kJk_266 (by decide) ?_
  refine r_iand hC dJ_bc_14 ?_
  refine r_iload_n hC dJ_bc_15 rfl rfl ?_
  refine r_iconst hC dJ_bc_16 ?_
  refine r_iushr hC dJ_bc_17 ?_
  refine r_ldcw hC 858993459 dJ_bc_18 kJk_266 (by decide) ?_
  refine r_iand hC dJ_bc_21 ?_
  refine r_iadd hC dJ_bc_22 ?_
  refine r_istore_n hC dJ_bc_23 rfl (by decide) ?_
  refine r_iload_n hC dJ_bc_24 rfl rfl ?_
  refine r_iload_n hC dJ_bc_25 rfl rfl ?_
  refine r_iconst hC dJ_bc_26 ?_
  refine r_iushr hC dJ_bc_27 ?_
  refine r_iadd hC dJ_bc_28 ?_
  refine r_ldcw hC 252645135 dJ_bc_29 kJk_267 (by decide) ?_
  refine r_iand hC dJ_bc_32 ?_
  refine r_istore_n hC dJ_bc_33 rfl (by decide) ?_
  refine r_iload_n hC dJ_bc_34 rfl rfl ?_
  refine r_iload_n hC dJ_bc_35 rfl rfl ?_
  refine r_bipush hC dJ_bc_36 (by decide) ?_
  refine r_iushr hC dJ_bc_38 ?_
  refine r_iadd hC dJ_bc_39 ?_
  refine r_istore_n hC dJ_bc_40 rfl (by decide) ?_
  refine r_iload_n hC dJ_bc_41 rfl rfl ?_
  refine r_iload_n hC dJ_bc_42 rfl rfl ?_
  refine r_bipush hC dJ_bc_43 (by decide) ?_
  refine r_iushr hC dJ_bc_45 ?_
  refine r_iadd hC dJ_bc_46 ?_
  refine r_istore_n hC dJ_bc_47 rfl (by decide) ?_
  refine r_iload_n hC dJ_bc_48 rfl rfl ?_
  refine r_bipush hC dJ_bc_49 (by decide) ?_
  refine r_iand hC dJ_bc_51 ?_
  exact r_iret hC dJ_bc_52 ⟨rfl, rfl⟩
theorem d_Jem {i : Nat} (hi : i < nStr) (hn : strLen.getD i 0 ≤ 2147483647) : Does l D aC ad yJ_em prog_17_method_55_code 1 (some .boolean) 0 0 [vR (211 + i)] M (fun r N => N = M ∧ r = some (vI (if strLen.getD i 0 = 0 then 1 else 0))) := by
  refine Does.of (by decide) (by simp [wid, isJ]) fun p e R s m args below meth c hC => ?_
  refine r_aload_n hC dJ_em_0 rfl rfl ?_
  refine r_sval hC hi dJ_em_1 ?_
  refine r_sblen hC hi dJ_em_4 ?_
  refine r_if_ne hC 12 dJ_em_5 rfl (by omega) (by omega) (fun h => ?_) (fun h => ?_)
  · refine r_iconst hC dJ_em_12 ?_
    exact r_zret hC dJ_em_13 (by decide) (by decide) ⟨rfl, by rw [if_neg (by omega)]⟩
  · refine r_iconst hC dJ_em_8 ?_
    refine r_goto hC 13 dJ_em_9 rfl ?_
    exact r_zret hC dJ_em_13 (by decide) (by decide) ⟨rfl, by rw [if_pos (by omega)]⟩
theorem d_Jco {i : Nat} (hi : i < nStr) : Does l D aC ad yJ_co prog_17_method_152_code 1 (some .byte) 0 0 [vR (211 + i)] M (fun r N => N = M ∧ r = some (vI 0)) := by
  refine Does.of (by decide) (by simp [wid, isJ]) fun p e R s m args below meth c hC => ?_
  refine r_scpt hC dJ_co_0 ?_
  refine r_if_eq hC 13 dJ_co_3 rfl (by decide) (by decide) (fun h => absurd h (by decide)) (fun h => ?_)
  refine r_aload_n hC dJ_co_6 rfl rfl ?_
  refine r_scod hC hi dJ_co_7 ?_
  refine r_goto hC 14 dJ_co_10 rfl ?_
  exact r_nret hC (by decide) dJ_co_14 ⟨rfl, rfl⟩
theorem sh0 (z : Int) (h1 : 0 ≤ z) (h2 : z ≤ 2147483647) : bShr z 0 = z := by
  unfold bShr
  have e1 : (Int32.ofInt 0 &&& 31 : Int32) = 0 := by decide
  rw [e1]
  have e2 : (Int32.ofInt z >>> (0 : Int32)) = Int32.ofInt z := by simp
  rw [e2, i_toInt (by omega) h2]
theorem d_Jle {i : Nat} (hi : i < nStr) (hn : strLen.getD i 0 ≤ 2147483647) : Does l D aC ad yJ_le prog_17_method_54_code 1 (some .int) 1 20 [vR (211 + i)] M (fun r N => N = M ∧ r = some (vI (strLen.getD i 0 : Nat))) := by
  refine Does.of (by decide) (by simp [wid, isJ]) fun p e R s m args below meth c hC => ?_
  refine r_aload_n hC dJ_le_0 rfl rfl ?_
  refine r_sval hC hi dJ_le_1 ?_
  refine r_sblen hC hi dJ_le_4 ?_
  refine r_aload_n hC dJ_le_5 rfl rfl ?_
  refine r_callVS (S := [vI (strLen.getD i 0 : Nat)]) (av := []) hC hi (d_Jco hi) kJc_co kJl_co kJi_co kJs_co kJN_String kJd_co (by decide) rfl (by show 1 ≤ 8; decide) dJ_le_6 (fun r N ⟨e1, e2⟩ => ?_)
  subst e1; subst e2
  refine r_ishr hC dJ_le_9 ?_
  rw [sh0 _ (by omega) (by omega)]
  exact r_iret hC dJ_le_10 ⟨rfl, rfl⟩
theorem d_Jla {i : Nat} (hi : i < nStr) : Does l D aC ad yJ_la prog_17_method_154_code 1 (some .boolean) 0 0 [vR (211 + i)] M (fun r N => N = M ∧ r = some (vI 1)) := by
  refine Does.of (by decide) (by simp [wid, isJ]) fun p e R s m args below meth c hC => ?_
  refine r_scpt hC dJ_la_0 ?_
  refine r_if_eq hC 17 dJ_la_3 rfl (by decide) (by decide) (fun h => absurd h (by decide)) (fun h => ?_)
  refine r_aload_n hC dJ_la_6 rfl rfl ?_
  refine r_scod hC hi dJ_la_7 ?_
  refine r_if_ne hC 17 dJ_la_10 rfl (by decide) (by decide) (fun h => absurd rfl h) (fun h => ?_)
  refine r_iconst hC dJ_la_13 ?_
  refine r_goto hC 18 dJ_la_14 rfl ?_
  exact r_zret hC dJ_la_18 (by decide) (by decide) ⟨rfl, rfl⟩
def dP3 (D : va_G) (aC : Nat → ClassId) (ad : Nat → Nat) (As : List Value) (M : Mem) : Array Value → State → Prop := fun a U =>
  a = As.toArray ∧ va_P D vwCl (wld aC ad M) U.heap ∧ va_K D vwCl (tysA aC) U ∧ Ok M ∧ St ad U U.heap ∧ Apart ad
theorem dP3_blind {As : List Value} : FrameBlind (dP3 D aC ad As M) := by
  intro a U g mk ⟨h1, h2, h3, h4, h5, h6⟩
  exact ⟨h1, h2, va_K.moved (u := U) (U := U.calling g mk a) (Vm.Alike.refl U.vm) h3, h4, St.same (u := U) (U := U.calling g mk a) rfl rfl h5, h6⟩
theorem d_Jpi {i n : Int} {v : Value} (hv : v.category = 1) (h1 : 0 ≤ i) (h2 : i < n) (h3 : n ≤ 2147483647) : Met l yJ_pi (Cond.code yJ_pi prog_21_method_11_code 3 (some .int) :: lw_gd) { frames := 0, cells := 0, slots := 0, locals := 0 } (dP3 D aC ad [.int (Int32.ofInt i), .int (Int32.ofInt n), v] M) (dQ D aC ad (fun r N => N = M ∧ r = some (vI i))) 0 0 (Adr ad) := by
  refine Met.ofW (cc := prog_21_method_11_code) (maxL := 3) (ret := some .int) (by decide) rfl ?_
  intro p e s m args below meth c s₁ B hml hv0
  obtain ⟨rfl, hP, hK, hO, hSt, hAp⟩ := hv0
  have hts := atoms_spec (ws := Cond.code yJ_pi prog_21_method_11_code 3 (some .int) :: lw_gd) B.pre
  have hC : rC p (headSpec (Cond.code yJ_pi prog_21_method_11_code 3 (some .int) :: lw_gd) { frames := 0, cells := 0, slots := 0, locals := 0 }).room s m _ meth c 0 0 D aC ad 3 prog_21_method_11_code yJ_pi.cls 0 0 (some .int) :=
    ⟨B.exec, B.bytes, hml, findClass_of_methodNamed B.named, fun w hw => hts w (List.mem_cons_of_mem _ hw), hK, hAp, hSt, B.returns, B.notSynchronized, Nat.le_refl _, Nat.le_refl _, Nat.le_refl _, Nat.le_refl _⟩
  have hl := lv_entry [.int (Int32.ofInt i), .int (Int32.ofInt n), v] (n := 3) (by cases v <;> first | exact Nat.le_refl 3 | cases hv)
  rw [lg_entry_eq]
  have body : rG p l e (headSpec (Cond.code yJ_pi prog_21_method_11_code 3 (some .int) :: lw_gd) { frames := 0, cells := 0, slots := 0, locals := 0 }).room s m ([.int (Int32.ofInt i), .int (Int32.ofInt n), v] : List Value).toArray below meth c 0 0 (MQ below (dQ D aC ad (fun r N => N = M ∧ r = some (vI i))) ([.int (Int32.ofInt i), .int (Int32.ofInt n), v] : List Value).toArray s 0 0 (Adr ad)) D aC ad 3 0 [(0, vI i), (1, vI n)] [] M := by
    refine r_iload_n hC dJ_pi_0 rfl rfl ?_
    refine r_if_lt hC 9 dJ_pi_1 rfl (by omega) (by omega) (fun h => absurd h (by omega)) (fun h => ?_)
    refine r_iload_n hC dJ_pi_4 rfl rfl ?_
    refine r_iload_n hC dJ_pi_5 rfl rfl ?_
    refine r_icmp_lt hC 16 dJ_pi_6 rfl (by omega) (by omega) (by omega) (by omega) (fun h => ?_) (fun h => absurd h2 h)
    refine r_iload_n hC dJ_pi_16 rfl rfl ?_
    exact r_iret hC dJ_pi_17 ⟨rfl, rfl⟩
  refine body s.heap [] _ hP hO va_S.rf ⟨hl.1, hl.2.1, fun q hq => hl.2.2 q ?_⟩
  rcases List.mem_cons.mp hq with rfl | hq
  · exact List.mem_cons_self
  · rcases List.mem_cons.mp hq with rfl | hq
    · exact List.mem_cons_of_mem _ List.mem_cons_self
    · cases hq
theorem r_chkf (hC : rC p R s m args meth c cells slots D aC ad nL cc "java/lang/String" fr lo ret) {i n : Int} (h1 : 0 ≤ i) (h2 : i < n) (h3 : n ≤ 2147483647) (hf : 1 ≤ fr) (hlo : 22 ≤ lo) (hw : wid S ≤ 8) (d1 : decode cc pc = .ok (.getstatic 1053, 3)) (d2 : decode cc (pc + 3) = .ok (.invokestatic 1059, 3)) (k : rG p l e R s m args below meth c cells slots Qs D aC ad nL (pc + 6) L (vI i :: S) M) : rG p l e R s m args below meth c cells slots Qs D aC ad nL pc L (vI n :: vI i :: S) M := by
  intro H locs ls hP hO hS hl
  have hrm := hC.2.2.2.2.2.2.2.2.2.2
  have key : ∀ v : Value, v.category = 1 → va_Z "jdk/internal/util/Preconditions" "SIOOBE_FORMATTER" "Ljava/util/function/BiFunction;" v (Adr ad) s s.heap → W p l e R s m args below meth c H locs cells slots Qs (F0 m pc ls ((vI n :: vI i :: S).map (cV ad))) := by
    intro v hv hZ
    refine va_gets hC.1 hC.2.1 hZ hS hC.2.2.2.1 (hC.2.2.2.2.1 _ kJf_SIOOBE_FORMATTER) (fun _ h => h) d1 ?_
    refine r_go (rest := S.map (cV ad)) (Post := fun r N => N = M ∧ r = some (vI i)) (va_runS (As := [.int (Int32.ofInt i), .int (Int32.ofInt n), v]) (n := 3) (Ts := lw_gd) (own := "java/lang/String") (nL := nL) ⟨hC.1, hC.2.1, hC.2.2.1, hC.2.2.2.1, hC.2.2.2.2.1⟩ (d_Jpi hv h1 h2 h3 (M := M))
      ⟨callB_of 3 hC.2.2.2.2.1 (gd_in_code kJc_pi) rfl rfl rfl (hC.2.2.2.2.1 _ kJN_Pre) (hC.2.2.2.2.1 _ kJl_pi) kJd_pi ⟨Nat.le_trans hf hrm.1, Nat.le_trans hlo hrm.2.1⟩, hC.2.2.2.2.1 _ kJt_pi⟩
      ⟨dP3_blind, fun U hU hW => ⟨rfl, by rw [hU]; exact hP, va_K.moved hW.alike hC.2.2.2.2.2.1, hO, St.move hC.2.2.2.2.2.2.2.1 hS hU hW, hC.2.2.2.2.2.2.1⟩⟩ rfl rfl hl.1 (by simp [cV]) (lv_room (by rw [cat_sum]; exact hw)) d2 ⟨hrm.2.2.1, hrm.2.2.2⟩) hS (fun r M' H1 locs1 hp hP1 hO1 hS1 => ?_)
    obtain ⟨rfl, rfl⟩ := hp
    exact k H1 locs1 ls hP1 hO1 hS1 hl
  rcases hC.2.2.2.2.2.2.2.1.2.2.2.2.2 with h | ⟨t, h⟩
  · exact key .null rfl h
  · exact key (.ref t) rfl h
theorem d_Jci {i n : Int} (h1 : 0 ≤ i) (h2 : i < n) (h3 : n ≤ 2147483647) : Does l D aC ad yJ_ci prog_17_method_155_code 2 none 1 22 [vI i, vI n] M (fun r N => N = M ∧ r = none) := by
  refine Does.of (by decide) (by simp [wid, isJ]) fun p e R s m args below meth c hC => ?_
  refine r_iload_n hC dJ_ci_0 rfl rfl ?_
  refine r_iload_n hC dJ_ci_1 rfl rfl ?_
  refine r_chkf (S := []) hC h1 h2 h3 (by decide) (by decide) (by decide) dJ_ci_2 dJ_ci_5 ?_
  refine r_pop hC dJ_ci_8 rfl ?_
  exact r_vret hC dJ_ci_9 ⟨rfl, rfl⟩
theorem st_byt : ∀ i, i < nStr → (strLen.getD i 0 ≤ 1000 ∧ ∀ j, j < strLen.getD i 0 → (0 ≤ ((strByt.getD i []).getD j 0).toInt ∧ ((strByt.getD i []).getD j 0).toInt ≤ 127)) := by decide +kernel
theorem msk_byt {z : Int} (h1 : 0 ≤ z) (h2 : z ≤ 127) : bAnd z 255 = z := by
  have : ∀ n : Fin 128, bAnd (n.val : Int) 255 = n.val := by decide +kernel
  have e := this ⟨z.toNat, by omega⟩
  have e2 : ((z.toNat : Nat) : Int) = z := by omega
  simpa only [e2] using e
theorem nar_c {z : Int} (h1 : 0 ≤ z) (h2 : z ≤ 127) : narrow .char (.int (Int32.ofInt z)) = .int (Int32.ofInt z) := by
  have : ∀ n : Fin 128, narrow .char (.int (Int32.ofInt (n.val : Int))) = .int (Int32.ofInt (n.val : Int)) := by decide +kernel
  have e := this ⟨z.toNat, by omega⟩
  have e2 : ((z.toNat : Nat) : Int) = z := by omega
  simpa only [e2] using e
theorem d_Jlc {i : Nat} {j : Int} (hi : i < nStr) (h1 : 0 ≤ j) (h2 : j < (strLen.getD i 0 : Nat)) : Does l D aC ad yJ_lc prog_18_method_2_code 2 (some .char) 2 43 [vR (231 + i), vI j] M (fun r N => N = M ∧ r = some (vI ((strByt.getD i []).getD j.toNat 0).toInt)) := by
  refine Does.of (by decide) (by simp [wid, isJ]) fun p e R s m args below meth c hC => ?_
  obtain ⟨b1, b2⟩ := st_byt i hi
  obtain ⟨b3, b4⟩ := b2 j.toNat (by omega)
  refine r_iload_n hC dJ_lc_0 rfl rfl ?_
  refine r_aload_n hC dJ_lc_1 rfl rfl ?_
  refine r_sblen hC hi dJ_lc_2 ?_
  refine r_callS (S := []) (av := [vI j, vI (strLen.getD i 0 : Nat)]) hC (d_Jci h1 h2 (by omega)) kJc_ci kJl_ci kJt_ci kJN_String kJd_ci (by decide) rfl (by decide) dJ_lc_3 (fun r N ⟨e1, e2⟩ => ?_)
  subst e1; subst e2
  refine r_aload_n hC dJ_lc_6 rfl rfl ?_
  refine r_iload_n hC dJ_lc_7 rfl rfl ?_
  refine r_sbald hC hi h1 h2 (by omega) dJ_lc_8 ?_
  refine r_sipush hC dJ_lc_9 (by decide) ?_
  refine r_iand hC dJ_lc_12 ?_
  rw [msk_byt b3 b4]
  refine r_i2c hC b3 (by omega) dJ_lc_13 ?_
  exact r_nret hC (nar_c b3 b4) dJ_lc_14 ⟨rfl, rfl⟩
theorem d_Jca {i : Nat} {j : Int} (hi : i < nStr) (h1 : 0 ≤ j) (h2 : j < (strLen.getD i 0 : Nat)) : Does l D aC ad yJ_ca prog_17_method_56_code 2 (some .char) 3 64 [vR (211 + i), vI j] M (fun r N => N = M ∧ r = some (vI ((strByt.getD i []).getD j.toNat 0).toInt)) := by
  refine Does.of (by decide) (by simp [wid, isJ]) fun p e R s m args below meth c hC => ?_
  obtain ⟨b1, b2⟩ := st_byt i hi
  obtain ⟨b3, b4⟩ := b2 j.toNat (by omega)
  refine r_aload_n hC dJ_ca_0 rfl rfl ?_
  refine r_callVS (S := []) (av := []) hC hi (d_Jla hi) kJc_la kJl_la kJi_la kJs_la kJN_String kJd_la (by decide) rfl (by decide) dJ_ca_1 (fun r N ⟨e1, e2⟩ => ?_)
  subst e1; subst e2
  refine r_if_eq hC 16 dJ_ca_4 rfl (by decide) (by decide) (fun h => absurd h (by decide)) (fun h => ?_)
  refine r_aload_n hC dJ_ca_7 rfl rfl ?_
  refine r_sval hC hi dJ_ca_8 ?_
  refine r_iload_n hC dJ_ca_11 rfl rfl ?_
  refine r_callS (S := []) (av := [vR (231 + i), vI j]) hC (d_Jlc hi h1 h2) kJc_lc kJl_lc kJt_lc kJN_StringLatin1 kJd_lc (by decide) rfl (by decide) dJ_ca_12 (fun r N ⟨e1, e2⟩ => ?_)
  subst e1; subst e2
  exact r_nret hC (nar_c b3 b4) dJ_ca_15 ⟨rfl, rfl⟩
theorem r_bits (hC : rC p R s m args meth c cells slots D aC ad nL cc own fr lo ret) {idx : Nat} {x : Int} {Q : Int → Prop} (km : Cond.methodLink own idx ⟨"java/lang/Integer", "bitCount", "(I)I"⟩ ∈ lw_gd) (hf : 1 ≤ fr) (hw8 : wid S ≤ 8) (d : decode cc pc = .ok (.invokestatic idx, 3)) (hw : w_bitCount x Q)
    (k : ∀ z, Q z → rG p l e R s m args below meth c cells slots Qs D aC ad nL (pc + 3) L (vI z :: S) M) (hlo : 20 ≤ lo := by decide) : rG p l e R s m args below meth c cells slots Qs D aC ad nL pc L (vI x :: S) M := by
  refine r_callS (av := [vI x]) hC d_Jbc kJc_bc km kJt_bc kJN_Integer kJd_bc ⟨hf, hlo⟩ rfl hw8 d (fun r N ⟨e1, e2⟩ => ?_)
  subst e1; subst e2
  exact k _ hw
theorem r_sempty (hC : rC p R s m args meth c cells slots D aC ad nL cc own fr lo ret) {idx h : Nat} {Q : Int → Prop} (km : Cond.methodLink own idx ⟨"java/lang/String", "isEmpty", "()Z"⟩ ∈ lw_gd) (hf : 1 ≤ fr) (hw8 : wid S ≤ 8) (d : decode cc pc = .ok (.invokevirtual idx, 3)) (hw : w_sempty h Q)
    (k : ∀ z, Q z → rG p l e R s m args below meth c cells slots Qs D aC ad nL (pc + 3) L (vI z :: S) M) (hlo : 20 ≤ lo := by decide) : rG p l e R s m args below meth c cells slots Qs D aC ad nL pc L (vR h :: S) M := by
  obtain ⟨i, hi, rfl, hw⟩ := hw
  have := (st_byt i hi).1
  refine r_callVS (av := []) hC hi (d_Jem hi (by omega)) kJc_em km kJi_em kJs_em kJN_String kJd_em ⟨hf, hlo⟩ rfl hw8 d (fun r N ⟨e1, e2⟩ => ?_)
  subst e1; subst e2
  exact k _ hw
theorem r_slength (hC : rC p R s m args meth c cells slots D aC ad nL cc own fr lo ret) {idx h : Nat} {Q : Int → Prop} (km : Cond.methodLink own idx ⟨"java/lang/String", "length", "()I"⟩ ∈ lw_gd) (hf : 2 ≤ fr) (hw8 : wid S ≤ 8) (d : decode cc pc = .ok (.invokevirtual idx, 3)) (hw : w_slength h Q)
    (k : ∀ z, Q z → rG p l e R s m args below meth c cells slots Qs D aC ad nL (pc + 3) L (vI z :: S) M) (hlo : 40 ≤ lo := by decide) : rG p l e R s m args below meth c cells slots Qs D aC ad nL pc L (vR h :: S) M := by
  obtain ⟨i, hi, rfl, hw⟩ := hw
  have := (st_byt i hi).1
  refine r_callVS (av := []) hC hi (d_Jle hi (by omega)) kJc_le km kJi_le kJs_le kJN_String kJd_le ⟨hf, hlo⟩ rfl hw8 d (fun r N ⟨e1, e2⟩ => ?_)
  subst e1; subst e2
  exact k _ hw
theorem r_scharAt (hC : rC p R s m args meth c cells slots D aC ad nL cc own fr lo ret) {idx h : Nat} {j : Int} {Q : Int → Prop} (km : Cond.methodLink own idx ⟨"java/lang/String", "charAt", "(I)C"⟩ ∈ lw_gd) (hf : 4 ≤ fr) (hw8 : wid S ≤ 8) (d : decode cc pc = .ok (.invokevirtual idx, 3)) (hw : w_scharAt h j Q)
    (k : ∀ z, Q z → rG p l e R s m args below meth c cells slots Qs D aC ad nL (pc + 3) L (vI z :: S) M) (hlo : 130 ≤ lo := by decide) : rG p l e R s m args below meth c cells slots Qs D aC ad nL pc L (vI j :: vR h :: S) M := by
  obtain ⟨i, hi, rfl, h1, h2, hw⟩ := hw
  refine r_callVS (av := [vI j]) hC hi (d_Jca hi h1 h2) kJc_ca km kJi_ca kJs_ca kJN_String kJd_ca ⟨hf, by omega⟩ rfl hw8 d (fun r N ⟨e1, e2⟩ => ?_)
  subst e1; subst e2
  exact k _ hw
end RJ2

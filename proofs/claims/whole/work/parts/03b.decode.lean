theorem dX10_init_23 : decode cX10_init 23 = .ok (.newarray .int, 2) := by decide +kernel
theorem dX10_init_25 : decode cX10_init 25 = .ok (.putfield 18, 3) := by decide +kernel
theorem dX10_init_28 : decode cX10_init 28 = .ok (.aload_n 0, 1) := by decide +kernel
theorem dX10_init_29 : decode cX10_init 29 = .ok (.bipush 6, 2) := by decide +kernel
theorem dX10_init_31 : decode cX10_init 31 = .ok (.newarray .int, 2) := by decide +kernel
theorem dX10_init_33 : decode cX10_init 33 = .ok (.putfield 21, 3) := by decide +kernel
theorem dX10_init_36 : decode cX10_init 36 = .ok (.aload_n 0, 1) := by decide +kernel
theorem dX10_init_37 : decode cX10_init 37 = .ok (.sipush 384, 3) := by decide +kernel
theorem dX10_init_40 : decode cX10_init 40 = .ok (.newarray .int, 2) := by decide +kernel
theorem dX10_init_42 : decode cX10_init 42 = .ok (.putfield 24, 3) := by decide +kernel
theorem dX10_init_45 : decode cX10_init 45 = .ok (.return_, 1) := by decide +kernel
theorem dX10_addWork_0 : decode cX10_addWork 0 = .ok (.aload_n 0, 1) := by decide +kernel
theorem dX10_addWork_1 : decode cX10_addWork 1 = .ok (.getfield 9, 3) := by decide +kernel
theorem dX10_addWork_4 : decode cX10_addWork 4 = .ok (.aload_n 0, 1) := by decide +kernel
theorem dX10_addWork_5 : decode cX10_addWork 5 = .ok (.getfield 27, 3) := by decide +kernel
theorem dX10_addWork_8 : decode cX10_addWork 8 = .ok (.iload_n 1, 1) := by decide +kernel
theorem dX10_addWork_9 : decode cX10_addWork 9 = .ok (.iastore, 1) := by decide +kernel
theorem dX10_addWork_10 : decode cX10_addWork 10 = .ok (.aload_n 0, 1) := by decide +kernel
theorem dX10_addWork_11 : decode cX10_addWork 11 = .ok (.getfield 15, 3) := by decide +kernel
theorem dX10_addWork_14 : decode cX10_addWork 14 = .ok (.aload_n 0, 1) := by decide +kernel
theorem dX10_addWork_15 : decode cX10_addWork 15 = .ok (.getfield 27, 3) := by decide +kernel
theorem dX10_addWork_18 : decode cX10_addWork 18 = .ok (.iload_n 2, 1) := by decide +kernel
theorem dX10_addWork_19 : decode cX10_addWork 19 = .ok (.iastore, 1) := by decide +kernel
theorem dX10_addWork_20 : decode cX10_addWork 20 = .ok (.aload_n 0, 1) := by decide +kernel
theorem dX10_addWork_21 : decode cX10_addWork 21 = .ok (.getfield 18, 3) := by decide +kernel
theorem dX10_addWork_24 : decode cX10_addWork 24 = .ok (.aload_n 0, 1) := by decide +kernel
theorem dX10_addWork_25 : decode cX10_addWork 25 = .ok (.getfield 27, 3) := by decide +kernel
theorem dX10_addWork_28 : decode cX10_addWork 28 = .ok (.iload_n 3, 1) := by decide +kernel
theorem dX10_addWork_29 : decode cX10_addWork 29 = .ok (.iastore, 1) := by decide +kernel
theorem dX10_addWork_30 : decode cX10_addWork 30 = .ok (.aload_n 0, 1) := by decide +kernel
theorem dX10_addWork_31 : decode cX10_addWork 31 = .ok (.getfield 21, 3) := by decide +kernel
theorem dX10_addWork_34 : decode cX10_addWork 34 = .ok (.aload_n 0, 1) := by decide +kernel
theorem dX10_addWork_35 : decode cX10_addWork 35 = .ok (.getfield 27, 3) := by decide +kernel
theorem dX10_addWork_38 : decode cX10_addWork 38 = .ok (.iload 4, 2) := by decide +kernel
theorem dX10_addWork_40 : decode cX10_addWork 40 = .ok (.iastore, 1) := by decide +kernel
theorem dX10_addWork_41 : decode cX10_addWork 41 = .ok (.aload_n 0, 1) := by decide +kernel
theorem dX10_addWork_42 : decode cX10_addWork 42 = .ok (.dup, 1) := by decide +kernel
theorem dX10_addWork_43 : decode cX10_addWork 43 = .ok (.getfield 27, 3) := by decide +kernel
theorem dX10_addWork_46 : decode cX10_addWork 46 = .ok (.iconst 1, 1) := by decide +kernel
theorem dX10_addWork_47 : decode cX10_addWork 47 = .ok (.iadd, 1) := by decide +kernel
theorem dX10_addWork_48 : decode cX10_addWork 48 = .ok (.putfield 27, 3) := by decide +kernel
theorem dX10_addWork_51 : decode cX10_addWork 51 = .ok (.aload_n 0, 1) := by decide +kernel
theorem dX10_addWork_52 : decode cX10_addWork 52 = .ok (.getfield 27, 3) := by decide +kernel
theorem dX10_addWork_55 : decode cX10_addWork 55 = .ok (.iconst 1, 1) := by decide +kernel
theorem dX10_addWork_56 : decode cX10_addWork 56 = .ok (.isub, 1) := by decide +kernel
theorem dX10_addWork_57 : decode cX10_addWork 57 = .ok (.ireturn, 1) := by decide +kernel
theorem dX10_forgetVerdicts_0 : decode cX10_forgetVerdicts 0 = .ok (.iconst 0, 1) := by decide +kernel
theorem dX10_forgetVerdicts_1 : decode cX10_forgetVerdicts 1 = .ok (.istore_n 1, 1) := by decide +kernel
theorem dX10_forgetVerdicts_2 : decode cX10_forgetVerdicts 2 = .ok (.iload_n 1, 1) := by decide +kernel
theorem dX10_forgetVerdicts_3 : decode cX10_forgetVerdicts 3 = .ok (.aload_n 0, 1) := by decide +kernel
theorem dX10_forgetVerdicts_4 : decode cX10_forgetVerdicts 4 = .ok (.getfield 24, 3) := by decide +kernel
theorem dX10_forgetVerdicts_7 : decode cX10_forgetVerdicts 7 = .ok (.arraylength, 1) := by decide +kernel
theorem dX10_forgetVerdicts_8 : decode cX10_forgetVerdicts 8 = .ok (.if_icmp .ge 16, 3) := by decide +kernel
theorem dX10_forgetVerdicts_11 : decode cX10_forgetVerdicts 11 = .ok (.aload_n 0, 1) := by decide +kernel
theorem dX10_forgetVerdicts_12 : decode cX10_forgetVerdicts 12 = .ok (.getfield 24, 3) := by decide +kernel
theorem dX10_forgetVerdicts_15 : decode cX10_forgetVerdicts 15 = .ok (.iload_n 1, 1) := by decide +kernel
theorem dX10_forgetVerdicts_16 : decode cX10_forgetVerdicts 16 = .ok (.iconst 0, 1) := by decide +kernel
theorem dX10_forgetVerdicts_17 : decode cX10_forgetVerdicts 17 = .ok (.iastore, 1) := by decide +kernel
theorem dX10_forgetVerdicts_18 : decode cX10_forgetVerdicts 18 = .ok (.iinc 1 1, 3) := by decide +kernel
theorem dX10_forgetVerdicts_21 : decode cX10_forgetVerdicts 21 = .ok (.goto (-19), 3) := by decide +kernel
theorem dX10_forgetVerdicts_24 : decode cX10_forgetVerdicts 24 = .ok (.return_, 1) := by decide +kernel
theorem dX10_holds_0 : decode cX10_holds 0 = .ok (.iload_n 0, 1) := by decide +kernel
theorem dX10_holds_1 : decode cX10_holds 1 = .ok (.iload_n 1, 1) := by decide +kernel
theorem dX10_holds_2 : decode cX10_holds 2 = .ok (.ishr, 1) := by decide +kernel
theorem dX10_holds_3 : decode cX10_holds 3 = .ok (.iconst 1, 1) := by decide +kernel
theorem dX10_holds_4 : decode cX10_holds 4 = .ok (.iand, 1) := by decide +kernel
theorem dX10_holds_5 : decode cX10_holds 5 = .ok (.iconst 1, 1) := by decide +kernel
theorem dX10_holds_6 : decode cX10_holds 6 = .ok (.if_icmp .ne 7, 3) := by decide +kernel
theorem dX10_holds_9 : decode cX10_holds 9 = .ok (.iconst 1, 1) := by decide +kernel
theorem dX10_holds_10 : decode cX10_holds 10 = .ok (.goto 4, 3) := by decide +kernel
theorem dX10_holds_13 : decode cX10_holds 13 = .ok (.iconst 0, 1) := by decide +kernel
theorem dX10_holds_14 : decode cX10_holds 14 = .ok (.ireturn, 1) := by decide +kernel
theorem dX10_setOn_0 : decode cX10_setOn 0 = .ok (.iconst 0, 1) := by decide +kernel
theorem dX10_setOn_1 : decode cX10_setOn 1 = .ok (.istore_n 2, 1) := by decide +kernel
theorem dX10_setOn_2 : decode cX10_setOn 2 = .ok (.iconst 0, 1) := by decide +kernel
theorem dX10_setOn_3 : decode cX10_setOn 3 = .ok (.istore_n 3, 1) := by decide +kernel
theorem dX10_setOn_4 : decode cX10_setOn 4 = .ok (.iload_n 3, 1) := by decide +kernel
theorem dX10_setOn_5 : decode cX10_setOn 5 = .ok (.aload_n 0, 1) := by decide +kernel
theorem dX10_setOn_6 : decode cX10_setOn 6 = .ok (.getfield 27, 3) := by decide +kernel
theorem dX10_setOn_9 : decode cX10_setOn 9 = .ok (.if_icmp .ge 25, 3) := by decide +kernel
theorem dX10_setOn_12 : decode cX10_setOn 12 = .ok (.aload_n 0, 1) := by decide +kernel
theorem dX10_setOn_13 : decode cX10_setOn 13 = .ok (.getfield 9, 3) := by decide +kernel
theorem dX10_setOn_16 : decode cX10_setOn 16 = .ok (.iload_n 3, 1) := by decide +kernel
theorem dX10_setOn_17 : decode cX10_setOn 17 = .ok (.iaload, 1) := by decide +kernel
theorem dX10_setOn_18 : decode cX10_setOn 18 = .ok (.iload_n 1, 1) := by decide +kernel
theorem dX10_setOn_19 : decode cX10_setOn 19 = .ok (.if_icmp .ne 9, 3) := by decide +kernel
theorem dX10_setOn_22 : decode cX10_setOn 22 = .ok (.iload_n 2, 1) := by decide +kernel
theorem dX10_setOn_23 : decode cX10_setOn 23 = .ok (.iconst 1, 1) := by decide +kernel
theorem dX10_setOn_24 : decode cX10_setOn 24 = .ok (.iload_n 3, 1) := by decide +kernel
theorem dX10_setOn_25 : decode cX10_setOn 25 = .ok (.ishl, 1) := by decide +kernel
theorem dX10_setOn_26 : decode cX10_setOn 26 = .ok (.ior, 1) := by decide +kernel
theorem dX10_setOn_27 : decode cX10_setOn 27 = .ok (.istore_n 2, 1) := by decide +kernel
theorem dX10_setOn_28 : decode cX10_setOn 28 = .ok (.iinc 3 1, 3) := by decide +kernel
theorem dX10_setOn_31 : decode cX10_setOn 31 = .ok (.goto (-27), 3) := by decide +kernel
theorem dX10_setOn_34 : decode cX10_setOn 34 = .ok (.iload_n 2, 1) := by decide +kernel
theorem dX10_setOn_35 : decode cX10_setOn 35 = .ok (.ireturn, 1) := by decide +kernel
theorem dX10_priceOf_0 : decode cX10_priceOf 0 = .ok (.iconst 0, 1) := by decide +kernel
theorem dX10_priceOf_1 : decode cX10_priceOf 1 = .ok (.istore_n 2, 1) := by decide +kernel
theorem dX10_priceOf_2 : decode cX10_priceOf 2 = .ok (.iconst 0, 1) := by decide +kernel
theorem dX10_priceOf_3 : decode cX10_priceOf 3 = .ok (.istore_n 3, 1) := by decide +kernel
theorem dX10_priceOf_4 : decode cX10_priceOf 4 = .ok (.iload_n 3, 1) := by decide +kernel
theorem dX10_priceOf_5 : decode cX10_priceOf 5 = .ok (.aload_n 0, 1) := by decide +kernel
theorem dX10_priceOf_6 : decode cX10_priceOf 6 = .ok (.getfield 27, 3) := by decide +kernel
theorem dX10_priceOf_9 : decode cX10_priceOf 9 = .ok (.if_icmp .ge 26, 3) := by decide +kernel
theorem dX10_priceOf_12 : decode cX10_priceOf 12 = .ok (.iload_n 1, 1) := by decide +kernel
theorem dX10_priceOf_13 : decode cX10_priceOf 13 = .ok (.iload_n 3, 1) := by decide +kernel
theorem dX10_priceOf_14 : decode cX10_priceOf 14 = .ok (.invokestatic 31, 3) := by decide +kernel
theorem dX10_priceOf_17 : decode cX10_priceOf 17 = .ok (.ifCond .eq 12, 3) := by decide +kernel
theorem dX10_priceOf_20 : decode cX10_priceOf 20 = .ok (.iload_n 2, 1) := by decide +kernel
theorem dX10_priceOf_21 : decode cX10_priceOf 21 = .ok (.aload_n 0, 1) := by decide +kernel
theorem dX10_priceOf_22 : decode cX10_priceOf 22 = .ok (.getfield 21, 3) := by decide +kernel
theorem dX10_priceOf_25 : decode cX10_priceOf 25 = .ok (.iload_n 3, 1) := by decide +kernel
theorem dX10_priceOf_26 : decode cX10_priceOf 26 = .ok (.iaload, 1) := by decide +kernel
theorem dX10_priceOf_27 : decode cX10_priceOf 27 = .ok (.iadd, 1) := by decide +kernel
theorem dX10_priceOf_28 : decode cX10_priceOf 28 = .ok (.istore_n 2, 1) := by decide +kernel
theorem dX10_priceOf_29 : decode cX10_priceOf 29 = .ok (.iinc 3 1, 3) := by decide +kernel
theorem dX10_priceOf_32 : decode cX10_priceOf 32 = .ok (.goto (-28), 3) := by decide +kernel
theorem dX10_priceOf_35 : decode cX10_priceOf 35 = .ok (.iload_n 2, 1) := by decide +kernel
theorem dX10_priceOf_36 : decode cX10_priceOf 36 = .ok (.ireturn, 1) := by decide +kernel
theorem dX10_sumOn_0 : decode cX10_sumOn 0 = .ok (.iconst 0, 1) := by decide +kernel
theorem dX10_sumOn_1 : decode cX10_sumOn 1 = .ok (.istore 4, 2) := by decide +kernel
theorem dX10_sumOn_3 : decode cX10_sumOn 3 = .ok (.iconst 0, 1) := by decide +kernel
theorem dX10_sumOn_4 : decode cX10_sumOn 4 = .ok (.istore 5, 2) := by decide +kernel
theorem dX10_sumOn_6 : decode cX10_sumOn 6 = .ok (.iload 5, 2) := by decide +kernel
theorem dX10_sumOn_8 : decode cX10_sumOn 8 = .ok (.aload_n 0, 1) := by decide +kernel
theorem dX10_sumOn_9 : decode cX10_sumOn 9 = .ok (.getfield 27, 3) := by decide +kernel
theorem dX10_sumOn_12 : decode cX10_sumOn 12 = .ok (.if_icmp .ge 52, 3) := by decide +kernel
theorem dX10_sumOn_15 : decode cX10_sumOn 15 = .ok (.iload_n 3, 1) := by decide +kernel
theorem dX10_sumOn_16 : decode cX10_sumOn 16 = .ok (.iload 5, 2) := by decide +kernel
theorem dX10_sumOn_18 : decode cX10_sumOn 18 = .ok (.invokestatic 31, 3) := by decide +kernel
theorem dX10_sumOn_21 : decode cX10_sumOn 21 = .ok (.ifCond .eq 37, 3) := by decide +kernel
theorem dX10_sumOn_24 : decode cX10_sumOn 24 = .ok (.aload_n 0, 1) := by decide +kernel
theorem dX10_sumOn_25 : decode cX10_sumOn 25 = .ok (.getfield 9, 3) := by decide +kernel
theorem dX10_sumOn_28 : decode cX10_sumOn 28 = .ok (.iload 5, 2) := by decide +kernel
theorem dX10_sumOn_30 : decode cX10_sumOn 30 = .ok (.iaload, 1) := by decide +kernel
theorem dX10_sumOn_31 : decode cX10_sumOn 31 = .ok (.iload_n 1, 1) := by decide +kernel
theorem dX10_sumOn_32 : decode cX10_sumOn 32 = .ok (.if_icmp .ne 26, 3) := by decide +kernel
theorem dX10_sumOn_35 : decode cX10_sumOn 35 = .ok (.aload_n 0, 1) := by decide +kernel
theorem dX10_sumOn_36 : decode cX10_sumOn 36 = .ok (.getfield 15, 3) := by decide +kernel
theorem dX10_sumOn_39 : decode cX10_sumOn 39 = .ok (.iload 5, 2) := by decide +kernel
theorem dX10_sumOn_41 : decode cX10_sumOn 41 = .ok (.iaload, 1) := by decide +kernel
theorem dX10_sumOn_42 : decode cX10_sumOn 42 = .ok (.iload_n 2, 1) := by decide +kernel
theorem dX10_sumOn_43 : decode cX10_sumOn 43 = .ok (.if_icmp .ne 15, 3) := by decide +kernel
theorem dX10_sumOn_46 : decode cX10_sumOn 46 = .ok (.iload 4, 2) := by decide +kernel
theorem dX10_sumOn_48 : decode cX10_sumOn 48 = .ok (.aload_n 0, 1) := by decide +kernel
theorem dX10_sumOn_49 : decode cX10_sumOn 49 = .ok (.getfield 18, 3) := by decide +kernel
theorem dX10_sumOn_52 : decode cX10_sumOn 52 = .ok (.iload 5, 2) := by decide +kernel
theorem dX10_sumOn_54 : decode cX10_sumOn 54 = .ok (.iaload, 1) := by decide +kernel
theorem dX10_sumOn_55 : decode cX10_sumOn 55 = .ok (.iadd, 1) := by decide +kernel
theorem dX10_sumOn_56 : decode cX10_sumOn 56 = .ok (.istore 4, 2) := by decide +kernel
theorem dX10_sumOn_58 : decode cX10_sumOn 58 = .ok (.iinc 5 1, 3) := by decide +kernel
theorem dX10_sumOn_61 : decode cX10_sumOn 61 = .ok (.goto (-55), 3) := by decide +kernel
theorem dX10_sumOn_64 : decode cX10_sumOn 64 = .ok (.iload 4, 2) := by decide +kernel
theorem dX10_sumOn_66 : decode cX10_sumOn 66 = .ok (.ireturn, 1) := by decide +kernel
theorem dX11_init_0 : decode cX11_init 0 = .ok (.aload_n 0, 1) := by decide +kernel
theorem dX11_init_1 : decode cX11_init 1 = .ok (.invokespecial 1, 3) := by decide +kernel
theorem dX11_init_4 : decode cX11_init 4 = .ok (.aload_n 0, 1) := by decide +kernel
theorem dX11_init_5 : decode cX11_init 5 = .ok (.new 7, 3) := by decide +kernel
theorem dX11_init_8 : decode cX11_init 8 = .ok (.dup, 1) := by decide +kernel
theorem dX11_init_9 : decode cX11_init 9 = .ok (.invokespecial 9, 3) := by decide +kernel
theorem dX11_init_12 : decode cX11_init 12 = .ok (.putfield 10, 3) := by decide +kernel
theorem dX11_init_15 : decode cX11_init 15 = .ok (.aload_n 0, 1) := by decide +kernel
theorem dX11_init_16 : decode cX11_init 16 = .ok (.aload_n 0, 1) := by decide +kernel
theorem dX11_init_17 : decode cX11_init 17 = .ok (.getfield 10, 3) := by decide +kernel
theorem dX11_init_20 : decode cX11_init 20 = .ok (.getfield 16, 3) := by decide +kernel
theorem dX11_init_23 : decode cX11_init 23 = .ok (.putfield 20, 3) := by decide +kernel
theorem dX11_init_26 : decode cX11_init 26 = .ok (.aload_n 0, 1) := by decide +kernel
theorem dX11_init_27 : decode cX11_init 27 = .ok (.aload_n 0, 1) := by decide +kernel
theorem dX11_init_28 : decode cX11_init 28 = .ok (.getfield 10, 3) := by decide +kernel
theorem dX11_init_31 : decode cX11_init 31 = .ok (.getfield 21, 3) := by decide +kernel
theorem dX11_init_34 : decode cX11_init 34 = .ok (.putfield 25, 3) := by decide +kernel
theorem dX11_init_37 : decode cX11_init 37 = .ok (.aload_n 0, 1) := by decide +kernel
theorem dX11_init_38 : decode cX11_init 38 = .ok (.aload_n 0, 1) := by decide +kernel
theorem dX11_init_39 : decode cX11_init 39 = .ok (.getfield 10, 3) := by decide +kernel
theorem dX11_init_42 : decode cX11_init 42 = .ok (.getfield 26, 3) := by decide +kernel
theorem dX11_init_45 : decode cX11_init 45 = .ok (.putfield 30, 3) := by decide +kernel
theorem dX11_init_48 : decode cX11_init 48 = .ok (.aload_n 0, 1) := by decide +kernel
theorem dX11_init_49 : decode cX11_init 49 = .ok (.new 31, 3) := by decide +kernel
theorem dX11_init_52 : decode cX11_init 52 = .ok (.dup, 1) := by decide +kernel
theorem dX11_init_53 : decode cX11_init 53 = .ok (.invokespecial 33, 3) := by decide +kernel
theorem dX11_init_56 : decode cX11_init 56 = .ok (.putfield 34, 3) := by decide +kernel
theorem dX11_init_59 : decode cX11_init 59 = .ok (.aload_n 0, 1) := by decide +kernel
theorem dX11_init_60 : decode cX11_init 60 = .ok (.new 38, 3) := by decide +kernel
theorem dX11_init_63 : decode cX11_init 63 = .ok (.dup, 1) := by decide +kernel
theorem dX11_init_64 : decode cX11_init 64 = .ok (.invokespecial 40, 3) := by decide +kernel
theorem dX11_init_67 : decode cX11_init 67 = .ok (.putfield 41, 3) := by decide +kernel
theorem dX11_init_70 : decode cX11_init 70 = .ok (.aload_n 0, 1) := by decide +kernel
theorem dX11_init_71 : decode cX11_init 71 = .ok (.new 45, 3) := by decide +kernel
theorem dX11_init_74 : decode cX11_init 74 = .ok (.dup, 1) := by decide +kernel
theorem dX11_init_75 : decode cX11_init 75 = .ok (.invokespecial 47, 3) := by decide +kernel
theorem dX11_init_78 : decode cX11_init 78 = .ok (.putfield 48, 3) := by decide +kernel
theorem dX11_init_81 : decode cX11_init 81 = .ok (.aload_n 0, 1) := by decide +kernel
theorem dX11_init_82 : decode cX11_init 82 = .ok (.new 52, 3) := by decide +kernel
theorem dX11_init_85 : decode cX11_init 85 = .ok (.dup, 1) := by decide +kernel
theorem dX11_init_86 : decode cX11_init 86 = .ok (.invokespecial 54, 3) := by decide +kernel
theorem dX11_init_89 : decode cX11_init 89 = .ok (.putfield 55, 3) := by decide +kernel
theorem dX11_init_92 : decode cX11_init 92 = .ok (.aload_n 0, 1) := by decide +kernel
theorem dX11_init_93 : decode cX11_init 93 = .ok (.new 59, 3) := by decide +kernel
theorem dX11_init_96 : decode cX11_init 96 = .ok (.dup, 1) := by decide +kernel
theorem dX11_init_97 : decode cX11_init 97 = .ok (.invokespecial 61, 3) := by decide +kernel
theorem dX11_init_100 : decode cX11_init 100 = .ok (.putfield 62, 3) := by decide +kernel
theorem dX11_init_103 : decode cX11_init 103 = .ok (.aload_n 0, 1) := by decide +kernel
theorem dX11_init_104 : decode cX11_init 104 = .ok (.new 66, 3) := by decide +kernel
theorem dX11_init_107 : decode cX11_init 107 = .ok (.dup, 1) := by decide +kernel
theorem dX11_init_108 : decode cX11_init 108 = .ok (.invokespecial 68, 3) := by decide +kernel
theorem dX11_init_111 : decode cX11_init 111 = .ok (.putfield 69, 3) := by decide +kernel
theorem dX11_init_114 : decode cX11_init 114 = .ok (.aload_n 0, 1) := by decide +kernel
theorem dX11_init_115 : decode cX11_init 115 = .ok (.new 73, 3) := by decide +kernel
theorem dX11_init_118 : decode cX11_init 118 = .ok (.dup, 1) := by decide +kernel
theorem dX11_init_119 : decode cX11_init 119 = .ok (.invokespecial 75, 3) := by decide +kernel
theorem dX11_init_122 : decode cX11_init 122 = .ok (.putfield 76, 3) := by decide +kernel
theorem dX11_init_125 : decode cX11_init 125 = .ok (.return_, 1) := by decide +kernel
theorem dX11_column_0 : decode cX11_column 0 = .ok (.aload_n 0, 1) := by decide +kernel
theorem dX11_column_1 : decode cX11_column 1 = .ok (.getfield 20, 3) := by decide +kernel
theorem dX11_column_4 : decode cX11_column 4 = .ok (.iload_n 1, 1) := by decide +kernel
theorem dX11_column_5 : decode cX11_column 5 = .ok (.invokevirtual 80, 3) := by decide +kernel
theorem dX11_column_8 : decode cX11_column 8 = .ok (.ifCond .ne 7, 3) := by decide +kernel
theorem dX11_column_11 : decode cX11_column 11 = .ok (.sipush (-1001), 3) := by decide +kernel
theorem dX11_column_14 : decode cX11_column 14 = .ok (.ireturn, 1) := by decide +kernel
theorem dX11_column_15 : decode cX11_column 15 = .ok (.iload_n 2, 1) := by decide +kernel
theorem dX11_column_16 : decode cX11_column 16 = .ok (.iconst 0, 1) := by decide +kernel
theorem dX11_column_17 : decode cX11_column 17 = .ok (.iconst 1, 1) := by decide +kernel
theorem dX11_column_18 : decode cX11_column 18 = .ok (.invokestatic 86, 3) := by decide +kernel
theorem dX11_column_21 : decode cX11_column 21 = .ok (.ifCond .ne 24, 3) := by decide +kernel
theorem dX11_column_24 : decode cX11_column 24 = .ok (.iload_n 3, 1) := by decide +kernel
theorem dX11_column_25 : decode cX11_column 25 = .ok (.iconst 0, 1) := by decide +kernel
theorem dX11_column_26 : decode cX11_column 26 = .ok (.iload_n 2, 1) := by decide +kernel
theorem dX11_column_27 : decode cX11_column 27 = .ok (.ifCond .ne 9, 3) := by decide +kernel
theorem dX11_column_30 : decode cX11_column 30 = .ok (.sipush 999, 3) := by decide +kernel
theorem dX11_column_33 : decode cX11_column 33 = .ok (.goto 6, 3) := by decide +kernel
theorem dX11_column_36 : decode cX11_column 36 = .ok (.sipush 400, 3) := by decide +kernel
theorem dX11_column_39 : decode cX11_column 39 = .ok (.invokestatic 86, 3) := by decide +kernel
theorem dX11_column_42 : decode cX11_column 42 = .ok (.ifCond .eq 7, 3) := by decide +kernel
theorem dX11_column_45 : decode cX11_column 45 = .ok (.sipush (-1002), 3) := by decide +kernel
theorem dX11_column_48 : decode cX11_column 48 = .ok (.ireturn, 1) := by decide +kernel
theorem dX11_column_49 : decode cX11_column 49 = .ok (.iload_n 2, 1) := by decide +kernel
theorem dX11_column_50 : decode cX11_column 50 = .ok (.ifCond .ne 13, 3) := by decide +kernel
theorem dX11_column_53 : decode cX11_column 53 = .ok (.aload_n 0, 1) := by decide +kernel
theorem dX11_column_54 : decode cX11_column 54 = .ok (.getfield 20, 3) := by decide +kernel
theorem dX11_column_57 : decode cX11_column 57 = .ok (.getfield 90, 3) := by decide +kernel
theorem dX11_column_60 : decode cX11_column 60 = .ok (.goto 10, 3) := by decide +kernel
theorem dX11_column_63 : decode cX11_column 63 = .ok (.aload_n 0, 1) := by decide +kernel
theorem dX11_column_64 : decode cX11_column 64 = .ok (.getfield 20, 3) := by decide +kernel
theorem dX11_column_67 : decode cX11_column 67 = .ok (.getfield 94, 3) := by decide +kernel
theorem dX11_column_70 : decode cX11_column 70 = .ok (.astore 4, 2) := by decide +kernel
theorem dX11_column_72 : decode cX11_column 72 = .ok (.aload 4, 2) := by decide +kernel
theorem dX11_column_74 : decode cX11_column 74 = .ok (.iload_n 1, 1) := by decide +kernel
theorem dX11_column_75 : decode cX11_column 75 = .ok (.iaload, 1) := by decide +kernel
theorem dX11_column_76 : decode cX11_column 76 = .ok (.istore 5, 2) := by decide +kernel
theorem dX11_column_78 : decode cX11_column 78 = .ok (.aload 4, 2) := by decide +kernel
theorem dX11_column_80 : decode cX11_column 80 = .ok (.iload_n 1, 1) := by decide +kernel
theorem dX11_column_81 : decode cX11_column 81 = .ok (.iload_n 3, 1) := by decide +kernel
theorem dX11_column_82 : decode cX11_column 82 = .ok (.iastore, 1) := by decide +kernel
theorem dX11_column_83 : decode cX11_column 83 = .ok (.aload_n 0, 1) := by decide +kernel
theorem dX11_column_84 : decode cX11_column 84 = .ok (.getfield 34, 3) := by decide +kernel
theorem dX11_column_87 : decode cX11_column 87 = .ok (.invokevirtual 97, 3) := by decide +kernel
theorem dX11_column_90 : decode cX11_column 90 = .ok (.iload 5, 2) := by decide +kernel
theorem dX11_column_92 : decode cX11_column 92 = .ok (.ireturn, 1) := by decide +kernel
theorem dX11_layer_0 : decode cX11_layer 0 = .ok (.aload_n 0, 1) := by decide +kernel
theorem dX11_layer_1 : decode cX11_layer 1 = .ok (.getfield 20, 3) := by decide +kernel
theorem dX11_layer_4 : decode cX11_layer 4 = .ok (.iload_n 1, 1) := by decide +kernel
theorem dX11_layer_5 : decode cX11_layer 5 = .ok (.invokevirtual 80, 3) := by decide +kernel
theorem dX11_layer_8 : decode cX11_layer 8 = .ok (.ifCond .ne 7, 3) := by decide +kernel
theorem dX11_layer_11 : decode cX11_layer 11 = .ok (.sipush (-1001), 3) := by decide +kernel
theorem dX11_layer_14 : decode cX11_layer 14 = .ok (.ireturn, 1) := by decide +kernel
theorem dX11_layer_15 : decode cX11_layer 15 = .ok (.iload_n 2, 1) := by decide +kernel
theorem dX11_layer_16 : decode cX11_layer 16 = .ok (.iconst 0, 1) := by decide +kernel
theorem dX11_layer_17 : decode cX11_layer 17 = .ok (.iconst 3, 1) := by decide +kernel
theorem dX11_layer_18 : decode cX11_layer 18 = .ok (.invokestatic 86, 3) := by decide +kernel
theorem dX11_layer_21 : decode cX11_layer 21 = .ok (.ifCond .ne 24, 3) := by decide +kernel
theorem dX11_layer_24 : decode cX11_layer 24 = .ok (.iload_n 3, 1) := by decide +kernel
theorem dX11_layer_25 : decode cX11_layer 25 = .ok (.iconst 1, 1) := by decide +kernel
theorem dX11_layer_26 : decode cX11_layer 26 = .ok (.bipush 60, 2) := by decide +kernel
theorem dX11_layer_28 : decode cX11_layer 28 = .ok (.invokestatic 86, 3) := by decide +kernel
theorem dX11_layer_31 : decode cX11_layer 31 = .ok (.ifCond .ne 14, 3) := by decide +kernel
theorem dX11_layer_34 : decode cX11_layer 34 = .ok (.iload 4, 2) := by decide +kernel
theorem dX11_layer_36 : decode cX11_layer 36 = .ok (.iconst 0, 1) := by decide +kernel
theorem dX11_layer_37 : decode cX11_layer 37 = .ok (.bipush 100, 2) := by decide +kernel
theorem dX11_layer_39 : decode cX11_layer 39 = .ok (.invokestatic 86, 3) := by decide +kernel
theorem dX11_layer_42 : decode cX11_layer 42 = .ok (.ifCond .eq 7, 3) := by decide +kernel
theorem dX11_layer_45 : decode cX11_layer 45 = .ok (.sipush (-1002), 3) := by decide +kernel
theorem dX11_layer_48 : decode cX11_layer 48 = .ok (.ireturn, 1) := by decide +kernel
theorem dX11_layer_49 : decode cX11_layer 49 = .ok (.aload_n 0, 1) := by decide +kernel
theorem dX11_layer_50 : decode cX11_layer 50 = .ok (.getfield 20, 3) := by decide +kernel
theorem dX11_layer_53 : decode cX11_layer 53 = .ok (.getfield 100, 3) := by decide +kernel
theorem dX11_layer_56 : decode cX11_layer 56 = .ok (.iload_n 1, 1) := by decide +kernel
theorem dX11_layer_57 : decode cX11_layer 57 = .ok (.iaload, 1) := by decide +kernel
theorem dX11_layer_58 : decode cX11_layer 58 = .ok (.bipush 6, 2) := by decide +kernel
theorem dX11_layer_60 : decode cX11_layer 60 = .ok (.if_icmp .lt 7, 3) := by decide +kernel
theorem dX11_layer_63 : decode cX11_layer 63 = .ok (.sipush (-1004), 3) := by decide +kernel
theorem dX11_layer_66 : decode cX11_layer 66 = .ok (.ireturn, 1) := by decide +kernel
theorem dX11_layer_67 : decode cX11_layer 67 = .ok (.aload_n 0, 1) := by decide +kernel
theorem dX11_layer_68 : decode cX11_layer 68 = .ok (.getfield 34, 3) := by decide +kernel
theorem dX11_layer_71 : decode cX11_layer 71 = .ok (.invokevirtual 97, 3) := by decide +kernel
theorem dX11_layer_74 : decode cX11_layer 74 = .ok (.aload_n 0, 1) := by decide +kernel
theorem dX11_layer_75 : decode cX11_layer 75 = .ok (.getfield 20, 3) := by decide +kernel
theorem dX11_layer_78 : decode cX11_layer 78 = .ok (.iload_n 1, 1) := by decide +kernel
theorem dX11_layer_79 : decode cX11_layer 79 = .ok (.iload_n 2, 1) := by decide +kernel
theorem dX11_layer_80 : decode cX11_layer 80 = .ok (.iload_n 3, 1) := by decide +kernel
theorem dX11_layer_81 : decode cX11_layer 81 = .ok (.iload 4, 2) := by decide +kernel
theorem dX11_layer_83 : decode cX11_layer 83 = .ok (.invokevirtual 103, 3) := by decide +kernel
theorem dX11_layer_86 : decode cX11_layer 86 = .ok (.ireturn, 1) := by decide +kernel
theorem dX11_loose_0 : decode cX11_loose 0 = .ok (.aload_n 0, 1) := by decide +kernel
theorem dX11_loose_1 : decode cX11_loose 1 = .ok (.getfield 20, 3) := by decide +kernel
theorem dX11_loose_4 : decode cX11_loose 4 = .ok (.iload_n 1, 1) := by decide +kernel
theorem dX11_loose_5 : decode cX11_loose 5 = .ok (.iload_n 2, 1) := by decide +kernel
theorem dX11_loose_6 : decode cX11_loose 6 = .ok (.invokevirtual 107, 3) := by decide +kernel
theorem dX11_loose_9 : decode cX11_loose 9 = .ok (.ifCond .ne 7, 3) := by decide +kernel
theorem dX11_loose_12 : decode cX11_loose 12 = .ok (.sipush (-1001), 3) := by decide +kernel
theorem dX11_loose_15 : decode cX11_loose 15 = .ok (.ireturn, 1) := by decide +kernel
theorem dX11_loose_16 : decode cX11_loose 16 = .ok (.iload_n 3, 1) := by decide +kernel
theorem dX11_loose_17 : decode cX11_loose 17 = .ok (.iconst 0, 1) := by decide +kernel
theorem dX11_loose_18 : decode cX11_loose 18 = .ok (.bipush 100, 2) := by decide +kernel
theorem dX11_loose_20 : decode cX11_loose 20 = .ok (.invokestatic 86, 3) := by decide +kernel
theorem dX11_loose_23 : decode cX11_loose 23 = .ok (.ifCond .ne 14, 3) := by decide +kernel
theorem dX11_loose_26 : decode cX11_loose 26 = .ok (.iload 4, 2) := by decide +kernel
theorem dX11_loose_28 : decode cX11_loose 28 = .ok (.iconst 1, 1) := by decide +kernel
theorem dX11_loose_29 : decode cX11_loose 29 = .ok (.bipush 9, 2) := by decide +kernel
theorem dX11_loose_31 : decode cX11_loose 31 = .ok (.invokestatic 86, 3) := by decide +kernel
theorem dX11_loose_34 : decode cX11_loose 34 = .ok (.ifCond .eq 7, 3) := by decide +kernel
theorem dX11_loose_37 : decode cX11_loose 37 = .ok (.sipush (-1002), 3) := by decide +kernel
theorem dX11_loose_40 : decode cX11_loose 40 = .ok (.ireturn, 1) := by decide +kernel
theorem dX11_loose_41 : decode cX11_loose 41 = .ok (.aload_n 0, 1) := by decide +kernel
theorem dX11_loose_42 : decode cX11_loose 42 = .ok (.getfield 20, 3) := by decide +kernel
theorem dX11_loose_45 : decode cX11_loose 45 = .ok (.iload_n 1, 1) := by decide +kernel
theorem dX11_loose_46 : decode cX11_loose 46 = .ok (.iload_n 2, 1) := by decide +kernel
theorem dX11_loose_47 : decode cX11_loose 47 = .ok (.iload_n 3, 1) := by decide +kernel
theorem dX11_loose_48 : decode cX11_loose 48 = .ok (.invokevirtual 111, 3) := by decide +kernel
theorem dX11_loose_51 : decode cX11_loose 51 = .ok (.ifCond .eq 7, 3) := by decide +kernel
theorem dX11_loose_54 : decode cX11_loose 54 = .ok (.sipush (-1003), 3) := by decide +kernel
theorem dX11_loose_57 : decode cX11_loose 57 = .ok (.ireturn, 1) := by decide +kernel
theorem dX11_loose_58 : decode cX11_loose 58 = .ok (.aload_n 0, 1) := by decide +kernel
theorem dX11_loose_59 : decode cX11_loose 59 = .ok (.getfield 20, 3) := by decide +kernel
theorem dX11_loose_62 : decode cX11_loose 62 = .ok (.getfield 114, 3) := by decide +kernel
theorem dX11_loose_65 : decode cX11_loose 65 = .ok (.iload_n 1, 1) := by decide +kernel
theorem dX11_loose_66 : decode cX11_loose 66 = .ok (.bipush 6, 2) := by decide +kernel
theorem dX11_loose_68 : decode cX11_loose 68 = .ok (.imul, 1) := by decide +kernel
theorem dX11_loose_69 : decode cX11_loose 69 = .ok (.iload_n 2, 1) := by decide +kernel
theorem dX11_loose_70 : decode cX11_loose 70 = .ok (.iadd, 1) := by decide +kernel
theorem dX11_loose_71 : decode cX11_loose 71 = .ok (.iaload, 1) := by decide +kernel
theorem dX11_loose_72 : decode cX11_loose 72 = .ok (.iconst 3, 1) := by decide +kernel
theorem dX11_loose_73 : decode cX11_loose 73 = .ok (.if_icmp .lt 7, 3) := by decide +kernel
theorem dX11_loose_76 : decode cX11_loose 76 = .ok (.sipush (-1004), 3) := by decide +kernel
theorem dX11_loose_79 : decode cX11_loose 79 = .ok (.ireturn, 1) := by decide +kernel
theorem dX11_loose_80 : decode cX11_loose 80 = .ok (.aload_n 0, 1) := by decide +kernel
theorem dX11_loose_81 : decode cX11_loose 81 = .ok (.getfield 34, 3) := by decide +kernel
theorem dX11_loose_84 : decode cX11_loose 84 = .ok (.invokevirtual 97, 3) := by decide +kernel
theorem dX11_loose_87 : decode cX11_loose 87 = .ok (.aload_n 0, 1) := by decide +kernel
theorem dX11_loose_88 : decode cX11_loose 88 = .ok (.getfield 20, 3) := by decide +kernel
theorem dX11_loose_91 : decode cX11_loose 91 = .ok (.iload_n 1, 1) := by decide +kernel
theorem dX11_loose_92 : decode cX11_loose 92 = .ok (.iload_n 2, 1) := by decide +kernel
theorem dX11_loose_93 : decode cX11_loose 93 = .ok (.iload_n 3, 1) := by decide +kernel
theorem dX11_loose_94 : decode cX11_loose 94 = .ok (.iload 4, 2) := by decide +kernel
theorem dX11_loose_96 : decode cX11_loose 96 = .ok (.invokevirtual 117, 3) := by decide +kernel
theorem dX11_loose_99 : decode cX11_loose 99 = .ok (.ireturn, 1) := by decide +kernel
theorem dX11_about_0 : decode cX11_about 0 = .ok (.aload_n 0, 1) := by decide +kernel
theorem dX11_about_1 : decode cX11_about 1 = .ok (.getfield 20, 3) := by decide +kernel
theorem dX11_about_4 : decode cX11_about 4 = .ok (.iload_n 1, 1) := by decide +kernel
theorem dX11_about_5 : decode cX11_about 5 = .ok (.iload_n 2, 1) := by decide +kernel
theorem dX11_about_6 : decode cX11_about 6 = .ok (.invokevirtual 107, 3) := by decide +kernel
theorem dX11_about_9 : decode cX11_about 9 = .ok (.ifCond .ne 7, 3) := by decide +kernel
theorem dX11_about_12 : decode cX11_about 12 = .ok (.sipush (-1001), 3) := by decide +kernel
theorem dX11_about_15 : decode cX11_about 15 = .ok (.ireturn, 1) := by decide +kernel
theorem dX11_about_16 : decode cX11_about 16 = .ok (.iload_n 3, 1) := by decide +kernel
theorem dX11_about_17 : decode cX11_about 17 = .ok (.tableswitch 126 0 5 #[39, 54, 69, 84, 94, 112], 39) := by decide +kernel
theorem dX11_about_56 : decode cX11_about 56 = .ok (.aload_n 0, 1) := by decide +kernel
theorem dX11_about_57 : decode cX11_about 57 = .ok (.getfield 20, 3) := by decide +kernel
theorem dX11_about_60 : decode cX11_about 60 = .ok (.getfield 120, 3) := by decide +kernel
theorem dX11_about_63 : decode cX11_about 63 = .ok (.iload_n 1, 1) := by decide +kernel
theorem dX11_about_64 : decode cX11_about 64 = .ok (.bipush 6, 2) := by decide +kernel
theorem dX11_about_66 : decode cX11_about 66 = .ok (.imul, 1) := by decide +kernel
theorem dX11_about_67 : decode cX11_about 67 = .ok (.iload_n 2, 1) := by decide +kernel
theorem dX11_about_68 : decode cX11_about 68 = .ok (.iadd, 1) := by decide +kernel
theorem dX11_about_69 : decode cX11_about 69 = .ok (.iaload, 1) := by decide +kernel
theorem dX11_about_70 : decode cX11_about 70 = .ok (.ireturn, 1) := by decide +kernel
theorem dX11_about_71 : decode cX11_about 71 = .ok (.aload_n 0, 1) := by decide +kernel
theorem dX11_about_72 : decode cX11_about 72 = .ok (.getfield 20, 3) := by decide +kernel
theorem dX11_about_75 : decode cX11_about 75 = .ok (.getfield 123, 3) := by decide +kernel
theorem dX11_about_78 : decode cX11_about 78 = .ok (.iload_n 1, 1) := by decide +kernel
theorem dX11_about_79 : decode cX11_about 79 = .ok (.bipush 6, 2) := by decide +kernel
theorem dX11_about_81 : decode cX11_about 81 = .ok (.imul, 1) := by decide +kernel
theorem dX11_about_82 : decode cX11_about 82 = .ok (.iload_n 2, 1) := by decide +kernel
theorem dX11_about_83 : decode cX11_about 83 = .ok (.iadd, 1) := by decide +kernel
theorem dX11_about_84 : decode cX11_about 84 = .ok (.iaload, 1) := by decide +kernel
theorem dX11_about_85 : decode cX11_about 85 = .ok (.ireturn, 1) := by decide +kernel
theorem dX11_about_86 : decode cX11_about 86 = .ok (.aload_n 0, 1) := by decide +kernel
theorem dX11_about_87 : decode cX11_about 87 = .ok (.getfield 20, 3) := by decide +kernel
theorem dX11_about_90 : decode cX11_about 90 = .ok (.getfield 114, 3) := by decide +kernel
theorem dX11_about_93 : decode cX11_about 93 = .ok (.iload_n 1, 1) := by decide +kernel
theorem dX11_about_94 : decode cX11_about 94 = .ok (.bipush 6, 2) := by decide +kernel
theorem dX11_about_96 : decode cX11_about 96 = .ok (.imul, 1) := by decide +kernel
theorem dX11_about_97 : decode cX11_about 97 = .ok (.iload_n 2, 1) := by decide +kernel
theorem dX11_about_98 : decode cX11_about 98 = .ok (.iadd, 1) := by decide +kernel
theorem dX11_about_99 : decode cX11_about 99 = .ok (.iaload, 1) := by decide +kernel
theorem dX11_about_100 : decode cX11_about 100 = .ok (.ireturn, 1) := by decide +kernel
theorem dX11_about_101 : decode cX11_about 101 = .ok (.aload_n 0, 1) := by decide +kernel
theorem dX11_about_102 : decode cX11_about 102 = .ok (.getfield 20, 3) := by decide +kernel
theorem dX11_about_105 : decode cX11_about 105 = .ok (.iload_n 1, 1) := by decide +kernel
theorem dX11_about_106 : decode cX11_about 106 = .ok (.iload_n 2, 1) := by decide +kernel
theorem dX11_about_107 : decode cX11_about 107 = .ok (.invokevirtual 126, 3) := by decide +kernel
theorem dX11_about_110 : decode cX11_about 110 = .ok (.ireturn, 1) := by decide +kernel
theorem dX11_about_111 : decode cX11_about 111 = .ok (.aload_n 0, 1) := by decide +kernel
theorem dX11_about_112 : decode cX11_about 112 = .ok (.getfield 20, 3) := by decide +kernel
theorem dX11_about_115 : decode cX11_about 115 = .ok (.iload_n 1, 1) := by decide +kernel
theorem dX11_about_116 : decode cX11_about 116 = .ok (.iload_n 2, 1) := by decide +kernel
theorem dX11_about_117 : decode cX11_about 117 = .ok (.invokevirtual 130, 3) := by decide +kernel
theorem dX11_about_120 : decode cX11_about 120 = .ok (.ifCond .eq 7, 3) := by decide +kernel
theorem dX11_about_123 : decode cX11_about 123 = .ok (.iconst 1, 1) := by decide +kernel
theorem dX11_about_124 : decode cX11_about 124 = .ok (.goto 4, 3) := by decide +kernel
theorem dX11_about_127 : decode cX11_about 127 = .ok (.iconst 0, 1) := by decide +kernel
theorem dX11_about_128 : decode cX11_about 128 = .ok (.ireturn, 1) := by decide +kernel
theorem dX11_about_129 : decode cX11_about 129 = .ok (.aload_n 0, 1) := by decide +kernel
theorem dX11_about_130 : decode cX11_about 130 = .ok (.getfield 20, 3) := by decide +kernel
theorem dX11_about_133 : decode cX11_about 133 = .ok (.iload_n 1, 1) := by decide +kernel
theorem dX11_about_134 : decode cX11_about 134 = .ok (.iload_n 2, 1) := by decide +kernel
theorem dX11_about_135 : decode cX11_about 135 = .ok (.aload_n 0, 1) := by decide +kernel
theorem dX11_about_136 : decode cX11_about 136 = .ok (.getfield 30, 3) := by decide +kernel
theorem dX11_about_139 : decode cX11_about 139 = .ok (.invokevirtual 133, 3) := by decide +kernel
theorem dX11_about_142 : decode cX11_about 142 = .ok (.ireturn, 1) := by decide +kernel
theorem dX11_about_143 : decode cX11_about 143 = .ok (.sipush (-1002), 3) := by decide +kernel
theorem dX11_about_146 : decode cX11_about 146 = .ok (.ireturn, 1) := by decide +kernel
theorem dX11_shake_0 : decode cX11_shake 0 = .ok (.iload_n 1, 1) := by decide +kernel
theorem dX11_shake_1 : decode cX11_shake 1 = .ok (.iconst 0, 1) := by decide +kernel
theorem dX11_shake_2 : decode cX11_shake 2 = .ok (.sipush 1000, 3) := by decide +kernel
theorem dX11_shake_5 : decode cX11_shake 5 = .ok (.invokestatic 86, 3) := by decide +kernel
theorem dX11_shake_8 : decode cX11_shake 8 = .ok (.ifCond .eq 7, 3) := by decide +kernel
theorem dX11_shake_11 : decode cX11_shake 11 = .ok (.sipush (-1002), 3) := by decide +kernel
theorem dX11_shake_14 : decode cX11_shake 14 = .ok (.ireturn, 1) := by decide +kernel
theorem dX11_shake_15 : decode cX11_shake 15 = .ok (.aload_n 0, 1) := by decide +kernel
theorem dX11_shake_16 : decode cX11_shake 16 = .ok (.getfield 25, 3) := by decide +kernel
theorem dX11_shake_19 : decode cX11_shake 19 = .ok (.getfield 137, 3) := by decide +kernel
theorem dX11_shake_22 : decode cX11_shake 22 = .ok (.bipush 6, 2) := by decide +kernel
theorem dX11_shake_24 : decode cX11_shake 24 = .ok (.if_icmp .lt 7, 3) := by decide +kernel
theorem dX11_shake_27 : decode cX11_shake 27 = .ok (.sipush (-1004), 3) := by decide +kernel
theorem dX11_shake_30 : decode cX11_shake 30 = .ok (.ireturn, 1) := by decide +kernel
theorem dX11_shake_31 : decode cX11_shake 31 = .ok (.aload_n 0, 1) := by decide +kernel
theorem dX11_shake_32 : decode cX11_shake 32 = .ok (.getfield 25, 3) := by decide +kernel
theorem dX11_shake_35 : decode cX11_shake 35 = .ok (.iload_n 1, 1) := by decide +kernel
theorem dX11_shake_36 : decode cX11_shake 36 = .ok (.invokevirtual 143, 3) := by decide +kernel
theorem dX11_shake_39 : decode cX11_shake 39 = .ok (.ireturn, 1) := by decide +kernel
theorem dX11_beat_0 : decode cX11_beat 0 = .ok (.aload_n 0, 1) := by decide +kernel
theorem dX11_beat_1 : decode cX11_beat 1 = .ok (.getfield 25, 3) := by decide +kernel
theorem dX11_beat_4 : decode cX11_beat 4 = .ok (.iload_n 1, 1) := by decide +kernel
theorem dX11_beat_5 : decode cX11_beat 5 = .ok (.invokevirtual 147, 3) := by decide +kernel
theorem dX11_beat_8 : decode cX11_beat 8 = .ok (.ifCond .ne 7, 3) := by decide +kernel
theorem dX11_beat_11 : decode cX11_beat 11 = .ok (.sipush (-1001), 3) := by decide +kernel
theorem dX11_beat_14 : decode cX11_beat 14 = .ok (.ireturn, 1) := by decide +kernel
theorem dX11_beat_15 : decode cX11_beat 15 = .ok (.iload_n 2, 1) := by decide +kernel
theorem dX11_beat_16 : decode cX11_beat 16 = .ok (.iconst 0, 1) := by decide +kernel
theorem dX11_beat_17 : decode cX11_beat 17 = .ok (.sipush 999, 3) := by decide +kernel
theorem dX11_beat_20 : decode cX11_beat 20 = .ok (.invokestatic 86, 3) := by decide +kernel
theorem dX11_beat_23 : decode cX11_beat 23 = .ok (.ifCond .eq 7, 3) := by decide +kernel
theorem dX11_beat_26 : decode cX11_beat 26 = .ok (.sipush (-1002), 3) := by decide +kernel
theorem dX11_beat_29 : decode cX11_beat 29 = .ok (.ireturn, 1) := by decide +kernel
theorem dX11_beat_30 : decode cX11_beat 30 = .ok (.aload_n 0, 1) := by decide +kernel
theorem dX11_beat_31 : decode cX11_beat 31 = .ok (.getfield 25, 3) := by decide +kernel
theorem dX11_beat_34 : decode cX11_beat 34 = .ok (.getfield 150, 3) := by decide +kernel
theorem dX11_beat_37 : decode cX11_beat 37 = .ok (.iload_n 1, 1) := by decide +kernel
theorem dX11_beat_38 : decode cX11_beat 38 = .ok (.iaload, 1) := by decide +kernel
theorem dX11_beat_39 : decode cX11_beat 39 = .ok (.bipush 30, 2) := by decide +kernel
theorem dX11_beat_41 : decode cX11_beat 41 = .ok (.if_icmp .lt 7, 3) := by decide +kernel
theorem dX11_beat_44 : decode cX11_beat 44 = .ok (.sipush (-1004), 3) := by decide +kernel
theorem dX11_beat_47 : decode cX11_beat 47 = .ok (.ireturn, 1) := by decide +kernel
theorem dX11_beat_48 : decode cX11_beat 48 = .ok (.aload_n 0, 1) := by decide +kernel
theorem dX11_beat_49 : decode cX11_beat 49 = .ok (.getfield 34, 3) := by decide +kernel
theorem dX11_beat_52 : decode cX11_beat 52 = .ok (.invokevirtual 97, 3) := by decide +kernel
theorem dX11_beat_55 : decode cX11_beat 55 = .ok (.aload_n 0, 1) := by decide +kernel
theorem dX11_beat_56 : decode cX11_beat 56 = .ok (.getfield 25, 3) := by decide +kernel
theorem dX11_beat_59 : decode cX11_beat 59 = .ok (.iload_n 1, 1) := by decide +kernel
theorem dX11_beat_60 : decode cX11_beat 60 = .ok (.iload_n 2, 1) := by decide +kernel
theorem dX11_beat_61 : decode cX11_beat 61 = .ok (.invokevirtual 153, 3) := by decide +kernel
theorem dX11_beat_64 : decode cX11_beat 64 = .ok (.ireturn, 1) := by decide +kernel
theorem dX11_count_0 : decode cX11_count 0 = .ok (.iload_n 1, 1) := by decide +kernel
theorem dX11_count_1 : decode cX11_count 1 = .ok (.tableswitch 132 0 8 #[51, 62, 70, 81, 89, 100, 108, 116, 124], 51) := by decide +kernel
theorem dX11_count_52 : decode cX11_count 52 = .ok (.aload_n 0, 1) := by decide +kernel
theorem dX11_count_53 : decode cX11_count 53 = .ok (.getfield 20, 3) := by decide +kernel
theorem dX11_count_56 : decode cX11_count 56 = .ok (.getfield 100, 3) := by decide +kernel
theorem dX11_count_59 : decode cX11_count 59 = .ok (.invokestatic 156, 3) := by decide +kernel
theorem dX11_count_62 : decode cX11_count 62 = .ok (.ireturn, 1) := by decide +kernel
theorem dX11_count_63 : decode cX11_count 63 = .ok (.aload_n 0, 1) := by decide +kernel
theorem dX11_count_64 : decode cX11_count 64 = .ok (.getfield 25, 3) := by decide +kernel
theorem dX11_count_67 : decode cX11_count 67 = .ok (.getfield 137, 3) := by decide +kernel
theorem dX11_count_70 : decode cX11_count 70 = .ok (.ireturn, 1) := by decide +kernel
theorem dX11_count_71 : decode cX11_count 71 = .ok (.aload_n 0, 1) := by decide +kernel
theorem dX11_count_72 : decode cX11_count 72 = .ok (.getfield 25, 3) := by decide +kernel
theorem dX11_count_75 : decode cX11_count 75 = .ok (.getfield 150, 3) := by decide +kernel
theorem dX11_count_78 : decode cX11_count 78 = .ok (.invokestatic 156, 3) := by decide +kernel
theorem dX11_count_81 : decode cX11_count 81 = .ok (.ireturn, 1) := by decide +kernel
theorem dX11_count_82 : decode cX11_count 82 = .ok (.aload_n 0, 1) := by decide +kernel
theorem dX11_count_83 : decode cX11_count 83 = .ok (.getfield 34, 3) := by decide +kernel
theorem dX11_count_86 : decode cX11_count 86 = .ok (.getfield 160, 3) := by decide +kernel
theorem dX11_count_89 : decode cX11_count 89 = .ok (.ireturn, 1) := by decide +kernel
theorem dX11_count_90 : decode cX11_count 90 = .ok (.aload_n 0, 1) := by decide +kernel
theorem dX11_count_91 : decode cX11_count 91 = .ok (.getfield 34, 3) := by decide +kernel
theorem dX11_count_94 : decode cX11_count 94 = .ok (.getfield 161, 3) := by decide +kernel
theorem dX11_count_97 : decode cX11_count 97 = .ok (.invokestatic 164, 3) := by decide +kernel
theorem dX11_count_100 : decode cX11_count 100 = .ok (.ireturn, 1) := by decide +kernel
theorem dX11_count_101 : decode cX11_count 101 = .ok (.aload_n 0, 1) := by decide +kernel
theorem dX11_count_102 : decode cX11_count 102 = .ok (.getfield 41, 3) := by decide +kernel
theorem dX11_count_105 : decode cX11_count 105 = .ok (.getfield 169, 3) := by decide +kernel
theorem dX11_count_108 : decode cX11_count 108 = .ok (.ireturn, 1) := by decide +kernel
theorem dX11_count_109 : decode cX11_count 109 = .ok (.aload_n 0, 1) := by decide +kernel
theorem dX11_count_110 : decode cX11_count 110 = .ok (.getfield 48, 3) := by decide +kernel
theorem dX11_count_113 : decode cX11_count 113 = .ok (.getfield 170, 3) := by decide +kernel
theorem dX11_count_116 : decode cX11_count 116 = .ok (.ireturn, 1) := by decide +kernel
theorem dX11_count_117 : decode cX11_count 117 = .ok (.aload_n 0, 1) := by decide +kernel
theorem dX11_count_118 : decode cX11_count 118 = .ok (.getfield 55, 3) := by decide +kernel
theorem dX11_count_121 : decode cX11_count 121 = .ok (.getfield 171, 3) := by decide +kernel
theorem dX11_count_124 : decode cX11_count 124 = .ok (.ireturn, 1) := by decide +kernel
theorem dX11_count_125 : decode cX11_count 125 = .ok (.aload_n 0, 1) := by decide +kernel
theorem dX11_count_126 : decode cX11_count 126 = .ok (.getfield 76, 3) := by decide +kernel
theorem dX11_count_129 : decode cX11_count 129 = .ok (.getfield 172, 3) := by decide +kernel
theorem dX11_count_132 : decode cX11_count 132 = .ok (.ireturn, 1) := by decide +kernel
theorem dX11_count_133 : decode cX11_count 133 = .ok (.sipush (-1002), 3) := by decide +kernel
theorem dX11_count_136 : decode cX11_count 136 = .ok (.ireturn, 1) := by decide +kernel
theorem dX11_run_0 : decode cX11_run 0 = .ok (.aload_n 0, 1) := by decide +kernel
theorem dX11_run_1 : decode cX11_run 1 = .ok (.getfield 20, 3) := by decide +kernel
theorem dX11_run_4 : decode cX11_run 4 = .ok (.iload_n 1, 1) := by decide +kernel
theorem dX11_run_5 : decode cX11_run 5 = .ok (.iload_n 3, 1) := by decide +kernel
theorem dX11_run_6 : decode cX11_run 6 = .ok (.invokevirtual 107, 3) := by decide +kernel
theorem dX11_run_9 : decode cX11_run 9 = .ok (.ifCond .eq 14, 3) := by decide +kernel
theorem dX11_run_12 : decode cX11_run 12 = .ok (.aload_n 0, 1) := by decide +kernel
theorem dX11_run_13 : decode cX11_run 13 = .ok (.getfield 25, 3) := by decide +kernel
theorem dX11_run_16 : decode cX11_run 16 = .ok (.iload_n 2, 1) := by decide +kernel
theorem dX11_run_17 : decode cX11_run 17 = .ok (.invokevirtual 147, 3) := by decide +kernel
theorem dX11_run_20 : decode cX11_run 20 = .ok (.ifCond .ne 7, 3) := by decide +kernel
theorem dX11_run_23 : decode cX11_run 23 = .ok (.sipush (-1001), 3) := by decide +kernel
theorem dX11_run_26 : decode cX11_run 26 = .ok (.ireturn, 1) := by decide +kernel
theorem dX11_run_27 : decode cX11_run 27 = .ok (.iload 4, 2) := by decide +kernel
theorem dX11_run_29 : decode cX11_run 29 = .ok (.iconst 0, 1) := by decide +kernel
theorem dX11_run_30 : decode cX11_run 30 = .ok (.iconst 1, 1) := by decide +kernel
theorem dX11_run_31 : decode cX11_run 31 = .ok (.invokestatic 86, 3) := by decide +kernel
theorem dX11_run_34 : decode cX11_run 34 = .ok (.ifCond .eq 7, 3) := by decide +kernel
theorem dX11_run_37 : decode cX11_run 37 = .ok (.sipush (-1002), 3) := by decide +kernel
theorem dX11_run_40 : decode cX11_run 40 = .ok (.ireturn, 1) := by decide +kernel
theorem dX11_run_41 : decode cX11_run 41 = .ok (.aload_n 0, 1) := by decide +kernel
theorem dX11_run_42 : decode cX11_run 42 = .ok (.getfield 10, 3) := by decide +kernel
theorem dX11_run_45 : decode cX11_run 45 = .ok (.iload_n 1, 1) := by decide +kernel
theorem dX11_run_46 : decode cX11_run 46 = .ok (.iload_n 2, 1) := by decide +kernel
theorem dX11_run_47 : decode cX11_run 47 = .ok (.invokevirtual 175, 3) := by decide +kernel
theorem dX11_run_50 : decode cX11_run 50 = .ok (.iload 4, 2) := by decide +kernel
theorem dX11_run_52 : decode cX11_run 52 = .ok (.ifCond .ne 15, 3) := by decide +kernel
theorem dX11_run_55 : decode cX11_run 55 = .ok (.aload_n 0, 1) := by decide +kernel
theorem dX11_run_56 : decode cX11_run 56 = .ok (.getfield 10, 3) := by decide +kernel
theorem dX11_run_59 : decode cX11_run 59 = .ok (.getfield 179, 3) := by decide +kernel
theorem dX11_run_62 : decode cX11_run 62 = .ok (.iload_n 3, 1) := by decide +kernel
theorem dX11_run_63 : decode cX11_run 63 = .ok (.iaload, 1) := by decide +kernel
theorem dX11_run_64 : decode cX11_run 64 = .ok (.goto 12, 3) := by decide +kernel
theorem dX11_run_67 : decode cX11_run 67 = .ok (.aload_n 0, 1) := by decide +kernel
theorem dX11_run_68 : decode cX11_run 68 = .ok (.getfield 10, 3) := by decide +kernel
theorem dX11_run_71 : decode cX11_run 71 = .ok (.getfield 182, 3) := by decide +kernel
theorem dX11_run_74 : decode cX11_run 74 = .ok (.iload_n 3, 1) := by decide +kernel
theorem dX11_run_75 : decode cX11_run 75 = .ok (.iaload, 1) := by decide +kernel
theorem dX11_run_76 : decode cX11_run 76 = .ok (.ireturn, 1) := by decide +kernel
theorem dX11_choices_0 : decode cX11_choices 0 = .ok (.aload_n 0, 1) := by decide +kernel
theorem dX11_choices_1 : decode cX11_choices 1 = .ok (.getfield 20, 3) := by decide +kernel
theorem dX11_choices_4 : decode cX11_choices 4 = .ok (.iload_n 1, 1) := by decide +kernel
theorem dX11_choices_5 : decode cX11_choices 5 = .ok (.invokevirtual 80, 3) := by decide +kernel
theorem dX11_choices_8 : decode cX11_choices 8 = .ok (.ifCond .ne 7, 3) := by decide +kernel
theorem dX11_choices_11 : decode cX11_choices 11 = .ok (.sipush (-1001), 3) := by decide +kernel
theorem dX11_choices_14 : decode cX11_choices 14 = .ok (.ireturn, 1) := by decide +kernel
theorem dX11_choices_15 : decode cX11_choices 15 = .ok (.iload_n 2, 1) := by decide +kernel
theorem dX11_choices_16 : decode cX11_choices 16 = .ok (.iconst 3, 1) := by decide +kernel
theorem dX11_choices_17 : decode cX11_choices 17 = .ok (.if_icmp .ne 44, 3) := by decide +kernel
theorem dX11_choices_20 : decode cX11_choices 20 = .ok (.aload_n 0, 1) := by decide +kernel
theorem dX11_choices_21 : decode cX11_choices 21 = .ok (.getfield 20, 3) := by decide +kernel
theorem dX11_choices_24 : decode cX11_choices 24 = .ok (.iload_n 1, 1) := by decide +kernel
theorem dX11_choices_25 : decode cX11_choices 25 = .ok (.iload_n 3, 1) := by decide +kernel
theorem dX11_choices_26 : decode cX11_choices 26 = .ok (.invokevirtual 107, 3) := by decide +kernel
theorem dX11_choices_29 : decode cX11_choices 29 = .ok (.ifCond .eq 28, 3) := by decide +kernel
theorem dX11_choices_32 : decode cX11_choices 32 = .ok (.iload 4, 2) := by decide +kernel
theorem dX11_choices_34 : decode cX11_choices 34 = .ok (.iconst 0, 1) := by decide +kernel
theorem dX11_choices_35 : decode cX11_choices 35 = .ok (.aload_n 0, 1) := by decide +kernel
theorem dX11_choices_36 : decode cX11_choices 36 = .ok (.getfield 20, 3) := by decide +kernel
theorem dX11_choices_39 : decode cX11_choices 39 = .ok (.getfield 114, 3) := by decide +kernel
theorem dX11_choices_42 : decode cX11_choices 42 = .ok (.iload_n 1, 1) := by decide +kernel
theorem dX11_choices_43 : decode cX11_choices 43 = .ok (.bipush 6, 2) := by decide +kernel
theorem dX11_choices_45 : decode cX11_choices 45 = .ok (.imul, 1) := by decide +kernel
theorem dX11_choices_46 : decode cX11_choices 46 = .ok (.iload_n 3, 1) := by decide +kernel
theorem dX11_choices_47 : decode cX11_choices 47 = .ok (.iadd, 1) := by decide +kernel
theorem dX11_choices_48 : decode cX11_choices 48 = .ok (.iaload, 1) := by decide +kernel
theorem dX11_choices_49 : decode cX11_choices 49 = .ok (.iconst 1, 1) := by decide +kernel
theorem dX11_choices_50 : decode cX11_choices 50 = .ok (.isub, 1) := by decide +kernel
theorem dX11_choices_51 : decode cX11_choices 51 = .ok (.invokestatic 86, 3) := by decide +kernel
theorem dX11_choices_54 : decode cX11_choices 54 = .ok (.ifCond .eq 7, 3) := by decide +kernel
theorem dX11_choices_57 : decode cX11_choices 57 = .ok (.sipush (-1001), 3) := by decide +kernel
theorem dX11_choices_60 : decode cX11_choices 60 = .ok (.ireturn, 1) := by decide +kernel
theorem dX11_choices_61 : decode cX11_choices 61 = .ok (.iload_n 2, 1) := by decide +kernel
theorem dX11_choices_62 : decode cX11_choices 62 = .ok (.iconst 0, 1) := by decide +kernel
theorem dX11_choices_63 : decode cX11_choices 63 = .ok (.iconst 3, 1) := by decide +kernel
theorem dX11_choices_64 : decode cX11_choices 64 = .ok (.invokestatic 86, 3) := by decide +kernel
theorem dX11_choices_67 : decode cX11_choices 67 = .ok (.ifCond .eq 7, 3) := by decide +kernel
theorem dX11_choices_70 : decode cX11_choices 70 = .ok (.sipush (-1002), 3) := by decide +kernel
theorem dX11_choices_73 : decode cX11_choices 73 = .ok (.ireturn, 1) := by decide +kernel
theorem dX11_choices_74 : decode cX11_choices 74 = .ok (.iload_n 2, 1) := by decide +kernel
theorem dX11_choices_75 : decode cX11_choices 75 = .ok (.ifCond .ne 12, 3) := by decide +kernel
theorem dX11_choices_78 : decode cX11_choices 78 = .ok (.aload_n 0, 1) := by decide +kernel
theorem dX11_choices_79 : decode cX11_choices 79 = .ok (.getfield 20, 3) := by decide +kernel
theorem dX11_choices_82 : decode cX11_choices 82 = .ok (.iload_n 1, 1) := by decide +kernel
theorem dX11_choices_83 : decode cX11_choices 83 = .ok (.invokevirtual 185, 3) := by decide +kernel
theorem dX11_choices_86 : decode cX11_choices 86 = .ok (.ireturn, 1) := by decide +kernel
theorem dX11_choices_87 : decode cX11_choices 87 = .ok (.aload_n 0, 1) := by decide +kernel
theorem dX11_choices_88 : decode cX11_choices 88 = .ok (.getfield 34, 3) := by decide +kernel
theorem dX11_choices_91 : decode cX11_choices 91 = .ok (.aload_n 0, 1) := by decide +kernel
theorem dX11_choices_92 : decode cX11_choices 92 = .ok (.getfield 10, 3) := by decide +kernel
theorem dX11_choices_95 : decode cX11_choices 95 = .ok (.iload_n 1, 1) := by decide +kernel
theorem dX11_choices_96 : decode cX11_choices 96 = .ok (.invokevirtual 188, 3) := by decide +kernel
theorem dX11_choices_99 : decode cX11_choices 99 = .ok (.iload_n 2, 1) := by decide +kernel
theorem dX11_choices_100 : decode cX11_choices 100 = .ok (.iconst 2, 1) := by decide +kernel
theorem dX11_choices_101 : decode cX11_choices 101 = .ok (.if_icmp .ne 12, 3) := by decide +kernel
theorem dX11_choices_104 : decode cX11_choices 104 = .ok (.aload_n 0, 1) := by decide +kernel
theorem dX11_choices_105 : decode cX11_choices 105 = .ok (.getfield 34, 3) := by decide +kernel
theorem dX11_choices_108 : decode cX11_choices 108 = .ok (.iload_n 1, 1) := by decide +kernel
theorem dX11_choices_109 : decode cX11_choices 109 = .ok (.invokevirtual 192, 3) := by decide +kernel
theorem dX11_choices_112 : decode cX11_choices 112 = .ok (.ireturn, 1) := by decide +kernel
theorem dX11_choices_113 : decode cX11_choices 113 = .ok (.iload_n 2, 1) := by decide +kernel
theorem dX11_choices_114 : decode cX11_choices 114 = .ok (.iconst 1, 1) := by decide +kernel
theorem dX11_choices_115 : decode cX11_choices 115 = .ok (.if_icmp .ne 14, 3) := by decide +kernel
theorem dX11_choices_118 : decode cX11_choices 118 = .ok (.aload_n 0, 1) := by decide +kernel
theorem dX11_choices_119 : decode cX11_choices 119 = .ok (.getfield 34, 3) := by decide +kernel
theorem dX11_choices_122 : decode cX11_choices 122 = .ok (.iload_n 1, 1) := by decide +kernel
theorem dX11_choices_123 : decode cX11_choices 123 = .ok (.invokevirtual 195, 3) := by decide +kernel
theorem dX11_choices_126 : decode cX11_choices 126 = .ok (.goto 11, 3) := by decide +kernel
theorem dX11_choices_129 : decode cX11_choices 129 = .ok (.aload_n 0, 1) := by decide +kernel
theorem dX11_choices_130 : decode cX11_choices 130 = .ok (.iload_n 1, 1) := by decide +kernel
theorem dX11_choices_131 : decode cX11_choices 131 = .ok (.iload_n 3, 1) := by decide +kernel
theorem dX11_choices_132 : decode cX11_choices 132 = .ok (.iload 4, 2) := by decide +kernel
theorem dX11_choices_134 : decode cX11_choices 134 = .ok (.invokevirtual 198, 3) := by decide +kernel
theorem dX11_choices_137 : decode cX11_choices 137 = .ok (.ireturn, 1) := by decide +kernel
theorem dX11_keptWith_0 : decode cX11_keptWith 0 = .ok (.iconst 0, 1) := by decide +kernel
theorem dX11_keptWith_1 : decode cX11_keptWith 1 = .ok (.istore 4, 2) := by decide +kernel
theorem dX11_keptWith_3 : decode cX11_keptWith 3 = .ok (.aload_n 0, 1) := by decide +kernel
theorem dX11_keptWith_4 : decode cX11_keptWith 4 = .ok (.getfield 10, 3) := by decide +kernel
theorem dX11_keptWith_7 : decode cX11_keptWith 7 = .ok (.iload_n 1, 1) := by decide +kernel
theorem dX11_keptWith_8 : decode cX11_keptWith 8 = .ok (.invokevirtual 202, 3) := by decide +kernel
theorem dX11_keptWith_11 : decode cX11_keptWith 11 = .ok (.iconst 0, 1) := by decide +kernel
theorem dX11_keptWith_12 : decode cX11_keptWith 12 = .ok (.istore 5, 2) := by decide +kernel
theorem dX11_keptWith_14 : decode cX11_keptWith 14 = .ok (.iload 5, 2) := by decide +kernel
theorem dX11_keptWith_16 : decode cX11_keptWith 16 = .ok (.aload_n 0, 1) := by decide +kernel
theorem dX11_keptWith_17 : decode cX11_keptWith 17 = .ok (.getfield 34, 3) := by decide +kernel
theorem dX11_keptWith_20 : decode cX11_keptWith 20 = .ok (.getfield 206, 3) := by decide +kernel
theorem dX11_keptWith_23 : decode cX11_keptWith 23 = .ok (.iload_n 1, 1) := by decide +kernel
theorem dX11_keptWith_24 : decode cX11_keptWith 24 = .ok (.iaload, 1) := by decide +kernel
theorem dX11_keptWith_25 : decode cX11_keptWith 25 = .ok (.if_icmp .ge 50, 3) := by decide +kernel
theorem dX11_keptWith_28 : decode cX11_keptWith 28 = .ok (.aload_n 0, 1) := by decide +kernel
theorem dX11_keptWith_29 : decode cX11_keptWith 29 = .ok (.getfield 10, 3) := by decide +kernel
theorem dX11_keptWith_32 : decode cX11_keptWith 32 = .ok (.getfield 209, 3) := by decide +kernel
theorem dX11_keptWith_35 : decode cX11_keptWith 35 = .ok (.iload_n 2, 1) := by decide +kernel
theorem dX11_keptWith_36 : decode cX11_keptWith 36 = .ok (.iaload, 1) := by decide +kernel
theorem dX11_keptWith_37 : decode cX11_keptWith 37 = .ok (.iload_n 3, 1) := by decide +kernel
theorem dX11_keptWith_38 : decode cX11_keptWith 38 = .ok (.if_icmp .ne 24, 3) := by decide +kernel
theorem dX11_keptWith_41 : decode cX11_keptWith 41 = .ok (.aload_n 0, 1) := by decide +kernel
theorem dX11_keptWith_42 : decode cX11_keptWith 42 = .ok (.getfield 34, 3) := by decide +kernel
theorem dX11_keptWith_45 : decode cX11_keptWith 45 = .ok (.iload_n 1, 1) := by decide +kernel
theorem dX11_keptWith_46 : decode cX11_keptWith 46 = .ok (.aload_n 0, 1) := by decide +kernel
theorem dX11_keptWith_47 : decode cX11_keptWith 47 = .ok (.getfield 10, 3) := by decide +kernel
theorem dX11_keptWith_50 : decode cX11_keptWith 50 = .ok (.invokevirtual 212, 3) := by decide +kernel
theorem dX11_keptWith_53 : decode cX11_keptWith 53 = .ok (.invokevirtual 216, 3) := by decide +kernel
theorem dX11_keptWith_56 : decode cX11_keptWith 56 = .ok (.ifCond .eq 6, 3) := by decide +kernel
theorem dX11_keptWith_59 : decode cX11_keptWith 59 = .ok (.iinc 4 1, 3) := by decide +kernel
theorem dX11_keptWith_62 : decode cX11_keptWith 62 = .ok (.aload_n 0, 1) := by decide +kernel
theorem dX11_keptWith_63 : decode cX11_keptWith 63 = .ok (.getfield 10, 3) := by decide +kernel
theorem dX11_keptWith_66 : decode cX11_keptWith 66 = .ok (.invokevirtual 219, 3) := by decide +kernel
theorem dX11_keptWith_69 : decode cX11_keptWith 69 = .ok (.iinc 5 1, 3) := by decide +kernel
theorem dX11_keptWith_72 : decode cX11_keptWith 72 = .ok (.goto (-58), 3) := by decide +kernel
theorem dX11_keptWith_75 : decode cX11_keptWith 75 = .ok (.iload 4, 2) := by decide +kernel
theorem dX11_keptWith_77 : decode cX11_keptWith 77 = .ok (.ireturn, 1) := by decide +kernel
theorem dX11_odds_0 : decode cX11_odds 0 = .ok (.aload_n 0, 1) := by decide +kernel
theorem dX11_odds_1 : decode cX11_odds 1 = .ok (.getfield 20, 3) := by decide +kernel
theorem dX11_odds_4 : decode cX11_odds 4 = .ok (.iload_n 1, 1) := by decide +kernel
theorem dX11_odds_5 : decode cX11_odds 5 = .ok (.iload_n 3, 1) := by decide +kernel
theorem dX11_odds_6 : decode cX11_odds 6 = .ok (.invokevirtual 107, 3) := by decide +kernel
theorem dX11_odds_9 : decode cX11_odds 9 = .ok (.ifCond .eq 14, 3) := by decide +kernel
theorem dX11_odds_12 : decode cX11_odds 12 = .ok (.aload_n 0, 1) := by decide +kernel
theorem dX11_odds_13 : decode cX11_odds 13 = .ok (.getfield 25, 3) := by decide +kernel
theorem dX11_odds_16 : decode cX11_odds 16 = .ok (.iload_n 2, 1) := by decide +kernel
theorem dX11_odds_17 : decode cX11_odds 17 = .ok (.invokevirtual 147, 3) := by decide +kernel
theorem dX11_odds_20 : decode cX11_odds 20 = .ok (.ifCond .ne 7, 3) := by decide +kernel
theorem dX11_odds_23 : decode cX11_odds 23 = .ok (.ldc2_w 222, 3) := by decide +kernel
theorem dX11_odds_26 : decode cX11_odds 26 = .ok (.lreturn, 1) := by decide +kernel
theorem dX11_odds_27 : decode cX11_odds 27 = .ok (.iload 4, 2) := by decide +kernel
theorem dX11_odds_29 : decode cX11_odds 29 = .ok (.iconst 0, 1) := by decide +kernel
theorem dX11_odds_30 : decode cX11_odds 30 = .ok (.iconst 1, 1) := by decide +kernel
theorem dX11_odds_31 : decode cX11_odds 31 = .ok (.invokestatic 86, 3) := by decide +kernel
theorem dX11_odds_34 : decode cX11_odds 34 = .ok (.ifCond .eq 7, 3) := by decide +kernel
theorem dX11_odds_37 : decode cX11_odds 37 = .ok (.ldc2_w 224, 3) := by decide +kernel
theorem dX11_odds_40 : decode cX11_odds 40 = .ok (.lreturn, 1) := by decide +kernel
theorem dX11_odds_41 : decode cX11_odds 41 = .ok (.aload_n 0, 1) := by decide +kernel
theorem dX11_odds_42 : decode cX11_odds 42 = .ok (.iload_n 1, 1) := by decide +kernel
theorem dX11_odds_43 : decode cX11_odds 43 = .ok (.iload_n 2, 1) := by decide +kernel
theorem dX11_odds_44 : decode cX11_odds 44 = .ok (.iload_n 3, 1) := by decide +kernel
theorem dX11_odds_45 : decode cX11_odds 45 = .ok (.invokevirtual 226, 3) := by decide +kernel
theorem dX11_odds_48 : decode cX11_odds 48 = .ok (.aload_n 0, 1) := by decide +kernel
theorem dX11_odds_49 : decode cX11_odds 49 = .ok (.getfield 62, 3) := by decide +kernel
theorem dX11_odds_52 : decode cX11_odds 52 = .ok (.getfield 230, 3) := by decide +kernel
theorem dX11_odds_55 : decode cX11_odds 55 = .ok (.ifCond .ne 9, 3) := by decide +kernel
theorem dX11_odds_58 : decode cX11_odds 58 = .ok (.ldc2_w 233, 3) := by decide +kernel
theorem dX11_odds_61 : decode cX11_odds 61 = .ok (.goto 12, 3) := by decide +kernel
theorem dX11_odds_64 : decode cX11_odds 64 = .ok (.aload_n 0, 1) := by decide +kernel
theorem dX11_odds_65 : decode cX11_odds 65 = .ok (.getfield 62, 3) := by decide +kernel
theorem dX11_odds_68 : decode cX11_odds 68 = .ok (.iload 4, 2) := by decide +kernel
theorem dX11_odds_70 : decode cX11_odds 70 = .ok (.invokevirtual 235, 3) := by decide +kernel
theorem dX11_odds_73 : decode cX11_odds 73 = .ok (.lreturn, 1) := by decide +kernel
theorem dX11_step_0 : decode cX11_step 0 = .ok (.aload_n 0, 1) := by decide +kernel
theorem dX11_step_1 : decode cX11_step 1 = .ok (.getfield 20, 3) := by decide +kernel
theorem dX11_step_4 : decode cX11_step 4 = .ok (.iload_n 1, 1) := by decide +kernel
theorem dX11_step_5 : decode cX11_step 5 = .ok (.iload_n 3, 1) := by decide +kernel
theorem dX11_step_6 : decode cX11_step 6 = .ok (.invokevirtual 107, 3) := by decide +kernel
theorem dX11_step_9 : decode cX11_step 9 = .ok (.ifCond .eq 14, 3) := by decide +kernel
theorem dX11_step_12 : decode cX11_step 12 = .ok (.aload_n 0, 1) := by decide +kernel
theorem dX11_step_13 : decode cX11_step 13 = .ok (.getfield 25, 3) := by decide +kernel
theorem dX11_step_16 : decode cX11_step 16 = .ok (.iload_n 2, 1) := by decide +kernel
theorem dX11_step_17 : decode cX11_step 17 = .ok (.invokevirtual 147, 3) := by decide +kernel
theorem dX11_step_20 : decode cX11_step 20 = .ok (.ifCond .ne 7, 3) := by decide +kernel
theorem dX11_step_23 : decode cX11_step 23 = .ok (.sipush (-1001), 3) := by decide +kernel
theorem dX11_step_26 : decode cX11_step 26 = .ok (.ireturn, 1) := by decide +kernel
theorem dX11_step_27 : decode cX11_step 27 = .ok (.iload 4, 2) := by decide +kernel
theorem dX11_step_29 : decode cX11_step 29 = .ok (.iconst 0, 1) := by decide +kernel
theorem dX11_step_30 : decode cX11_step 30 = .ok (.iconst 1, 1) := by decide +kernel
theorem dX11_step_31 : decode cX11_step 31 = .ok (.invokestatic 86, 3) := by decide +kernel
theorem dX11_step_34 : decode cX11_step 34 = .ok (.ifCond .eq 7, 3) := by decide +kernel
theorem dX11_step_37 : decode cX11_step 37 = .ok (.sipush (-1002), 3) := by decide +kernel
theorem dX11_step_40 : decode cX11_step 40 = .ok (.ireturn, 1) := by decide +kernel
theorem dX11_step_41 : decode cX11_step 41 = .ok (.aload_n 0, 1) := by decide +kernel
theorem dX11_step_42 : decode cX11_step 42 = .ok (.iload_n 1, 1) := by decide +kernel
theorem dX11_step_43 : decode cX11_step 43 = .ok (.iload_n 2, 1) := by decide +kernel
theorem dX11_step_44 : decode cX11_step 44 = .ok (.iload_n 3, 1) := by decide +kernel
theorem dX11_step_45 : decode cX11_step 45 = .ok (.invokevirtual 226, 3) := by decide +kernel
theorem dX11_step_48 : decode cX11_step 48 = .ok (.aload_n 0, 1) := by decide +kernel
theorem dX11_step_49 : decode cX11_step 49 = .ok (.getfield 62, 3) := by decide +kernel
theorem dX11_step_52 : decode cX11_step 52 = .ok (.getfield 230, 3) := by decide +kernel
theorem dX11_step_55 : decode cX11_step 55 = .ok (.ifCond .ne 7, 3) := by decide +kernel
theorem dX11_step_58 : decode cX11_step 58 = .ok (.sipush (-1005), 3) := by decide +kernel
theorem dX11_step_61 : decode cX11_step 61 = .ok (.ireturn, 1) := by decide +kernel
theorem dX11_step_62 : decode cX11_step 62 = .ok (.iload 4, 2) := by decide +kernel
theorem dX11_step_64 : decode cX11_step 64 = .ok (.ifCond .ne 25, 3) := by decide +kernel
theorem dX11_step_67 : decode cX11_step 67 = .ok (.aload_n 0, 1) := by decide +kernel
theorem dX11_step_68 : decode cX11_step 68 = .ok (.getfield 62, 3) := by decide +kernel
theorem dX11_step_71 : decode cX11_step 71 = .ok (.getfield 239, 3) := by decide +kernel
theorem dX11_step_74 : decode cX11_step 74 = .ok (.ifCond .ne 7, 3) := by decide +kernel
theorem dX11_step_77 : decode cX11_step 77 = .ok (.iconst (-1), 1) := by decide +kernel
theorem dX11_step_78 : decode cX11_step 78 = .ok (.goto 10, 3) := by decide +kernel
theorem dX11_step_81 : decode cX11_step 81 = .ok (.aload_n 0, 1) := by decide +kernel
theorem dX11_step_82 : decode cX11_step 82 = .ok (.getfield 62, 3) := by decide +kernel
theorem dX11_step_85 : decode cX11_step 85 = .ok (.getfield 242, 3) := by decide +kernel
theorem dX11_step_88 : decode cX11_step 88 = .ok (.ireturn, 1) := by decide +kernel
theorem dX11_step_89 : decode cX11_step 89 = .ok (.aload_n 0, 1) := by decide +kernel
theorem dX11_step_90 : decode cX11_step 90 = .ok (.getfield 62, 3) := by decide +kernel
theorem dX11_step_93 : decode cX11_step 93 = .ok (.getfield 239, 3) := by decide +kernel
theorem dX11_step_96 : decode cX11_step 96 = .ok (.aload_n 0, 1) := by decide +kernel
theorem dX11_step_97 : decode cX11_step 97 = .ok (.getfield 62, 3) := by decide +kernel
theorem dX11_step_100 : decode cX11_step 100 = .ok (.getfield 230, 3) := by decide +kernel
theorem dX11_step_103 : decode cX11_step 103 = .ok (.if_icmp .ge 7, 3) := by decide +kernel
theorem dX11_step_106 : decode cX11_step 106 = .ok (.iconst (-1), 1) := by decide +kernel
theorem dX11_step_107 : decode cX11_step 107 = .ok (.goto 10, 3) := by decide +kernel
theorem dX11_step_110 : decode cX11_step 110 = .ok (.aload_n 0, 1) := by decide +kernel
theorem dX11_step_111 : decode cX11_step 111 = .ok (.getfield 62, 3) := by decide +kernel
theorem dX11_step_114 : decode cX11_step 114 = .ok (.getfield 245, 3) := by decide +kernel
theorem dX11_step_117 : decode cX11_step 117 = .ok (.ireturn, 1) := by decide +kernel
theorem dX11_surveyLayer_0 : decode cX11_surveyLayer 0 = .ok (.aload_n 0, 1) := by decide +kernel
theorem dX11_surveyLayer_1 : decode cX11_surveyLayer 1 = .ok (.getfield 34, 3) := by decide +kernel
theorem dX11_surveyLayer_4 : decode cX11_surveyLayer 4 = .ok (.aload_n 0, 1) := by decide +kernel
theorem dX11_surveyLayer_5 : decode cX11_surveyLayer 5 = .ok (.getfield 10, 3) := by decide +kernel
theorem dX11_surveyLayer_8 : decode cX11_surveyLayer 8 = .ok (.iload_n 1, 1) := by decide +kernel
theorem dX11_surveyLayer_9 : decode cX11_surveyLayer 9 = .ok (.invokevirtual 188, 3) := by decide +kernel
theorem dX11_surveyLayer_12 : decode cX11_surveyLayer 12 = .ok (.aload_n 0, 1) := by decide +kernel
theorem dX11_surveyLayer_13 : decode cX11_surveyLayer 13 = .ok (.getfield 62, 3) := by decide +kernel
theorem dX11_surveyLayer_16 : decode cX11_surveyLayer 16 = .ok (.iconst 0, 1) := by decide +kernel
theorem dX11_surveyLayer_17 : decode cX11_surveyLayer 17 = .ok (.invokevirtual 248, 3) := by decide +kernel
theorem dX11_surveyLayer_20 : decode cX11_surveyLayer 20 = .ok (.aload_n 0, 1) := by decide +kernel
theorem dX11_surveyLayer_21 : decode cX11_surveyLayer 21 = .ok (.getfield 10, 3) := by decide +kernel
theorem dX11_surveyLayer_24 : decode cX11_surveyLayer 24 = .ok (.iload_n 1, 1) := by decide +kernel
theorem dX11_surveyLayer_25 : decode cX11_surveyLayer 25 = .ok (.invokevirtual 202, 3) := by decide +kernel
theorem dX11_surveyLayer_28 : decode cX11_surveyLayer 28 = .ok (.aload_n 0, 1) := by decide +kernel
theorem dX11_surveyLayer_29 : decode cX11_surveyLayer 29 = .ok (.getfield 10, 3) := by decide +kernel
theorem dX11_surveyLayer_32 : decode cX11_surveyLayer 32 = .ok (.iload_n 2, 1) := by decide +kernel
theorem dX11_surveyLayer_33 : decode cX11_surveyLayer 33 = .ok (.iconst 0, 1) := by decide +kernel
theorem dX11_surveyLayer_34 : decode cX11_surveyLayer 34 = .ok (.iconst 0, 1) := by decide +kernel
theorem dX11_surveyLayer_35 : decode cX11_surveyLayer 35 = .ok (.invokevirtual 249, 3) := by decide +kernel
theorem dX11_surveyLayer_38 : decode cX11_surveyLayer 38 = .ok (.iconst 0, 1) := by decide +kernel
theorem dX11_surveyLayer_39 : decode cX11_surveyLayer 39 = .ok (.istore 4, 2) := by decide +kernel
theorem dX11_surveyLayer_41 : decode cX11_surveyLayer 41 = .ok (.iload 4, 2) := by decide +kernel
theorem dX11_surveyLayer_43 : decode cX11_surveyLayer 43 = .ok (.aload_n 0, 1) := by decide +kernel
theorem dX11_surveyLayer_44 : decode cX11_surveyLayer 44 = .ok (.getfield 34, 3) := by decide +kernel
theorem dX11_surveyLayer_47 : decode cX11_surveyLayer 47 = .ok (.getfield 206, 3) := by decide +kernel
theorem dX11_surveyLayer_50 : decode cX11_surveyLayer 50 = .ok (.iload_n 1, 1) := by decide +kernel
theorem dX11_surveyLayer_51 : decode cX11_surveyLayer 51 = .ok (.iaload, 1) := by decide +kernel
theorem dX11_surveyLayer_52 : decode cX11_surveyLayer 52 = .ok (.if_icmp .ge 64, 3) := by decide +kernel
theorem dX11_surveyLayer_55 : decode cX11_surveyLayer 55 = .ok (.aload_n 0, 1) := by decide +kernel
theorem dX11_surveyLayer_56 : decode cX11_surveyLayer 56 = .ok (.getfield 34, 3) := by decide +kernel
theorem dX11_surveyLayer_59 : decode cX11_surveyLayer 59 = .ok (.iload_n 1, 1) := by decide +kernel
theorem dX11_surveyLayer_60 : decode cX11_surveyLayer 60 = .ok (.aload_n 0, 1) := by decide +kernel
theorem dX11_surveyLayer_61 : decode cX11_surveyLayer 61 = .ok (.getfield 10, 3) := by decide +kernel
theorem dX11_surveyLayer_64 : decode cX11_surveyLayer 64 = .ok (.invokevirtual 212, 3) := by decide +kernel
theorem dX11_surveyLayer_67 : decode cX11_surveyLayer 67 = .ok (.invokevirtual 216, 3) := by decide +kernel
theorem dX11_surveyLayer_70 : decode cX11_surveyLayer 70 = .ok (.ifCond .eq 33, 3) := by decide +kernel
theorem dX11_surveyLayer_73 : decode cX11_surveyLayer 73 = .ok (.aload_n 0, 1) := by decide +kernel
theorem dX11_surveyLayer_74 : decode cX11_surveyLayer 74 = .ok (.getfield 10, 3) := by decide +kernel
theorem dX11_surveyLayer_77 : decode cX11_surveyLayer 77 = .ok (.invokevirtual 252, 3) := by decide +kernel
theorem dX11_surveyLayer_80 : decode cX11_surveyLayer 80 = .ok (.aload_n 0, 1) := by decide +kernel
theorem dX11_surveyLayer_81 : decode cX11_surveyLayer 81 = .ok (.getfield 62, 3) := by decide +kernel
theorem dX11_surveyLayer_84 : decode cX11_surveyLayer 84 = .ok (.aload_n 0, 1) := by decide +kernel
theorem dX11_surveyLayer_85 : decode cX11_surveyLayer 85 = .ok (.getfield 10, 3) := by decide +kernel
theorem dX11_surveyLayer_88 : decode cX11_surveyLayer 88 = .ok (.getfield 182, 3) := by decide +kernel
theorem dX11_surveyLayer_91 : decode cX11_surveyLayer 91 = .ok (.iload_n 3, 1) := by decide +kernel
theorem dX11_surveyLayer_92 : decode cX11_surveyLayer 92 = .ok (.iaload, 1) := by decide +kernel
theorem dX11_surveyLayer_93 : decode cX11_surveyLayer 93 = .ok (.aload_n 0, 1) := by decide +kernel
theorem dX11_surveyLayer_94 : decode cX11_surveyLayer 94 = .ok (.getfield 10, 3) := by decide +kernel
theorem dX11_surveyLayer_97 : decode cX11_surveyLayer 97 = .ok (.invokevirtual 255, 3) := by decide +kernel
theorem dX11_surveyLayer_100 : decode cX11_surveyLayer 100 = .ok (.invokevirtual 258, 3) := by decide +kernel
theorem dX11_surveyLayer_103 : decode cX11_surveyLayer 103 = .ok (.aload_n 0, 1) := by decide +kernel
theorem dX11_surveyLayer_104 : decode cX11_surveyLayer 104 = .ok (.getfield 10, 3) := by decide +kernel
theorem dX11_surveyLayer_107 : decode cX11_surveyLayer 107 = .ok (.invokevirtual 219, 3) := by decide +kernel
theorem dX11_surveyLayer_110 : decode cX11_surveyLayer 110 = .ok (.iinc 4 1, 3) := by decide +kernel
theorem dX11_surveyLayer_113 : decode cX11_surveyLayer 113 = .ok (.goto (-72), 3) := by decide +kernel
theorem dX11_surveyLayer_116 : decode cX11_surveyLayer 116 = .ok (.return_, 1) := by decide +kernel
theorem dX11_word_0 : decode cX11_word 0 = .ok (.iload_n 2, 1) := by decide +kernel
theorem dX11_word_1 : decode cX11_word 1 = .ok (.iconst 0, 1) := by decide +kernel
theorem dX11_word_2 : decode cX11_word 2 = .ok (.iconst 2, 1) := by decide +kernel
theorem dX11_word_3 : decode cX11_word 3 = .ok (.invokestatic 86, 3) := by decide +kernel
theorem dX11_word_6 : decode cX11_word 6 = .ok (.ifCond .eq 7, 3) := by decide +kernel
theorem dX11_word_9 : decode cX11_word 9 = .ok (.sipush (-1002), 3) := by decide +kernel
theorem dX11_word_12 : decode cX11_word 12 = .ok (.ireturn, 1) := by decide +kernel
theorem dX11_word_13 : decode cX11_word 13 = .ok (.aload_n 0, 1) := by decide +kernel
theorem dX11_word_14 : decode cX11_word 14 = .ok (.getfield 20, 3) := by decide +kernel
theorem dX11_word_17 : decode cX11_word 17 = .ok (.iload_n 1, 1) := by decide +kernel
theorem dX11_word_18 : decode cX11_word 18 = .ok (.invokevirtual 80, 3) := by decide +kernel
theorem dX11_word_21 : decode cX11_word 21 = .ok (.ifCond .ne 7, 3) := by decide +kernel
theorem dX11_word_24 : decode cX11_word 24 = .ok (.sipush (-1001), 3) := by decide +kernel
theorem dX11_word_27 : decode cX11_word 27 = .ok (.ireturn, 1) := by decide +kernel
theorem dX11_word_28 : decode cX11_word 28 = .ok (.iload_n 2, 1) := by decide +kernel
theorem dX11_word_29 : decode cX11_word 29 = .ok (.iconst 2, 1) := by decide +kernel
theorem dX11_word_30 : decode cX11_word 30 = .ok (.if_icmp .ne 18, 3) := by decide +kernel
theorem dX11_word_33 : decode cX11_word 33 = .ok (.aload_n 0, 1) := by decide +kernel
theorem dX11_word_34 : decode cX11_word 34 = .ok (.getfield 20, 3) := by decide +kernel
theorem dX11_word_37 : decode cX11_word 37 = .ok (.iload_n 1, 1) := by decide +kernel
theorem dX11_word_38 : decode cX11_word 38 = .ok (.iload_n 3, 1) := by decide +kernel
theorem dX11_word_39 : decode cX11_word 39 = .ok (.invokevirtual 107, 3) := by decide +kernel
theorem dX11_word_42 : decode cX11_word 42 = .ok (.ifCond .ne 21, 3) := by decide +kernel
theorem dX11_word_45 : decode cX11_word 45 = .ok (.goto 14, 3) := by decide +kernel
theorem dX11_word_48 : decode cX11_word 48 = .ok (.aload_n 0, 1) := by decide +kernel
theorem dX11_word_49 : decode cX11_word 49 = .ok (.getfield 25, 3) := by decide +kernel
theorem dX11_word_52 : decode cX11_word 52 = .ok (.iload_n 3, 1) := by decide +kernel
theorem dX11_word_53 : decode cX11_word 53 = .ok (.invokevirtual 147, 3) := by decide +kernel
theorem dX11_word_56 : decode cX11_word 56 = .ok (.ifCond .ne 7, 3) := by decide +kernel
theorem dX11_word_59 : decode cX11_word 59 = .ok (.sipush (-1001), 3) := by decide +kernel
theorem dX11_word_62 : decode cX11_word 62 = .ok (.ireturn, 1) := by decide +kernel
theorem dX11_word_63 : decode cX11_word 63 = .ok (.iload_n 2, 1) := by decide +kernel
theorem dX11_word_64 : decode cX11_word 64 = .ok (.iconst 2, 1) := by decide +kernel
theorem dX11_word_65 : decode cX11_word 65 = .ok (.if_icmp .ne 30, 3) := by decide +kernel
theorem dX11_word_68 : decode cX11_word 68 = .ok (.iload 4, 2) := by decide +kernel
theorem dX11_word_70 : decode cX11_word 70 = .ok (.iconst 0, 1) := by decide +kernel
theorem dX11_word_71 : decode cX11_word 71 = .ok (.bipush 100, 2) := by decide +kernel
theorem dX11_word_73 : decode cX11_word 73 = .ok (.invokestatic 86, 3) := by decide +kernel
theorem dX11_word_76 : decode cX11_word 76 = .ok (.ifCond .ne 15, 3) := by decide +kernel
theorem dX11_word_79 : decode cX11_word 79 = .ok (.iload 5, 2) := by decide +kernel
theorem dX11_word_81 : decode cX11_word 81 = .ok (.iload 4, 2) := by decide +kernel
theorem dX11_word_83 : decode cX11_word 83 = .ok (.bipush 100, 2) := by decide +kernel
theorem dX11_word_85 : decode cX11_word 85 = .ok (.invokestatic 86, 3) := by decide +kernel
theorem dX11_word_88 : decode cX11_word 88 = .ok (.ifCond .eq 7, 3) := by decide +kernel
theorem dX11_word_91 : decode cX11_word 91 = .ok (.sipush (-1002), 3) := by decide +kernel
theorem dX11_word_94 : decode cX11_word 94 = .ok (.ireturn, 1) := by decide +kernel
theorem dX11_word_95 : decode cX11_word 95 = .ok (.aload_n 0, 1) := by decide +kernel
theorem dX11_word_96 : decode cX11_word 96 = .ok (.getfield 34, 3) := by decide +kernel
theorem dX11_word_99 : decode cX11_word 99 = .ok (.getfield 160, 3) := by decide +kernel
theorem dX11_word_102 : decode cX11_word 102 = .ok (.bipush 16, 2) := by decide +kernel
theorem dX11_word_104 : decode cX11_word 104 = .ok (.if_icmp .lt 7, 3) := by decide +kernel
theorem dX11_word_107 : decode cX11_word 107 = .ok (.sipush (-1004), 3) := by decide +kernel
theorem dX11_word_110 : decode cX11_word 110 = .ok (.ireturn, 1) := by decide +kernel
theorem dX11_word_111 : decode cX11_word 111 = .ok (.aload_n 0, 1) := by decide +kernel
theorem dX11_word_112 : decode cX11_word 112 = .ok (.getfield 34, 3) := by decide +kernel
theorem dX11_word_115 : decode cX11_word 115 = .ok (.invokevirtual 97, 3) := by decide +kernel
theorem dX11_word_118 : decode cX11_word 118 = .ok (.aload_n 0, 1) := by decide +kernel
theorem dX11_word_119 : decode cX11_word 119 = .ok (.getfield 34, 3) := by decide +kernel
theorem dX11_word_122 : decode cX11_word 122 = .ok (.iload_n 1, 1) := by decide +kernel
theorem dX11_word_123 : decode cX11_word 123 = .ok (.iload_n 2, 1) := by decide +kernel
theorem dX11_word_124 : decode cX11_word 124 = .ok (.iload_n 3, 1) := by decide +kernel
theorem dX11_word_125 : decode cX11_word 125 = .ok (.iload 4, 2) := by decide +kernel
theorem dX11_word_127 : decode cX11_word 127 = .ok (.iload 5, 2) := by decide +kernel
theorem dX11_word_129 : decode cX11_word 129 = .ok (.invokevirtual 261, 3) := by decide +kernel
theorem dX11_word_132 : decode cX11_word 132 = .ok (.ireturn, 1) := by decide +kernel
theorem dX11_strike_0 : decode cX11_strike 0 = .ok (.aload_n 0, 1) := by decide +kernel
theorem dX11_strike_1 : decode cX11_strike 1 = .ok (.getfield 34, 3) := by decide +kernel
theorem dX11_strike_4 : decode cX11_strike 4 = .ok (.iload_n 1, 1) := by decide +kernel
theorem dX11_strike_5 : decode cX11_strike 5 = .ok (.invokevirtual 265, 3) := by decide +kernel
theorem dX11_strike_8 : decode cX11_strike 8 = .ok (.ifCond .ne 7, 3) := by decide +kernel
theorem dX11_strike_11 : decode cX11_strike 11 = .ok (.sipush (-1001), 3) := by decide +kernel
theorem dX11_strike_14 : decode cX11_strike 14 = .ok (.ireturn, 1) := by decide +kernel
theorem dX11_strike_15 : decode cX11_strike 15 = .ok (.aload_n 0, 1) := by decide +kernel
theorem dX11_strike_16 : decode cX11_strike 16 = .ok (.getfield 34, 3) := by decide +kernel
theorem dX11_strike_19 : decode cX11_strike 19 = .ok (.getfield 161, 3) := by decide +kernel
theorem dX11_strike_22 : decode cX11_strike 22 = .ok (.iload_n 1, 1) := by decide +kernel
theorem dX11_strike_23 : decode cX11_strike 23 = .ok (.ishr, 1) := by decide +kernel
theorem dX11_strike_24 : decode cX11_strike 24 = .ok (.iconst 1, 1) := by decide +kernel
theorem dX11_strike_25 : decode cX11_strike 25 = .ok (.iand, 1) := by decide +kernel
theorem dX11_strike_26 : decode cX11_strike 26 = .ok (.istore_n 3, 1) := by decide +kernel
theorem dX11_strike_27 : decode cX11_strike 27 = .ok (.aload_n 0, 1) := by decide +kernel
theorem dX11_strike_28 : decode cX11_strike 28 = .ok (.getfield 34, 3) := by decide +kernel
theorem dX11_strike_31 : decode cX11_strike 31 = .ok (.iload_n 2, 1) := by decide +kernel
theorem dX11_strike_32 : decode cX11_strike 32 = .ok (.ifCond .eq 17, 3) := by decide +kernel
theorem dX11_strike_35 : decode cX11_strike 35 = .ok (.aload_n 0, 1) := by decide +kernel
theorem dX11_strike_36 : decode cX11_strike 36 = .ok (.getfield 34, 3) := by decide +kernel
theorem dX11_strike_39 : decode cX11_strike 39 = .ok (.getfield 161, 3) := by decide +kernel
theorem dX11_strike_42 : decode cX11_strike 42 = .ok (.iconst 1, 1) := by decide +kernel
theorem dX11_strike_43 : decode cX11_strike 43 = .ok (.iload_n 1, 1) := by decide +kernel
theorem dX11_strike_44 : decode cX11_strike 44 = .ok (.ishl, 1) := by decide +kernel
theorem dX11_strike_45 : decode cX11_strike 45 = .ok (.ior, 1) := by decide +kernel
theorem dX11_strike_46 : decode cX11_strike 46 = .ok (.goto 16, 3) := by decide +kernel
theorem dX11_strike_49 : decode cX11_strike 49 = .ok (.aload_n 0, 1) := by decide +kernel
theorem dX11_strike_50 : decode cX11_strike 50 = .ok (.getfield 34, 3) := by decide +kernel
theorem dX11_strike_53 : decode cX11_strike 53 = .ok (.getfield 161, 3) := by decide +kernel
theorem dX11_strike_56 : decode cX11_strike 56 = .ok (.iconst 1, 1) := by decide +kernel
theorem dX11_strike_57 : decode cX11_strike 57 = .ok (.iload_n 1, 1) := by decide +kernel
theorem dX11_strike_58 : decode cX11_strike 58 = .ok (.ishl, 1) := by decide +kernel
theorem dX11_strike_59 : decode cX11_strike 59 = .ok (.iconst (-1), 1) := by decide +kernel
theorem dX11_strike_60 : decode cX11_strike 60 = .ok (.ixor, 1) := by decide +kernel
theorem dX11_strike_61 : decode cX11_strike 61 = .ok (.iand, 1) := by decide +kernel
theorem dX11_strike_62 : decode cX11_strike 62 = .ok (.putfield 161, 3) := by decide +kernel
theorem dX11_strike_65 : decode cX11_strike 65 = .ok (.iload_n 3, 1) := by decide +kernel
theorem dX11_strike_66 : decode cX11_strike 66 = .ok (.ireturn, 1) := by decide +kernel
theorem dX11_bars_0 : decode cX11_bars 0 = .ok (.aload_n 0, 1) := by decide +kernel
theorem dX11_bars_1 : decode cX11_bars 1 = .ok (.getfield 34, 3) := by decide +kernel
theorem dX11_bars_4 : decode cX11_bars 4 = .ok (.iload_n 1, 1) := by decide +kernel
theorem dX11_bars_5 : decode cX11_bars 5 = .ok (.invokevirtual 265, 3) := by decide +kernel
theorem dX11_bars_8 : decode cX11_bars 8 = .ok (.ifCond .ne 7, 3) := by decide +kernel
theorem dX11_bars_11 : decode cX11_bars 11 = .ok (.sipush (-1001), 3) := by decide +kernel
theorem dX11_bars_14 : decode cX11_bars 14 = .ok (.ireturn, 1) := by decide +kernel
theorem dX11_bars_15 : decode cX11_bars 15 = .ok (.aload_n 0, 1) := by decide +kernel
theorem dX11_bars_16 : decode cX11_bars 16 = .ok (.getfield 34, 3) := by decide +kernel
theorem dX11_bars_19 : decode cX11_bars 19 = .ok (.getfield 268, 3) := by decide +kernel
theorem dX11_bars_22 : decode cX11_bars 22 = .ok (.iload_n 1, 1) := by decide +kernel
theorem dX11_bars_23 : decode cX11_bars 23 = .ok (.iaload, 1) := by decide +kernel
theorem dX11_bars_24 : decode cX11_bars 24 = .ok (.istore_n 2, 1) := by decide +kernel
theorem dX11_bars_25 : decode cX11_bars 25 = .ok (.aload_n 0, 1) := by decide +kernel
theorem dX11_bars_26 : decode cX11_bars 26 = .ok (.getfield 34, 3) := by decide +kernel
theorem dX11_bars_29 : decode cX11_bars 29 = .ok (.aload_n 0, 1) := by decide +kernel
theorem dX11_bars_30 : decode cX11_bars 30 = .ok (.getfield 10, 3) := by decide +kernel
theorem dX11_bars_33 : decode cX11_bars 33 = .ok (.iload_n 2, 1) := by decide +kernel
theorem dX11_bars_34 : decode cX11_bars 34 = .ok (.invokevirtual 188, 3) := by decide +kernel
theorem dX11_bars_37 : decode cX11_bars 37 = .ok (.aload_n 0, 1) := by decide +kernel
theorem dX11_bars_38 : decode cX11_bars 38 = .ok (.getfield 34, 3) := by decide +kernel
theorem dX11_bars_41 : decode cX11_bars 41 = .ok (.iload_n 2, 1) := by decide +kernel
theorem dX11_bars_42 : decode cX11_bars 42 = .ok (.iload_n 1, 1) := by decide +kernel
theorem dX11_bars_43 : decode cX11_bars 43 = .ok (.invokevirtual 271, 3) := by decide +kernel
theorem dX11_bars_46 : decode cX11_bars 46 = .ok (.ireturn, 1) := by decide +kernel
theorem dX11_toStrike_0 : decode cX11_toStrike 0 = .ok (.aload_n 0, 1) := by decide +kernel
theorem dX11_toStrike_1 : decode cX11_toStrike 1 = .ok (.getfield 20, 3) := by decide +kernel
theorem dX11_toStrike_4 : decode cX11_toStrike 4 = .ok (.iload_n 1, 1) := by decide +kernel
theorem dX11_toStrike_5 : decode cX11_toStrike 5 = .ok (.invokevirtual 80, 3) := by decide +kernel
theorem dX11_toStrike_8 : decode cX11_toStrike 8 = .ok (.ifCond .ne 7, 3) := by decide +kernel
theorem dX11_toStrike_11 : decode cX11_toStrike 11 = .ok (.sipush (-1001), 3) := by decide +kernel
theorem dX11_toStrike_14 : decode cX11_toStrike 14 = .ok (.ireturn, 1) := by decide +kernel
theorem dX11_toStrike_15 : decode cX11_toStrike 15 = .ok (.aload_n 0, 1) := by decide +kernel
theorem dX11_toStrike_16 : decode cX11_toStrike 16 = .ok (.getfield 34, 3) := by decide +kernel
theorem dX11_toStrike_19 : decode cX11_toStrike 19 = .ok (.aload_n 0, 1) := by decide +kernel
theorem dX11_toStrike_20 : decode cX11_toStrike 20 = .ok (.getfield 10, 3) := by decide +kernel
theorem dX11_toStrike_23 : decode cX11_toStrike 23 = .ok (.iload_n 1, 1) := by decide +kernel
theorem dX11_toStrike_24 : decode cX11_toStrike 24 = .ok (.invokevirtual 188, 3) := by decide +kernel
theorem dX11_toStrike_27 : decode cX11_toStrike 27 = .ok (.aload_n 0, 1) := by decide +kernel
theorem dX11_toStrike_28 : decode cX11_toStrike 28 = .ok (.getfield 34, 3) := by decide +kernel
theorem dX11_toStrike_31 : decode cX11_toStrike 31 = .ok (.iload_n 1, 1) := by decide +kernel
theorem dX11_toStrike_32 : decode cX11_toStrike 32 = .ok (.invokevirtual 274, 3) := by decide +kernel
theorem dX11_toStrike_35 : decode cX11_toStrike 35 = .ok (.ireturn, 1) := by decide +kernel
theorem dX11_house_0 : decode cX11_house 0 = .ok (.aload_n 0, 1) := by decide +kernel
theorem dX11_house_1 : decode cX11_house 1 = .ok (.getfield 20, 3) := by decide +kernel
theorem dX11_house_4 : decode cX11_house 4 = .ok (.iload_n 1, 1) := by decide +kernel
theorem dX11_house_5 : decode cX11_house 5 = .ok (.invokevirtual 80, 3) := by decide +kernel
theorem dX11_house_8 : decode cX11_house 8 = .ok (.ifCond .ne 7, 3) := by decide +kernel
theorem dX11_house_11 : decode cX11_house 11 = .ok (.sipush (-1001), 3) := by decide +kernel
theorem dX11_house_14 : decode cX11_house 14 = .ok (.ireturn, 1) := by decide +kernel
theorem dX11_house_15 : decode cX11_house 15 = .ok (.iload_n 2, 1) := by decide +kernel
theorem dX11_house_16 : decode cX11_house 16 = .ok (.iconst 1, 1) := by decide +kernel
theorem dX11_house_17 : decode cX11_house 17 = .ok (.bipush 60, 2) := by decide +kernel
theorem dX11_house_19 : decode cX11_house 19 = .ok (.invokestatic 86, 3) := by decide +kernel
theorem dX11_house_22 : decode cX11_house 22 = .ok (.ifCond .ne 14, 3) := by decide +kernel
theorem dX11_house_25 : decode cX11_house 25 = .ok (.iload_n 3, 1) := by decide +kernel
theorem dX11_house_26 : decode cX11_house 26 = .ok (.iconst 0, 1) := by decide +kernel
theorem dX11_house_27 : decode cX11_house 27 = .ok (.sipush 9999, 3) := by decide +kernel
theorem dX11_house_30 : decode cX11_house 30 = .ok (.invokestatic 86, 3) := by decide +kernel
theorem dX11_house_33 : decode cX11_house 33 = .ok (.ifCond .eq 7, 3) := by decide +kernel
theorem dX11_house_36 : decode cX11_house 36 = .ok (.sipush (-1002), 3) := by decide +kernel
theorem dX11_house_39 : decode cX11_house 39 = .ok (.ireturn, 1) := by decide +kernel
theorem dX11_house_40 : decode cX11_house 40 = .ok (.aload_n 0, 1) := by decide +kernel
theorem dX11_house_41 : decode cX11_house 41 = .ok (.getfield 41, 3) := by decide +kernel
theorem dX11_house_44 : decode cX11_house 44 = .ok (.getfield 169, 3) := by decide +kernel
theorem dX11_house_47 : decode cX11_house 47 = .ok (.bipush 8, 2) := by decide +kernel
theorem dX11_house_49 : decode cX11_house 49 = .ok (.if_icmp .lt 7, 3) := by decide +kernel
theorem dX11_house_52 : decode cX11_house 52 = .ok (.sipush (-1004), 3) := by decide +kernel
theorem dX11_house_55 : decode cX11_house 55 = .ok (.ireturn, 1) := by decide +kernel
theorem dX11_house_56 : decode cX11_house 56 = .ok (.aload_n 0, 1) := by decide +kernel
theorem dX11_house_57 : decode cX11_house 57 = .ok (.getfield 41, 3) := by decide +kernel
theorem dX11_house_60 : decode cX11_house 60 = .ok (.iload_n 1, 1) := by decide +kernel
theorem dX11_house_61 : decode cX11_house 61 = .ok (.iload_n 2, 1) := by decide +kernel
theorem dX11_house_62 : decode cX11_house 62 = .ok (.iload_n 3, 1) := by decide +kernel
theorem dX11_house_63 : decode cX11_house 63 = .ok (.invokevirtual 277, 3) := by decide +kernel
theorem dX11_house_66 : decode cX11_house 66 = .ok (.ireturn, 1) := by decide +kernel
theorem dX11_sink_0 : decode cX11_sink 0 = .ok (.aload_n 0, 1) := by decide +kernel
theorem dX11_sink_1 : decode cX11_sink 1 = .ok (.getfield 41, 3) := by decide +kernel
theorem dX11_sink_4 : decode cX11_sink 4 = .ok (.iload_n 1, 1) := by decide +kernel
theorem dX11_sink_5 : decode cX11_sink 5 = .ok (.invokevirtual 280, 3) := by decide +kernel
theorem dX11_sink_8 : decode cX11_sink 8 = .ok (.ifCond .eq 14, 3) := by decide +kernel
theorem dX11_sink_11 : decode cX11_sink 11 = .ok (.aload_n 0, 1) := by decide +kernel
theorem dX11_sink_12 : decode cX11_sink 12 = .ok (.getfield 25, 3) := by decide +kernel
theorem dX11_sink_15 : decode cX11_sink 15 = .ok (.iload_n 2, 1) := by decide +kernel
theorem dX11_sink_16 : decode cX11_sink 16 = .ok (.invokevirtual 147, 3) := by decide +kernel
theorem dX11_sink_19 : decode cX11_sink 19 = .ok (.ifCond .ne 7, 3) := by decide +kernel
theorem dX11_sink_22 : decode cX11_sink 22 = .ok (.sipush (-1001), 3) := by decide +kernel
theorem dX11_sink_25 : decode cX11_sink 25 = .ok (.ireturn, 1) := by decide +kernel
theorem dX11_sink_26 : decode cX11_sink 26 = .ok (.iload_n 3, 1) := by decide +kernel
theorem dX11_sink_27 : decode cX11_sink 27 = .ok (.iconst 0, 1) := by decide +kernel
theorem dX11_sink_28 : decode cX11_sink 28 = .ok (.iconst 2, 1) := by decide +kernel
theorem dX11_sink_29 : decode cX11_sink 29 = .ok (.invokestatic 86, 3) := by decide +kernel
theorem dX11_sink_32 : decode cX11_sink 32 = .ok (.ifCond .eq 7, 3) := by decide +kernel
theorem dX11_sink_35 : decode cX11_sink 35 = .ok (.sipush (-1002), 3) := by decide +kernel
theorem dX11_sink_38 : decode cX11_sink 38 = .ok (.ireturn, 1) := by decide +kernel
theorem dX11_sink_39 : decode cX11_sink 39 = .ok (.iload_n 3, 1) := by decide +kernel
theorem dX11_sink_40 : decode cX11_sink 40 = .ok (.iconst 2, 1) := by decide +kernel
theorem dX11_sink_41 : decode cX11_sink 41 = .ok (.if_icmp .ne 10, 3) := by decide +kernel
theorem dX11_sink_44 : decode cX11_sink 44 = .ok (.aload_n 0, 1) := by decide +kernel
theorem dX11_sink_45 : decode cX11_sink 45 = .ok (.iload_n 1, 1) := by decide +kernel
theorem dX11_sink_46 : decode cX11_sink 46 = .ok (.iload_n 2, 1) := by decide +kernel
theorem dX11_sink_47 : decode cX11_sink 47 = .ok (.invokevirtual 283, 3) := by decide +kernel
theorem dX11_sink_50 : decode cX11_sink 50 = .ok (.ireturn, 1) := by decide +kernel
theorem dX11_sink_51 : decode cX11_sink 51 = .ok (.aload_n 0, 1) := by decide +kernel
theorem dX11_sink_52 : decode cX11_sink 52 = .ok (.iload_n 1, 1) := by decide +kernel
theorem dX11_sink_53 : decode cX11_sink 53 = .ok (.iload_n 2, 1) := by decide +kernel
theorem dX11_sink_54 : decode cX11_sink 54 = .ok (.invokevirtual 286, 3) := by decide +kernel
theorem dX11_sink_57 : decode cX11_sink 57 = .ok (.aload_n 0, 1) := by decide +kernel
theorem dX11_sink_58 : decode cX11_sink 58 = .ok (.getfield 62, 3) := by decide +kernel
theorem dX11_sink_61 : decode cX11_sink 61 = .ok (.getfield 230, 3) := by decide +kernel
theorem dX11_sink_64 : decode cX11_sink 64 = .ok (.ifCond .ne 7, 3) := by decide +kernel
theorem dX11_sink_67 : decode cX11_sink 67 = .ok (.sipush (-1005), 3) := by decide +kernel
theorem dX11_sink_70 : decode cX11_sink 70 = .ok (.ireturn, 1) := by decide +kernel
theorem dX11_sink_71 : decode cX11_sink 71 = .ok (.iload_n 3, 1) := by decide +kernel
theorem dX11_sink_72 : decode cX11_sink 72 = .ok (.ifCond .ne 13, 3) := by decide +kernel
theorem dX11_sink_75 : decode cX11_sink 75 = .ok (.aload_n 0, 1) := by decide +kernel
theorem dX11_sink_76 : decode cX11_sink 76 = .ok (.getfield 62, 3) := by decide +kernel
theorem dX11_sink_79 : decode cX11_sink 79 = .ok (.getfield 289, 3) := by decide +kernel
theorem dX11_sink_82 : decode cX11_sink 82 = .ok (.goto 10, 3) := by decide +kernel
theorem dX11_sink_85 : decode cX11_sink 85 = .ok (.aload_n 0, 1) := by decide +kernel
theorem dX11_sink_86 : decode cX11_sink 86 = .ok (.getfield 62, 3) := by decide +kernel
theorem dX11_sink_89 : decode cX11_sink 89 = .ok (.getfield 245, 3) := by decide +kernel
theorem dX11_sink_92 : decode cX11_sink 92 = .ok (.ireturn, 1) := by decide +kernel
theorem dX11_sunk_0 : decode cX11_sunk 0 = .ok (.aload_n 0, 1) := by decide +kernel
theorem dX11_sunk_1 : decode cX11_sunk 1 = .ok (.getfield 41, 3) := by decide +kernel
theorem dX11_sunk_4 : decode cX11_sunk 4 = .ok (.iload_n 1, 1) := by decide +kernel
theorem dX11_sunk_5 : decode cX11_sunk 5 = .ok (.invokevirtual 280, 3) := by decide +kernel
theorem dX11_sunk_8 : decode cX11_sunk 8 = .ok (.ifCond .eq 14, 3) := by decide +kernel
theorem dX11_sunk_11 : decode cX11_sunk 11 = .ok (.aload_n 0, 1) := by decide +kernel
theorem dX11_sunk_12 : decode cX11_sunk 12 = .ok (.getfield 25, 3) := by decide +kernel
theorem dX11_sunk_15 : decode cX11_sunk 15 = .ok (.iload_n 2, 1) := by decide +kernel
theorem dX11_sunk_16 : decode cX11_sunk 16 = .ok (.invokevirtual 147, 3) := by decide +kernel
theorem dX11_sunk_19 : decode cX11_sunk 19 = .ok (.ifCond .ne 7, 3) := by decide +kernel
theorem dX11_sunk_22 : decode cX11_sunk 22 = .ok (.ldc2_w 222, 3) := by decide +kernel
theorem dX11_sunk_25 : decode cX11_sunk 25 = .ok (.lreturn, 1) := by decide +kernel
theorem dX11_sunk_26 : decode cX11_sunk 26 = .ok (.iload_n 3, 1) := by decide +kernel
theorem dX11_sunk_27 : decode cX11_sunk 27 = .ok (.iconst 0, 1) := by decide +kernel
theorem dX11_sunk_28 : decode cX11_sunk 28 = .ok (.iconst 1, 1) := by decide +kernel
theorem dX11_sunk_29 : decode cX11_sunk 29 = .ok (.invokestatic 86, 3) := by decide +kernel
theorem dX11_sunk_32 : decode cX11_sunk 32 = .ok (.ifCond .eq 7, 3) := by decide +kernel
theorem dX11_sunk_35 : decode cX11_sunk 35 = .ok (.ldc2_w 224, 3) := by decide +kernel
theorem dX11_sunk_38 : decode cX11_sunk 38 = .ok (.lreturn, 1) := by decide +kernel
theorem dX11_sunk_39 : decode cX11_sunk 39 = .ok (.aload_n 0, 1) := by decide +kernel
theorem dX11_sunk_40 : decode cX11_sunk 40 = .ok (.iload_n 1, 1) := by decide +kernel
theorem dX11_sunk_41 : decode cX11_sunk 41 = .ok (.iload_n 2, 1) := by decide +kernel
theorem dX11_sunk_42 : decode cX11_sunk 42 = .ok (.invokevirtual 286, 3) := by decide +kernel
theorem dX11_sunk_45 : decode cX11_sunk 45 = .ok (.aload_n 0, 1) := by decide +kernel
theorem dX11_sunk_46 : decode cX11_sunk 46 = .ok (.getfield 62, 3) := by decide +kernel
theorem dX11_sunk_49 : decode cX11_sunk 49 = .ok (.getfield 230, 3) := by decide +kernel
theorem dX11_sunk_52 : decode cX11_sunk 52 = .ok (.ifCond .ne 9, 3) := by decide +kernel
theorem dX11_sunk_55 : decode cX11_sunk 55 = .ok (.ldc2_w 233, 3) := by decide +kernel
theorem dX11_sunk_58 : decode cX11_sunk 58 = .ok (.goto 11, 3) := by decide +kernel
theorem dX11_sunk_61 : decode cX11_sunk 61 = .ok (.aload_n 0, 1) := by decide +kernel
theorem dX11_sunk_62 : decode cX11_sunk 62 = .ok (.getfield 62, 3) := by decide +kernel
theorem dX11_sunk_65 : decode cX11_sunk 65 = .ok (.iload_n 3, 1) := by decide +kernel
theorem dX11_sunk_66 : decode cX11_sunk 66 = .ok (.invokevirtual 235, 3) := by decide +kernel
theorem dX11_sunk_69 : decode cX11_sunk 69 = .ok (.lreturn, 1) := by decide +kernel
theorem dX11_led_0 : decode cX11_led 0 = .ok (.aload_n 0, 1) := by decide +kernel
theorem dX11_led_1 : decode cX11_led 1 = .ok (.getfield 41, 3) := by decide +kernel
theorem dX11_led_4 : decode cX11_led 4 = .ok (.iload_n 1, 1) := by decide +kernel
theorem dX11_led_5 : decode cX11_led 5 = .ok (.invokevirtual 280, 3) := by decide +kernel
theorem dX11_led_8 : decode cX11_led 8 = .ok (.ifCond .eq 14, 3) := by decide +kernel
theorem dX11_led_11 : decode cX11_led 11 = .ok (.aload_n 0, 1) := by decide +kernel
theorem dX11_led_12 : decode cX11_led 12 = .ok (.getfield 25, 3) := by decide +kernel
theorem dX11_led_15 : decode cX11_led 15 = .ok (.iload_n 2, 1) := by decide +kernel
theorem dX11_led_16 : decode cX11_led 16 = .ok (.invokevirtual 147, 3) := by decide +kernel
theorem dX11_led_19 : decode cX11_led 19 = .ok (.ifCond .ne 7, 3) := by decide +kernel
theorem dX11_led_22 : decode cX11_led 22 = .ok (.sipush (-1001), 3) := by decide +kernel
theorem dX11_led_25 : decode cX11_led 25 = .ok (.ireturn, 1) := by decide +kernel
theorem dX11_led_26 : decode cX11_led 26 = .ok (.iload_n 3, 1) := by decide +kernel
theorem dX11_led_27 : decode cX11_led 27 = .ok (.iconst 0, 1) := by decide +kernel
theorem dX11_led_28 : decode cX11_led 28 = .ok (.iconst 1, 1) := by decide +kernel
theorem dX11_led_29 : decode cX11_led 29 = .ok (.invokestatic 86, 3) := by decide +kernel
theorem dX11_led_32 : decode cX11_led 32 = .ok (.ifCond .eq 7, 3) := by decide +kernel
theorem dX11_led_35 : decode cX11_led 35 = .ok (.sipush (-1002), 3) := by decide +kernel
theorem dX11_led_38 : decode cX11_led 38 = .ok (.ireturn, 1) := by decide +kernel
theorem dX11_led_39 : decode cX11_led 39 = .ok (.aload_n 0, 1) := by decide +kernel
theorem dX11_led_40 : decode cX11_led 40 = .ok (.iload_n 1, 1) := by decide +kernel
theorem dX11_led_41 : decode cX11_led 41 = .ok (.iload_n 2, 1) := by decide +kernel
theorem dX11_led_42 : decode cX11_led 42 = .ok (.invokevirtual 283, 3) := by decide +kernel
theorem dX11_led_45 : decode cX11_led 45 = .ok (.aload_n 0, 1) := by decide +kernel
theorem dX11_led_46 : decode cX11_led 46 = .ok (.getfield 30, 3) := by decide +kernel
theorem dX11_led_49 : decode cX11_led 49 = .ok (.invokevirtual 292, 3) := by decide +kernel
theorem dX11_led_52 : decode cX11_led 52 = .ok (.if_icmp .ge 7, 3) := by decide +kernel
theorem dX11_led_55 : decode cX11_led 55 = .ok (.sipush (-1003), 3) := by decide +kernel
theorem dX11_led_58 : decode cX11_led 58 = .ok (.ireturn, 1) := by decide +kernel
theorem dX11_led_59 : decode cX11_led 59 = .ok (.aload_n 0, 1) := by decide +kernel
theorem dX11_led_60 : decode cX11_led 60 = .ok (.getfield 10, 3) := by decide +kernel
theorem dX11_led_63 : decode cX11_led 63 = .ok (.aload_n 0, 1) := by decide +kernel
theorem dX11_led_64 : decode cX11_led 64 = .ok (.getfield 41, 3) := by decide +kernel
theorem dX11_led_67 : decode cX11_led 67 = .ok (.getfield 297, 3) := by decide +kernel
theorem dX11_led_70 : decode cX11_led 70 = .ok (.iload_n 1, 1) := by decide +kernel
theorem dX11_led_71 : decode cX11_led 71 = .ok (.iaload, 1) := by decide +kernel
theorem dX11_led_72 : decode cX11_led 72 = .ok (.invokevirtual 300, 3) := by decide +kernel
theorem dX11_led_75 : decode cX11_led 75 = .ok (.istore 4, 2) := by decide +kernel
theorem dX11_led_77 : decode cX11_led 77 = .ok (.iload_n 3, 1) := by decide +kernel
theorem dX11_led_78 : decode cX11_led 78 = .ok (.ifCond .ne 8, 3) := by decide +kernel
theorem dX11_led_81 : decode cX11_led 81 = .ok (.iload 4, 2) := by decide +kernel
theorem dX11_led_83 : decode cX11_led 83 = .ok (.goto 13, 3) := by decide +kernel
theorem dX11_led_86 : decode cX11_led 86 = .ok (.aload_n 0, 1) := by decide +kernel
theorem dX11_led_87 : decode cX11_led 87 = .ok (.getfield 10, 3) := by decide +kernel
theorem dX11_led_90 : decode cX11_led 90 = .ok (.getfield 182, 3) := by decide +kernel
theorem dX11_led_93 : decode cX11_led 93 = .ok (.iload 4, 2) := by decide +kernel
theorem dX11_led_95 : decode cX11_led 95 = .ok (.iaload, 1) := by decide +kernel
theorem dX11_led_96 : decode cX11_led 96 = .ok (.ireturn, 1) := by decide +kernel
theorem dX11_lean_0 : decode cX11_lean 0 = .ok (.aload_n 0, 1) := by decide +kernel
theorem dX11_lean_1 : decode cX11_lean 1 = .ok (.getfield 41, 3) := by decide +kernel
theorem dX11_lean_4 : decode cX11_lean 4 = .ok (.iload_n 1, 1) := by decide +kernel
theorem dX11_lean_5 : decode cX11_lean 5 = .ok (.invokevirtual 280, 3) := by decide +kernel
theorem dX11_lean_8 : decode cX11_lean 8 = .ok (.ifCond .eq 25, 3) := by decide +kernel
theorem dX11_lean_11 : decode cX11_lean 11 = .ok (.aload_n 0, 1) := by decide +kernel
theorem dX11_lean_12 : decode cX11_lean 12 = .ok (.getfield 41, 3) := by decide +kernel
theorem dX11_lean_15 : decode cX11_lean 15 = .ok (.iload_n 2, 1) := by decide +kernel
theorem dX11_lean_16 : decode cX11_lean 16 = .ok (.invokevirtual 280, 3) := by decide +kernel
theorem dX11_lean_19 : decode cX11_lean 19 = .ok (.ifCond .eq 14, 3) := by decide +kernel
theorem dX11_lean_22 : decode cX11_lean 22 = .ok (.aload_n 0, 1) := by decide +kernel
theorem dX11_lean_23 : decode cX11_lean 23 = .ok (.getfield 25, 3) := by decide +kernel
theorem dX11_lean_26 : decode cX11_lean 26 = .ok (.iload_n 3, 1) := by decide +kernel
theorem dX11_lean_27 : decode cX11_lean 27 = .ok (.invokevirtual 147, 3) := by decide +kernel
theorem dX11_lean_30 : decode cX11_lean 30 = .ok (.ifCond .ne 7, 3) := by decide +kernel
theorem dX11_lean_33 : decode cX11_lean 33 = .ok (.sipush (-1001), 3) := by decide +kernel
theorem dX11_lean_36 : decode cX11_lean 36 = .ok (.ireturn, 1) := by decide +kernel
theorem dX11_lean_37 : decode cX11_lean 37 = .ok (.aload_n 0, 1) := by decide +kernel
theorem dX11_lean_38 : decode cX11_lean 38 = .ok (.iload_n 1, 1) := by decide +kernel
theorem dX11_lean_39 : decode cX11_lean 39 = .ok (.iload_n 3, 1) := by decide +kernel
theorem dX11_lean_40 : decode cX11_lean 40 = .ok (.invokevirtual 283, 3) := by decide +kernel
theorem dX11_lean_43 : decode cX11_lean 43 = .ok (.aload_n 0, 1) := by decide +kernel
theorem dX11_lean_44 : decode cX11_lean 44 = .ok (.iload_n 2, 1) := by decide +kernel
theorem dX11_lean_45 : decode cX11_lean 45 = .ok (.iload_n 3, 1) := by decide +kernel
theorem dX11_lean_46 : decode cX11_lean 46 = .ok (.invokevirtual 283, 3) := by decide +kernel
theorem dX11_lean_49 : decode cX11_lean 49 = .ok (.isub, 1) := by decide +kernel
theorem dX11_lean_50 : decode cX11_lean 50 = .ok (.invokestatic 303, 3) := by decide +kernel
theorem dX11_lean_53 : decode cX11_lean 53 = .ok (.ireturn, 1) := by decide +kernel
theorem dX11_firstSink_0 : decode cX11_firstSink 0 = .ok (.aload_n 0, 1) := by decide +kernel
theorem dX11_firstSink_1 : decode cX11_firstSink 1 = .ok (.getfield 10, 3) := by decide +kernel
theorem dX11_firstSink_4 : decode cX11_firstSink 4 = .ok (.aload_n 0, 1) := by decide +kernel
theorem dX11_firstSink_5 : decode cX11_firstSink 5 = .ok (.getfield 41, 3) := by decide +kernel
theorem dX11_firstSink_8 : decode cX11_firstSink 8 = .ok (.getfield 308, 3) := by decide +kernel
theorem dX11_firstSink_11 : decode cX11_firstSink 11 = .ok (.iload_n 1, 1) := by decide +kernel
theorem dX11_firstSink_12 : decode cX11_firstSink 12 = .ok (.iaload, 1) := by decide +kernel
theorem dX11_firstSink_13 : decode cX11_firstSink 13 = .ok (.iload_n 2, 1) := by decide +kernel
theorem dX11_firstSink_14 : decode cX11_firstSink 14 = .ok (.invokevirtual 175, 3) := by decide +kernel
theorem dX11_firstSink_17 : decode cX11_firstSink 17 = .ok (.aload_n 0, 1) := by decide +kernel
theorem dX11_firstSink_18 : decode cX11_firstSink 18 = .ok (.getfield 10, 3) := by decide +kernel
theorem dX11_firstSink_21 : decode cX11_firstSink 21 = .ok (.aload_n 0, 1) := by decide +kernel
theorem dX11_firstSink_22 : decode cX11_firstSink 22 = .ok (.getfield 41, 3) := by decide +kernel
theorem dX11_firstSink_25 : decode cX11_firstSink 25 = .ok (.getfield 297, 3) := by decide +kernel
theorem dX11_firstSink_28 : decode cX11_firstSink 28 = .ok (.iload_n 1, 1) := by decide +kernel
theorem dX11_firstSink_29 : decode cX11_firstSink 29 = .ok (.iaload, 1) := by decide +kernel
theorem dX11_firstSink_30 : decode cX11_firstSink 30 = .ok (.invokevirtual 309, 3) := by decide +kernel
theorem dX11_firstSink_33 : decode cX11_firstSink 33 = .ok (.ireturn, 1) := by decide +kernel
theorem dX11_surveyHouse_0 : decode cX11_surveyHouse 0 = .ok (.aload_n 0, 1) := by decide +kernel
theorem dX11_surveyHouse_1 : decode cX11_surveyHouse 1 = .ok (.getfield 41, 3) := by decide +kernel
theorem dX11_surveyHouse_4 : decode cX11_surveyHouse 4 = .ok (.getfield 308, 3) := by decide +kernel
theorem dX11_surveyHouse_7 : decode cX11_surveyHouse 7 = .ok (.iload_n 1, 1) := by decide +kernel
theorem dX11_surveyHouse_8 : decode cX11_surveyHouse 8 = .ok (.iaload, 1) := by decide +kernel
theorem dX11_surveyHouse_9 : decode cX11_surveyHouse 9 = .ok (.istore_n 3, 1) := by decide +kernel
theorem dX11_surveyHouse_10 : decode cX11_surveyHouse 10 = .ok (.aload_n 0, 1) := by decide +kernel
theorem dX11_surveyHouse_11 : decode cX11_surveyHouse 11 = .ok (.getfield 34, 3) := by decide +kernel
theorem dX11_surveyHouse_14 : decode cX11_surveyHouse 14 = .ok (.aload_n 0, 1) := by decide +kernel
theorem dX11_surveyHouse_15 : decode cX11_surveyHouse 15 = .ok (.getfield 10, 3) := by decide +kernel
theorem dX11_surveyHouse_18 : decode cX11_surveyHouse 18 = .ok (.iload_n 3, 1) := by decide +kernel
theorem dX11_surveyHouse_19 : decode cX11_surveyHouse 19 = .ok (.invokevirtual 188, 3) := by decide +kernel
theorem dX11_surveyHouse_22 : decode cX11_surveyHouse 22 = .ok (.aload_n 0, 1) := by decide +kernel
theorem dX11_surveyHouse_23 : decode cX11_surveyHouse 23 = .ok (.getfield 62, 3) := by decide +kernel
theorem dX11_surveyHouse_26 : decode cX11_surveyHouse 26 = .ok (.aload_n 0, 1) := by decide +kernel
theorem dX11_surveyHouse_27 : decode cX11_surveyHouse 27 = .ok (.getfield 30, 3) := by decide +kernel
theorem dX11_surveyHouse_30 : decode cX11_surveyHouse 30 = .ok (.invokevirtual 292, 3) := by decide +kernel
theorem dX11_surveyHouse_33 : decode cX11_surveyHouse 33 = .ok (.invokevirtual 248, 3) := by decide +kernel
theorem dX11_surveyHouse_36 : decode cX11_surveyHouse 36 = .ok (.aload_n 0, 1) := by decide +kernel
theorem dX11_surveyHouse_37 : decode cX11_surveyHouse 37 = .ok (.getfield 10, 3) := by decide +kernel
theorem dX11_surveyHouse_40 : decode cX11_surveyHouse 40 = .ok (.iload_n 3, 1) := by decide +kernel
theorem dX11_surveyHouse_41 : decode cX11_surveyHouse 41 = .ok (.invokevirtual 202, 3) := by decide +kernel
theorem dX11_surveyHouse_44 : decode cX11_surveyHouse 44 = .ok (.aload_n 0, 1) := by decide +kernel
theorem dX11_surveyHouse_45 : decode cX11_surveyHouse 45 = .ok (.getfield 10, 3) := by decide +kernel
theorem dX11_surveyHouse_48 : decode cX11_surveyHouse 48 = .ok (.iload_n 2, 1) := by decide +kernel
theorem dX11_surveyHouse_49 : decode cX11_surveyHouse 49 = .ok (.iconst 0, 1) := by decide +kernel
theorem dX11_surveyHouse_50 : decode cX11_surveyHouse 50 = .ok (.iconst 0, 1) := by decide +kernel
theorem dX11_surveyHouse_51 : decode cX11_surveyHouse 51 = .ok (.invokevirtual 249, 3) := by decide +kernel
theorem dX11_surveyHouse_54 : decode cX11_surveyHouse 54 = .ok (.iconst 0, 1) := by decide +kernel
theorem dX11_surveyHouse_55 : decode cX11_surveyHouse 55 = .ok (.istore 4, 2) := by decide +kernel
theorem dX11_surveyHouse_57 : decode cX11_surveyHouse 57 = .ok (.iload 4, 2) := by decide +kernel
theorem dX11_surveyHouse_59 : decode cX11_surveyHouse 59 = .ok (.aload_n 0, 1) := by decide +kernel
theorem dX11_surveyHouse_60 : decode cX11_surveyHouse 60 = .ok (.getfield 34, 3) := by decide +kernel
theorem dX11_surveyHouse_63 : decode cX11_surveyHouse 63 = .ok (.getfield 206, 3) := by decide +kernel
theorem dX11_surveyHouse_66 : decode cX11_surveyHouse 66 = .ok (.iload_n 3, 1) := by decide +kernel
theorem dX11_surveyHouse_67 : decode cX11_surveyHouse 67 = .ok (.iaload, 1) := by decide +kernel
theorem dX11_surveyHouse_68 : decode cX11_surveyHouse 68 = .ok (.if_icmp .ge 71, 3) := by decide +kernel
theorem dX11_surveyHouse_71 : decode cX11_surveyHouse 71 = .ok (.aload_n 0, 1) := by decide +kernel
theorem dX11_surveyHouse_72 : decode cX11_surveyHouse 72 = .ok (.getfield 34, 3) := by decide +kernel
theorem dX11_surveyHouse_75 : decode cX11_surveyHouse 75 = .ok (.iload_n 3, 1) := by decide +kernel
theorem dX11_surveyHouse_76 : decode cX11_surveyHouse 76 = .ok (.aload_n 0, 1) := by decide +kernel
theorem dX11_surveyHouse_77 : decode cX11_surveyHouse 77 = .ok (.getfield 10, 3) := by decide +kernel
theorem dX11_surveyHouse_80 : decode cX11_surveyHouse 80 = .ok (.invokevirtual 212, 3) := by decide +kernel
theorem dX11_surveyHouse_83 : decode cX11_surveyHouse 83 = .ok (.invokevirtual 216, 3) := by decide +kernel
theorem dX11_surveyHouse_86 : decode cX11_surveyHouse 86 = .ok (.ifCond .eq 40, 3) := by decide +kernel
theorem dX11_surveyHouse_89 : decode cX11_surveyHouse 89 = .ok (.aload_n 0, 1) := by decide +kernel
theorem dX11_surveyHouse_90 : decode cX11_surveyHouse 90 = .ok (.getfield 10, 3) := by decide +kernel
theorem dX11_surveyHouse_93 : decode cX11_surveyHouse 93 = .ok (.invokevirtual 252, 3) := by decide +kernel
theorem dX11_surveyHouse_96 : decode cX11_surveyHouse 96 = .ok (.aload_n 0, 1) := by decide +kernel
theorem dX11_surveyHouse_97 : decode cX11_surveyHouse 97 = .ok (.getfield 62, 3) := by decide +kernel
theorem dX11_surveyHouse_100 : decode cX11_surveyHouse 100 = .ok (.aload_n 0, 1) := by decide +kernel
theorem dX11_surveyHouse_101 : decode cX11_surveyHouse 101 = .ok (.getfield 10, 3) := by decide +kernel
theorem dX11_surveyHouse_104 : decode cX11_surveyHouse 104 = .ok (.aload_n 0, 1) := by decide +kernel
theorem dX11_surveyHouse_105 : decode cX11_surveyHouse 105 = .ok (.getfield 41, 3) := by decide +kernel
theorem dX11_surveyHouse_108 : decode cX11_surveyHouse 108 = .ok (.getfield 297, 3) := by decide +kernel
theorem dX11_surveyHouse_111 : decode cX11_surveyHouse 111 = .ok (.iload_n 1, 1) := by decide +kernel
theorem dX11_surveyHouse_112 : decode cX11_surveyHouse 112 = .ok (.iaload, 1) := by decide +kernel
theorem dX11_surveyHouse_113 : decode cX11_surveyHouse 113 = .ok (.invokevirtual 309, 3) := by decide +kernel
theorem dX11_surveyHouse_116 : decode cX11_surveyHouse 116 = .ok (.aload_n 0, 1) := by decide +kernel
theorem dX11_surveyHouse_117 : decode cX11_surveyHouse 117 = .ok (.getfield 10, 3) := by decide +kernel
theorem dX11_surveyHouse_120 : decode cX11_surveyHouse 120 = .ok (.invokevirtual 255, 3) := by decide +kernel
theorem dX11_surveyHouse_123 : decode cX11_surveyHouse 123 = .ok (.invokevirtual 258, 3) := by decide +kernel
theorem dX11_surveyHouse_126 : decode cX11_surveyHouse 126 = .ok (.aload_n 0, 1) := by decide +kernel
theorem dX11_surveyHouse_127 : decode cX11_surveyHouse 127 = .ok (.getfield 10, 3) := by decide +kernel
theorem dX11_surveyHouse_130 : decode cX11_surveyHouse 130 = .ok (.invokevirtual 219, 3) := by decide +kernel
theorem dX11_surveyHouse_133 : decode cX11_surveyHouse 133 = .ok (.iinc 4 1, 3) := by decide +kernel
theorem dX11_surveyHouse_136 : decode cX11_surveyHouse 136 = .ok (.goto (-79), 3) := by decide +kernel
theorem dX11_surveyHouse_139 : decode cX11_surveyHouse 139 = .ok (.return_, 1) := by decide +kernel
theorem dX11_tank_0 : decode cX11_tank 0 = .ok (.aload_n 0, 1) := by decide +kernel
theorem dX11_tank_1 : decode cX11_tank 1 = .ok (.getfield 20, 3) := by decide +kernel
theorem dX11_tank_4 : decode cX11_tank 4 = .ok (.iload_n 1, 1) := by decide +kernel
theorem dX11_tank_5 : decode cX11_tank 5 = .ok (.iload_n 2, 1) := by decide +kernel
theorem dX11_tank_6 : decode cX11_tank 6 = .ok (.invokevirtual 107, 3) := by decide +kernel
theorem dX11_tank_9 : decode cX11_tank 9 = .ok (.ifCond .ne 7, 3) := by decide +kernel
theorem dX11_tank_12 : decode cX11_tank 12 = .ok (.sipush (-1001), 3) := by decide +kernel
theorem dX11_tank_15 : decode cX11_tank 15 = .ok (.ireturn, 1) := by decide +kernel
theorem dX11_tank_16 : decode cX11_tank 16 = .ok (.iload_n 3, 1) := by decide +kernel
theorem dX11_tank_17 : decode cX11_tank 17 = .ok (.iconst 1, 1) := by decide +kernel
theorem dX11_tank_18 : decode cX11_tank 18 = .ok (.sipush 999, 3) := by decide +kernel
theorem dX11_tank_21 : decode cX11_tank 21 = .ok (.invokestatic 86, 3) := by decide +kernel
theorem dX11_tank_24 : decode cX11_tank 24 = .ok (.ifCond .ne 14, 3) := by decide +kernel
theorem dX11_tank_27 : decode cX11_tank 27 = .ok (.iload 4, 2) := by decide +kernel
theorem dX11_tank_29 : decode cX11_tank 29 = .ok (.iconst 1, 1) := by decide +kernel
theorem dX11_tank_30 : decode cX11_tank 30 = .ok (.bipush 99, 2) := by decide +kernel
theorem dX11_tank_32 : decode cX11_tank 32 = .ok (.invokestatic 86, 3) := by decide +kernel
theorem dX11_tank_35 : decode cX11_tank 35 = .ok (.ifCond .eq 7, 3) := by decide +kernel
theorem dX11_tank_38 : decode cX11_tank 38 = .ok (.sipush (-1002), 3) := by decide +kernel
theorem dX11_tank_41 : decode cX11_tank 41 = .ok (.ireturn, 1) := by decide +kernel
theorem dX11_tank_42 : decode cX11_tank 42 = .ok (.aload_n 0, 1) := by decide +kernel
theorem dX11_tank_43 : decode cX11_tank 43 = .ok (.getfield 48, 3) := by decide +kernel
theorem dX11_tank_46 : decode cX11_tank 46 = .ok (.getfield 170, 3) := by decide +kernel
theorem dX11_tank_49 : decode cX11_tank 49 = .ok (.bipush 8, 2) := by decide +kernel
theorem dX11_tank_51 : decode cX11_tank 51 = .ok (.if_icmp .lt 7, 3) := by decide +kernel
theorem dX11_tank_54 : decode cX11_tank 54 = .ok (.sipush (-1004), 3) := by decide +kernel
theorem dX11_tank_57 : decode cX11_tank 57 = .ok (.ireturn, 1) := by decide +kernel
theorem dX11_tank_58 : decode cX11_tank 58 = .ok (.aload_n 0, 1) := by decide +kernel
theorem dX11_tank_59 : decode cX11_tank 59 = .ok (.getfield 48, 3) := by decide +kernel
theorem dX11_tank_62 : decode cX11_tank 62 = .ok (.iload_n 1, 1) := by decide +kernel
theorem dX11_tank_63 : decode cX11_tank 63 = .ok (.iload_n 2, 1) := by decide +kernel
theorem dX11_tank_64 : decode cX11_tank 64 = .ok (.iload_n 3, 1) := by decide +kernel
theorem dX11_tank_65 : decode cX11_tank 65 = .ok (.iload 4, 2) := by decide +kernel
theorem dX11_tank_67 : decode cX11_tank 67 = .ok (.invokevirtual 312, 3) := by decide +kernel
theorem dX11_tank_70 : decode cX11_tank 70 = .ok (.ireturn, 1) := by decide +kernel
theorem dX11_floats_0 : decode cX11_floats 0 = .ok (.aload_n 0, 1) := by decide +kernel
theorem dX11_floats_1 : decode cX11_floats 1 = .ok (.getfield 48, 3) := by decide +kernel
theorem dX11_floats_4 : decode cX11_floats 4 = .ok (.iload_n 1, 1) := by decide +kernel
theorem dX11_floats_5 : decode cX11_floats 5 = .ok (.invokevirtual 315, 3) := by decide +kernel
theorem dX11_floats_8 : decode cX11_floats 8 = .ok (.ifCond .eq 14, 3) := by decide +kernel
theorem dX11_floats_11 : decode cX11_floats 11 = .ok (.aload_n 0, 1) := by decide +kernel
theorem dX11_floats_12 : decode cX11_floats 12 = .ok (.getfield 25, 3) := by decide +kernel
theorem dX11_floats_15 : decode cX11_floats 15 = .ok (.iload_n 2, 1) := by decide +kernel
theorem dX11_floats_16 : decode cX11_floats 16 = .ok (.invokevirtual 147, 3) := by decide +kernel
theorem dX11_floats_19 : decode cX11_floats 19 = .ok (.ifCond .ne 7, 3) := by decide +kernel
theorem dX11_floats_22 : decode cX11_floats 22 = .ok (.sipush (-1001), 3) := by decide +kernel
theorem dX11_floats_25 : decode cX11_floats 25 = .ok (.ireturn, 1) := by decide +kernel
theorem dX11_floats_26 : decode cX11_floats 26 = .ok (.aload_n 0, 1) := by decide +kernel
theorem dX11_floats_27 : decode cX11_floats 27 = .ok (.aload_n 0, 1) := by decide +kernel
theorem dX11_floats_28 : decode cX11_floats 28 = .ok (.getfield 48, 3) := by decide +kernel
theorem dX11_floats_31 : decode cX11_floats 31 = .ok (.getfield 318, 3) := by decide +kernel
theorem dX11_floats_34 : decode cX11_floats 34 = .ok (.iload_n 1, 1) := by decide +kernel
theorem dX11_floats_35 : decode cX11_floats 35 = .ok (.iaload, 1) := by decide +kernel
theorem dX11_floats_36 : decode cX11_floats 36 = .ok (.iload_n 2, 1) := by decide +kernel
theorem dX11_floats_37 : decode cX11_floats 37 = .ok (.aload_n 0, 1) := by decide +kernel
theorem dX11_floats_38 : decode cX11_floats 38 = .ok (.getfield 48, 3) := by decide +kernel
theorem dX11_floats_41 : decode cX11_floats 41 = .ok (.getfield 319, 3) := by decide +kernel
theorem dX11_floats_44 : decode cX11_floats 44 = .ok (.iload_n 1, 1) := by decide +kernel
theorem dX11_floats_45 : decode cX11_floats 45 = .ok (.iaload, 1) := by decide +kernel
theorem dX11_floats_46 : decode cX11_floats 46 = .ok (.invokevirtual 226, 3) := by decide +kernel
theorem dX11_floats_49 : decode cX11_floats 49 = .ok (.aload_n 0, 1) := by decide +kernel
theorem dX11_floats_50 : decode cX11_floats 50 = .ok (.getfield 62, 3) := by decide +kernel
theorem dX11_floats_53 : decode cX11_floats 53 = .ok (.getfield 230, 3) := by decide +kernel
theorem dX11_floats_56 : decode cX11_floats 56 = .ok (.ifCond .ne 7, 3) := by decide +kernel
theorem dX11_floats_59 : decode cX11_floats 59 = .ok (.sipush (-1005), 3) := by decide +kernel
theorem dX11_floats_62 : decode cX11_floats 62 = .ok (.ireturn, 1) := by decide +kernel
theorem dX11_floats_63 : decode cX11_floats 63 = .ok (.aload_n 0, 1) := by decide +kernel
theorem dX11_floats_64 : decode cX11_floats 64 = .ok (.getfield 62, 3) := by decide +kernel
theorem dX11_floats_67 : decode cX11_floats 67 = .ok (.getfield 239, 3) := by decide +kernel
theorem dX11_floats_70 : decode cX11_floats 70 = .ok (.ifCond .eq 32, 3) := by decide +kernel
theorem dX11_floats_73 : decode cX11_floats 73 = .ok (.aload_n 0, 1) := by decide +kernel
theorem dX11_floats_74 : decode cX11_floats 74 = .ok (.getfield 48, 3) := by decide +kernel
theorem dX11_floats_77 : decode cX11_floats 77 = .ok (.getfield 322, 3) := by decide +kernel
theorem dX11_floats_80 : decode cX11_floats 80 = .ok (.iload_n 1, 1) := by decide +kernel
theorem dX11_floats_81 : decode cX11_floats 81 = .ok (.iaload, 1) := by decide +kernel
theorem dX11_floats_82 : decode cX11_floats 82 = .ok (.aload_n 0, 1) := by decide +kernel
theorem dX11_floats_83 : decode cX11_floats 83 = .ok (.getfield 48, 3) := by decide +kernel
theorem dX11_floats_86 : decode cX11_floats 86 = .ok (.getfield 325, 3) := by decide +kernel
theorem dX11_floats_89 : decode cX11_floats 89 = .ok (.iload_n 1, 1) := by decide +kernel
theorem dX11_floats_90 : decode cX11_floats 90 = .ok (.iaload, 1) := by decide +kernel
theorem dX11_floats_91 : decode cX11_floats 91 = .ok (.aload_n 0, 1) := by decide +kernel
theorem dX11_floats_92 : decode cX11_floats 92 = .ok (.getfield 30, 3) := by decide +kernel
theorem dX11_floats_95 : decode cX11_floats 95 = .ok (.invokevirtual 328, 3) := by decide +kernel
theorem dX11_floats_98 : decode cX11_floats 98 = .ok (.imul, 1) := by decide +kernel
theorem dX11_floats_99 : decode cX11_floats 99 = .ok (.if_icmp .lt 5, 3) := by decide +kernel
theorem dX11_floats_102 : decode cX11_floats 102 = .ok (.iconst 0, 1) := by decide +kernel
theorem dX11_floats_103 : decode cX11_floats 103 = .ok (.ireturn, 1) := by decide +kernel
theorem dX11_floats_104 : decode cX11_floats 104 = .ok (.aload_n 0, 1) := by decide +kernel
theorem dX11_floats_105 : decode cX11_floats 105 = .ok (.getfield 62, 3) := by decide +kernel
theorem dX11_floats_108 : decode cX11_floats 108 = .ok (.getfield 239, 3) := by decide +kernel
theorem dX11_floats_111 : decode cX11_floats 111 = .ok (.aload_n 0, 1) := by decide +kernel
theorem dX11_floats_112 : decode cX11_floats 112 = .ok (.getfield 62, 3) := by decide +kernel
theorem dX11_floats_115 : decode cX11_floats 115 = .ok (.getfield 230, 3) := by decide +kernel
theorem dX11_floats_118 : decode cX11_floats 118 = .ok (.if_icmp .ge 7, 3) := by decide +kernel
theorem dX11_floats_121 : decode cX11_floats 121 = .ok (.iconst 1, 1) := by decide +kernel
theorem dX11_floats_122 : decode cX11_floats 122 = .ok (.goto 4, 3) := by decide +kernel
theorem dX11_floats_125 : decode cX11_floats 125 = .ok (.iconst 2, 1) := by decide +kernel
theorem dX11_floats_126 : decode cX11_floats 126 = .ok (.ireturn, 1) := by decide +kernel
theorem dX11_margin_0 : decode cX11_margin 0 = .ok (.aload_n 0, 1) := by decide +kernel
theorem dX11_margin_1 : decode cX11_margin 1 = .ok (.getfield 25, 3) := by decide +kernel
theorem dX11_margin_4 : decode cX11_margin 4 = .ok (.iload_n 1, 1) := by decide +kernel
theorem dX11_margin_5 : decode cX11_margin 5 = .ok (.invokevirtual 147, 3) := by decide +kernel
theorem dX11_margin_8 : decode cX11_margin 8 = .ok (.ifCond .eq 27, 3) := by decide +kernel
theorem dX11_margin_11 : decode cX11_margin 11 = .ok (.aload_n 0, 1) := by decide +kernel
theorem dX11_margin_12 : decode cX11_margin 12 = .ok (.getfield 20, 3) := by decide +kernel
theorem dX11_margin_15 : decode cX11_margin 15 = .ok (.iload_n 2, 1) := by decide +kernel
theorem dX11_margin_16 : decode cX11_margin 16 = .ok (.iload 4, 2) := by decide +kernel
theorem dX11_margin_18 : decode cX11_margin 18 = .ok (.invokevirtual 107, 3) := by decide +kernel
theorem dX11_margin_21 : decode cX11_margin 21 = .ok (.ifCond .eq 14, 3) := by decide +kernel
theorem dX11_margin_24 : decode cX11_margin 24 = .ok (.aload_n 0, 1) := by decide +kernel
theorem dX11_margin_25 : decode cX11_margin 25 = .ok (.getfield 20, 3) := by decide +kernel
theorem dX11_margin_28 : decode cX11_margin 28 = .ok (.iload_n 3, 1) := by decide +kernel
theorem dX11_margin_29 : decode cX11_margin 29 = .ok (.invokevirtual 80, 3) := by decide +kernel
theorem dX11_margin_32 : decode cX11_margin 32 = .ok (.ifCond .ne 7, 3) := by decide +kernel
theorem dX11_margin_35 : decode cX11_margin 35 = .ok (.ldc2_w 222, 3) := by decide +kernel
theorem dX11_margin_38 : decode cX11_margin 38 = .ok (.lreturn, 1) := by decide +kernel
theorem dX11_margin_39 : decode cX11_margin 39 = .ok (.iload_n 2, 1) := by decide +kernel
theorem dX11_margin_40 : decode cX11_margin 40 = .ok (.iload_n 3, 1) := by decide +kernel
theorem dX11_margin_41 : decode cX11_margin 41 = .ok (.if_icmp .eq 13, 3) := by decide +kernel
theorem dX11_margin_44 : decode cX11_margin 44 = .ok (.iload 5, 2) := by decide +kernel
theorem dX11_margin_46 : decode cX11_margin 46 = .ok (.iconst 0, 1) := by decide +kernel
theorem dX11_margin_47 : decode cX11_margin 47 = .ok (.iconst 2, 1) := by decide +kernel
theorem dX11_margin_48 : decode cX11_margin 48 = .ok (.invokestatic 86, 3) := by decide +kernel
theorem dX11_margin_51 : decode cX11_margin 51 = .ok (.ifCond .eq 7, 3) := by decide +kernel
theorem dX11_margin_54 : decode cX11_margin 54 = .ok (.ldc2_w 224, 3) := by decide +kernel
theorem dX11_margin_57 : decode cX11_margin 57 = .ok (.lreturn, 1) := by decide +kernel
theorem dX11_margin_58 : decode cX11_margin 58 = .ok (.aload_n 0, 1) := by decide +kernel
theorem dX11_margin_59 : decode cX11_margin 59 = .ok (.getfield 20, 3) := by decide +kernel
theorem dX11_margin_62 : decode cX11_margin 62 = .ok (.iload_n 2, 1) := by decide +kernel
theorem dX11_margin_63 : decode cX11_margin 63 = .ok (.iload 4, 2) := by decide +kernel
theorem dX11_margin_65 : decode cX11_margin 65 = .ok (.invokevirtual 331, 3) := by decide +kernel
theorem dX11_margin_68 : decode cX11_margin 68 = .ok (.istore 6, 2) := by decide +kernel
theorem dX11_margin_70 : decode cX11_margin 70 = .ok (.iload 5, 2) := by decide +kernel
theorem dX11_margin_72 : decode cX11_margin 72 = .ok (.iconst 2, 1) := by decide +kernel
theorem dX11_margin_73 : decode cX11_margin 73 = .ok (.if_icmp .ne 7, 3) := by decide +kernel
theorem dX11_margin_76 : decode cX11_margin 76 = .ok (.iload 6, 2) := by decide +kernel
theorem dX11_margin_78 : decode cX11_margin 78 = .ok (.i2l, 1) := by decide +kernel
theorem dX11_margin_79 : decode cX11_margin 79 = .ok (.lreturn, 1) := by decide +kernel
theorem dX11_margin_80 : decode cX11_margin 80 = .ok (.aload_n 0, 1) := by decide +kernel
theorem dX11_margin_81 : decode cX11_margin 81 = .ok (.getfield 69, 3) := by decide +kernel
theorem dX11_margin_84 : decode cX11_margin 84 = .ok (.aload_n 0, 1) := by decide +kernel
theorem dX11_margin_85 : decode cX11_margin 85 = .ok (.getfield 10, 3) := by decide +kernel
theorem dX11_margin_88 : decode cX11_margin 88 = .ok (.iload_n 1, 1) := by decide +kernel
theorem dX11_margin_89 : decode cX11_margin 89 = .ok (.iload_n 2, 1) := by decide +kernel
theorem dX11_margin_90 : decode cX11_margin 90 = .ok (.iload_n 3, 1) := by decide +kernel
theorem dX11_margin_91 : decode cX11_margin 91 = .ok (.invokestatic 334, 3) := by decide +kernel
theorem dX11_margin_94 : decode cX11_margin 94 = .ok (.iload_n 2, 1) := by decide +kernel
theorem dX11_margin_95 : decode cX11_margin 95 = .ok (.iload_n 3, 1) := by decide +kernel
theorem dX11_margin_96 : decode cX11_margin 96 = .ok (.invokestatic 337, 3) := by decide +kernel
theorem dX11_margin_99 : decode cX11_margin 99 = .ok (.invokevirtual 340, 3) := by decide +kernel
theorem dX11_margin_102 : decode cX11_margin 102 = .ok (.aload_n 0, 1) := by decide +kernel
theorem dX11_margin_103 : decode cX11_margin 103 = .ok (.getfield 69, 3) := by decide +kernel
theorem dX11_margin_106 : decode cX11_margin 106 = .ok (.aload_n 0, 1) := by decide +kernel
theorem dX11_margin_107 : decode cX11_margin 107 = .ok (.getfield 10, 3) := by decide +kernel
theorem dX11_margin_110 : decode cX11_margin 110 = .ok (.iload_n 2, 1) := by decide +kernel
theorem dX11_margin_111 : decode cX11_margin 111 = .ok (.iload_n 3, 1) := by decide +kernel
theorem dX11_margin_112 : decode cX11_margin 112 = .ok (.iload 6, 2) := by decide +kernel
theorem dX11_margin_114 : decode cX11_margin 114 = .ok (.invokevirtual 343, 3) := by decide +kernel
theorem dX11_margin_117 : decode cX11_margin 117 = .ok (.ifCond .ne 7, 3) := by decide +kernel
theorem dX11_margin_120 : decode cX11_margin 120 = .ok (.ldc2_w 347, 3) := by decide +kernel
theorem dX11_margin_123 : decode cX11_margin 123 = .ok (.lreturn, 1) := by decide +kernel
theorem dX11_margin_124 : decode cX11_margin 124 = .ok (.aload_n 0, 1) := by decide +kernel
theorem dX11_margin_125 : decode cX11_margin 125 = .ok (.getfield 69, 3) := by decide +kernel
theorem dX11_margin_128 : decode cX11_margin 128 = .ok (.getfield 349, 3) := by decide +kernel
theorem dX11_margin_131 : decode cX11_margin 131 = .ok (.aload_n 0, 1) := by decide +kernel
theorem dX11_margin_132 : decode cX11_margin 132 = .ok (.getfield 69, 3) := by decide +kernel
theorem dX11_margin_135 : decode cX11_margin 135 = .ok (.getfield 353, 3) := by decide +kernel
theorem dX11_margin_138 : decode cX11_margin 138 = .ok (.iload 5, 2) := by decide +kernel
theorem dX11_margin_140 : decode cX11_margin 140 = .ok (.invokestatic 356, 3) := by decide +kernel
theorem dX11_margin_143 : decode cX11_margin 143 = .ok (.lreturn, 1) := by decide +kernel
theorem dX11_least_0 : decode cX11_least 0 = .ok (.aload_n 0, 1) := by decide +kernel
theorem dX11_least_1 : decode cX11_least 1 = .ok (.getfield 25, 3) := by decide +kernel
theorem dX11_least_4 : decode cX11_least 4 = .ok (.iload_n 1, 1) := by decide +kernel
theorem dX11_least_5 : decode cX11_least 5 = .ok (.invokevirtual 147, 3) := by decide +kernel
theorem dX11_least_8 : decode cX11_least 8 = .ok (.ifCond .ne 7, 3) := by decide +kernel
theorem dX11_least_11 : decode cX11_least 11 = .ok (.ldc2_w 222, 3) := by decide +kernel
theorem dX11_least_14 : decode cX11_least 14 = .ok (.lreturn, 1) := by decide +kernel
theorem dX11_least_15 : decode cX11_least 15 = .ok (.iload_n 2, 1) := by decide +kernel
theorem dX11_least_16 : decode cX11_least 16 = .ok (.iconst 0, 1) := by decide +kernel
theorem dX11_least_17 : decode cX11_least 17 = .ok (.iconst 4, 1) := by decide +kernel
theorem dX11_least_18 : decode cX11_least 18 = .ok (.invokestatic 86, 3) := by decide +kernel
theorem dX11_least_21 : decode cX11_least 21 = .ok (.ifCond .eq 7, 3) := by decide +kernel
theorem dX11_least_24 : decode cX11_least 24 = .ok (.ldc2_w 224, 3) := by decide +kernel
theorem dX11_least_27 : decode cX11_least 27 = .ok (.lreturn, 1) := by decide +kernel
theorem dX11_least_28 : decode cX11_least 28 = .ok (.aload_n 0, 1) := by decide +kernel
theorem dX11_least_29 : decode cX11_least 29 = .ok (.getfield 69, 3) := by decide +kernel
theorem dX11_least_32 : decode cX11_least 32 = .ok (.aload_n 0, 1) := by decide +kernel
theorem dX11_least_33 : decode cX11_least 33 = .ok (.getfield 10, 3) := by decide +kernel
theorem dX11_least_36 : decode cX11_least 36 = .ok (.iload_n 1, 1) := by decide +kernel
theorem dX11_least_37 : decode cX11_least 37 = .ok (.iconst 0, 1) := by decide +kernel
theorem dX11_least_38 : decode cX11_least 38 = .ok (.iconst 5, 1) := by decide +kernel
theorem dX11_least_39 : decode cX11_least 39 = .ok (.invokevirtual 340, 3) := by decide +kernel
theorem dX11_least_42 : decode cX11_least 42 = .ok (.aload_n 0, 1) := by decide +kernel
theorem dX11_least_43 : decode cX11_least 43 = .ok (.getfield 69, 3) := by decide +kernel
theorem dX11_least_46 : decode cX11_least 46 = .ok (.aload_n 0, 1) := by decide +kernel
theorem dX11_least_47 : decode cX11_least 47 = .ok (.getfield 10, 3) := by decide +kernel
theorem dX11_least_50 : decode cX11_least 50 = .ok (.invokevirtual 360, 3) := by decide +kernel
theorem dX11_least_53 : decode cX11_least 53 = .ok (.aload_n 0, 1) := by decide +kernel
theorem dX11_least_54 : decode cX11_least 54 = .ok (.getfield 69, 3) := by decide +kernel
theorem dX11_least_57 : decode cX11_least 57 = .ok (.getfield 364, 3) := by decide +kernel
theorem dX11_least_60 : decode cX11_least 60 = .ok (.iconst (-1), 1) := by decide +kernel
theorem dX11_least_61 : decode cX11_least 61 = .ok (.if_icmp .ne 7, 3) := by decide +kernel
theorem dX11_least_64 : decode cX11_least 64 = .ok (.ldc2_w 367, 3) := by decide +kernel
theorem dX11_least_67 : decode cX11_least 67 = .ok (.lreturn, 1) := by decide +kernel
theorem dX11_least_68 : decode cX11_least 68 = .ok (.iload_n 2, 1) := by decide +kernel
theorem dX11_least_69 : decode cX11_least 69 = .ok (.tableswitch 54 0 2 #[27, 36, 45], 27) := by decide +kernel
theorem dX11_least_96 : decode cX11_least 96 = .ok (.aload_n 0, 1) := by decide +kernel
theorem dX11_least_97 : decode cX11_least 97 = .ok (.getfield 69, 3) := by decide +kernel
theorem dX11_least_100 : decode cX11_least 100 = .ok (.getfield 364, 3) := by decide +kernel
theorem dX11_least_103 : decode cX11_least 103 = .ok (.i2l, 1) := by decide +kernel
theorem dX11_least_104 : decode cX11_least 104 = .ok (.lreturn, 1) := by decide +kernel
theorem dX11_least_105 : decode cX11_least 105 = .ok (.aload_n 0, 1) := by decide +kernel
theorem dX11_least_106 : decode cX11_least 106 = .ok (.getfield 69, 3) := by decide +kernel
theorem dX11_least_109 : decode cX11_least 109 = .ok (.getfield 369, 3) := by decide +kernel
theorem dX11_least_112 : decode cX11_least 112 = .ok (.i2l, 1) := by decide +kernel
theorem dX11_least_113 : decode cX11_least 113 = .ok (.lreturn, 1) := by decide +kernel
theorem dX11_least_114 : decode cX11_least 114 = .ok (.aload_n 0, 1) := by decide +kernel
theorem dX11_least_115 : decode cX11_least 115 = .ok (.getfield 69, 3) := by decide +kernel
theorem dX11_least_118 : decode cX11_least 118 = .ok (.getfield 372, 3) := by decide +kernel
theorem dX11_least_121 : decode cX11_least 121 = .ok (.i2l, 1) := by decide +kernel
theorem dX11_least_122 : decode cX11_least 122 = .ok (.lreturn, 1) := by decide +kernel
theorem dX11_least_123 : decode cX11_least 123 = .ok (.aload_n 0, 1) := by decide +kernel
theorem dX11_least_124 : decode cX11_least 124 = .ok (.getfield 69, 3) := by decide +kernel
theorem dX11_least_127 : decode cX11_least 127 = .ok (.getfield 374, 3) := by decide +kernel
theorem dX11_least_130 : decode cX11_least 130 = .ok (.aload_n 0, 1) := by decide +kernel
theorem dX11_least_131 : decode cX11_least 131 = .ok (.getfield 69, 3) := by decide +kernel
theorem dX11_least_134 : decode cX11_least 134 = .ok (.getfield 377, 3) := by decide +kernel
theorem dX11_least_137 : decode cX11_least 137 = .ok (.iload_n 2, 1) := by decide +kernel
theorem dX11_least_138 : decode cX11_least 138 = .ok (.iconst 3, 1) := by decide +kernel
theorem dX11_least_139 : decode cX11_least 139 = .ok (.isub, 1) := by decide +kernel
theorem dX11_least_140 : decode cX11_least 140 = .ok (.invokestatic 356, 3) := by decide +kernel
theorem dX11_least_143 : decode cX11_least 143 = .ok (.lreturn, 1) := by decide +kernel
theorem dX11_work_0 : decode cX11_work 0 = .ok (.aload_n 0, 1) := by decide +kernel
theorem dX11_work_1 : decode cX11_work 1 = .ok (.getfield 20, 3) := by decide +kernel
theorem dX11_work_4 : decode cX11_work 4 = .ok (.iload_n 1, 1) := by decide +kernel
theorem dX11_work_5 : decode cX11_work 5 = .ok (.invokevirtual 80, 3) := by decide +kernel
theorem dX11_work_8 : decode cX11_work 8 = .ok (.ifCond .ne 7, 3) := by decide +kernel
theorem dX11_work_11 : decode cX11_work 11 = .ok (.sipush (-1001), 3) := by decide +kernel
theorem dX11_work_14 : decode cX11_work 14 = .ok (.ireturn, 1) := by decide +kernel
theorem dX11_work_15 : decode cX11_work 15 = .ok (.iload_n 2, 1) := by decide +kernel
theorem dX11_work_16 : decode cX11_work 16 = .ok (.iconst 0, 1) := by decide +kernel
theorem dX11_work_17 : decode cX11_work 17 = .ok (.iconst 1, 1) := by decide +kernel
theorem dX11_work_18 : decode cX11_work 18 = .ok (.invokestatic 86, 3) := by decide +kernel
theorem dX11_work_21 : decode cX11_work 21 = .ok (.ifCond .ne 35, 3) := by decide +kernel
theorem dX11_work_24 : decode cX11_work 24 = .ok (.iload_n 3, 1) := by decide +kernel
theorem dX11_work_25 : decode cX11_work 25 = .ok (.iconst 1, 1) := by decide +kernel
theorem dX11_work_26 : decode cX11_work 26 = .ok (.iload_n 2, 1) := by decide +kernel
theorem dX11_work_27 : decode cX11_work 27 = .ok (.ifCond .ne 9, 3) := by decide +kernel
theorem dX11_work_30 : decode cX11_work 30 = .ok (.sipush 500, 3) := by decide +kernel
theorem dX11_work_33 : decode cX11_work 33 = .ok (.goto 5, 3) := by decide +kernel
theorem dX11_work_36 : decode cX11_work 36 = .ok (.bipush 100, 2) := by decide +kernel
theorem dX11_work_38 : decode cX11_work 38 = .ok (.invokestatic 86, 3) := by decide +kernel
theorem dX11_work_41 : decode cX11_work 41 = .ok (.ifCond .ne 15, 3) := by decide +kernel
theorem dX11_work_44 : decode cX11_work 44 = .ok (.iload 4, 2) := by decide +kernel
theorem dX11_work_46 : decode cX11_work 46 = .ok (.iconst 1, 1) := by decide +kernel
theorem dX11_work_47 : decode cX11_work 47 = .ok (.sipush 999, 3) := by decide +kernel
theorem dX11_work_50 : decode cX11_work 50 = .ok (.invokestatic 86, 3) := by decide +kernel
theorem dX11_work_53 : decode cX11_work 53 = .ok (.ifCond .eq 7, 3) := by decide +kernel
theorem dX11_work_56 : decode cX11_work 56 = .ok (.sipush (-1002), 3) := by decide +kernel
theorem dX11_work_59 : decode cX11_work 59 = .ok (.ireturn, 1) := by decide +kernel
theorem dX11_work_60 : decode cX11_work 60 = .ok (.aload_n 0, 1) := by decide +kernel
theorem dX11_work_61 : decode cX11_work 61 = .ok (.getfield 55, 3) := by decide +kernel
theorem dX11_work_64 : decode cX11_work 64 = .ok (.getfield 171, 3) := by decide +kernel
theorem dX11_work_67 : decode cX11_work 67 = .ok (.bipush 6, 2) := by decide +kernel
theorem dX11_work_69 : decode cX11_work 69 = .ok (.if_icmp .lt 7, 3) := by decide +kernel
theorem dX11_work_72 : decode cX11_work 72 = .ok (.sipush (-1004), 3) := by decide +kernel
theorem dX11_work_75 : decode cX11_work 75 = .ok (.ireturn, 1) := by decide +kernel
theorem dX11_work_76 : decode cX11_work 76 = .ok (.aload_n 0, 1) := by decide +kernel
theorem dX11_work_77 : decode cX11_work 77 = .ok (.getfield 55, 3) := by decide +kernel
theorem dX11_work_80 : decode cX11_work 80 = .ok (.iload_n 1, 1) := by decide +kernel
theorem dX11_work_81 : decode cX11_work 81 = .ok (.iload_n 2, 1) := by decide +kernel
theorem dX11_work_82 : decode cX11_work 82 = .ok (.iload_n 3, 1) := by decide +kernel
theorem dX11_work_83 : decode cX11_work 83 = .ok (.iload 4, 2) := by decide +kernel
theorem dX11_work_85 : decode cX11_work 85 = .ok (.invokevirtual 380, 3) := by decide +kernel
theorem dX11_work_88 : decode cX11_work 88 = .ok (.ireturn, 1) := by decide +kernel
theorem dX11_stands_0 : decode cX11_stands 0 = .ok (.iload_n 1, 1) := by decide +kernel
theorem dX11_stands_1 : decode cX11_stands 1 = .ok (.iconst 0, 1) := by decide +kernel
theorem dX11_stands_2 : decode cX11_stands 2 = .ok (.iconst 1, 1) := by decide +kernel
theorem dX11_stands_3 : decode cX11_stands 3 = .ok (.aload_n 0, 1) := by decide +kernel
theorem dX11_stands_4 : decode cX11_stands 4 = .ok (.getfield 55, 3) := by decide +kernel
theorem dX11_stands_7 : decode cX11_stands 7 = .ok (.getfield 171, 3) := by decide +kernel
theorem dX11_stands_10 : decode cX11_stands 10 = .ok (.ishl, 1) := by decide +kernel
theorem dX11_stands_11 : decode cX11_stands 11 = .ok (.iconst 1, 1) := by decide +kernel
theorem dX11_stands_12 : decode cX11_stands 12 = .ok (.isub, 1) := by decide +kernel
theorem dX11_stands_13 : decode cX11_stands 13 = .ok (.invokestatic 86, 3) := by decide +kernel
theorem dX11_stands_16 : decode cX11_stands 16 = .ok (.ifCond .eq 7, 3) := by decide +kernel
theorem dX11_stands_19 : decode cX11_stands 19 = .ok (.sipush (-1001), 3) := by decide +kernel
theorem dX11_stands_22 : decode cX11_stands 22 = .ok (.ireturn, 1) := by decide +kernel
theorem dX11_stands_23 : decode cX11_stands 23 = .ok (.aload_n 0, 1) := by decide +kernel
theorem dX11_stands_24 : decode cX11_stands 24 = .ok (.invokevirtual 383, 3) := by decide +kernel
theorem dX11_stands_27 : decode cX11_stands 27 = .ok (.ifCond .eq 7, 3) := by decide +kernel
theorem dX11_stands_30 : decode cX11_stands 30 = .ok (.sipush (-1005), 3) := by decide +kernel
theorem dX11_stands_33 : decode cX11_stands 33 = .ok (.ireturn, 1) := by decide +kernel
theorem dX11_stands_34 : decode cX11_stands 34 = .ok (.aload_n 0, 1) := by decide +kernel
theorem dX11_stands_35 : decode cX11_stands 35 = .ok (.getfield 55, 3) := by decide +kernel
theorem dX11_stands_38 : decode cX11_stands 38 = .ok (.invokevirtual 387, 3) := by decide +kernel
theorem dX11_stands_41 : decode cX11_stands 41 = .ok (.aload_n 0, 1) := by decide +kernel
theorem dX11_stands_42 : decode cX11_stands 42 = .ok (.iload_n 1, 1) := by decide +kernel
theorem dX11_stands_43 : decode cX11_stands 43 = .ok (.invokevirtual 390, 3) := by decide +kernel
theorem dX11_stands_46 : decode cX11_stands 46 = .ok (.ifCond .eq 7, 3) := by decide +kernel
theorem dX11_stands_49 : decode cX11_stands 49 = .ok (.iconst 1, 1) := by decide +kernel
theorem dX11_stands_50 : decode cX11_stands 50 = .ok (.goto 4, 3) := by decide +kernel
theorem dX11_stands_53 : decode cX11_stands 53 = .ok (.iconst 0, 1) := by decide +kernel
theorem dX11_stands_54 : decode cX11_stands 54 = .ok (.ireturn, 1) := by decide +kernel
theorem dX11_plan_0 : decode cX11_plan 0 = .ok (.iload_n 1, 1) := by decide +kernel
theorem dX11_plan_1 : decode cX11_plan 1 = .ok (.iconst 0, 1) := by decide +kernel
theorem dX11_plan_2 : decode cX11_plan 2 = .ok (.iconst 1, 1) := by decide +kernel
theorem dX11_plan_3 : decode cX11_plan 3 = .ok (.invokestatic 86, 3) := by decide +kernel
theorem dX11_plan_6 : decode cX11_plan 6 = .ok (.ifCond .eq 7, 3) := by decide +kernel
theorem dX11_plan_9 : decode cX11_plan 9 = .ok (.sipush (-1002), 3) := by decide +kernel
theorem dX11_plan_12 : decode cX11_plan 12 = .ok (.ireturn, 1) := by decide +kernel
theorem dX11_plan_13 : decode cX11_plan 13 = .ok (.aload_n 0, 1) := by decide +kernel
theorem dX11_plan_14 : decode cX11_plan 14 = .ok (.invokevirtual 383, 3) := by decide +kernel
theorem dX11_plan_17 : decode cX11_plan 17 = .ok (.ifCond .eq 7, 3) := by decide +kernel
theorem dX11_plan_20 : decode cX11_plan 20 = .ok (.sipush (-1005), 3) := by decide +kernel
theorem dX11_plan_23 : decode cX11_plan 23 = .ok (.ireturn, 1) := by decide +kernel
theorem dX11_plan_24 : decode cX11_plan 24 = .ok (.aload_n 0, 1) := by decide +kernel
theorem dX11_plan_25 : decode cX11_plan 25 = .ok (.getfield 55, 3) := by decide +kernel
theorem dX11_plan_28 : decode cX11_plan 28 = .ok (.invokevirtual 387, 3) := by decide +kernel
theorem dX11_plan_31 : decode cX11_plan 31 = .ok (.iconst (-1), 1) := by decide +kernel
theorem dX11_plan_32 : decode cX11_plan 32 = .ok (.istore_n 2, 1) := by decide +kernel
theorem dX11_plan_33 : decode cX11_plan 33 = .ok (.iconst (-1), 1) := by decide +kernel
theorem dX11_plan_34 : decode cX11_plan 34 = .ok (.istore_n 3, 1) := by decide +kernel
theorem dX11_plan_35 : decode cX11_plan 35 = .ok (.iconst 0, 1) := by decide +kernel
theorem dX11_plan_36 : decode cX11_plan 36 = .ok (.istore 4, 2) := by decide +kernel
theorem dX11_plan_38 : decode cX11_plan 38 = .ok (.iload 4, 2) := by decide +kernel
theorem dX11_plan_40 : decode cX11_plan 40 = .ok (.iconst 1, 1) := by decide +kernel
theorem dX11_plan_41 : decode cX11_plan 41 = .ok (.aload_n 0, 1) := by decide +kernel
theorem dX11_plan_42 : decode cX11_plan 42 = .ok (.getfield 55, 3) := by decide +kernel
theorem dX11_plan_45 : decode cX11_plan 45 = .ok (.getfield 171, 3) := by decide +kernel
theorem dX11_plan_48 : decode cX11_plan 48 = .ok (.ishl, 1) := by decide +kernel
theorem dX11_plan_49 : decode cX11_plan 49 = .ok (.if_icmp .ge 46, 3) := by decide +kernel
theorem dX11_plan_52 : decode cX11_plan 52 = .ok (.aload_n 0, 1) := by decide +kernel
theorem dX11_plan_53 : decode cX11_plan 53 = .ok (.getfield 55, 3) := by decide +kernel
theorem dX11_plan_56 : decode cX11_plan 56 = .ok (.iload 4, 2) := by decide +kernel
theorem dX11_plan_58 : decode cX11_plan 58 = .ok (.invokevirtual 393, 3) := by decide +kernel
theorem dX11_plan_61 : decode cX11_plan 61 = .ok (.istore 5, 2) := by decide +kernel
theorem dX11_plan_63 : decode cX11_plan 63 = .ok (.iload_n 2, 1) := by decide +kernel
theorem dX11_plan_64 : decode cX11_plan 64 = .ok (.iconst (-1), 1) := by decide +kernel
theorem dX11_plan_65 : decode cX11_plan 65 = .ok (.if_icmp .eq 9, 3) := by decide +kernel
theorem dX11_plan_68 : decode cX11_plan 68 = .ok (.iload 5, 2) := by decide +kernel
theorem dX11_plan_70 : decode cX11_plan 70 = .ok (.iload_n 3, 1) := by decide +kernel
theorem dX11_plan_71 : decode cX11_plan 71 = .ok (.if_icmp .ge 18, 3) := by decide +kernel
theorem dX11_plan_74 : decode cX11_plan 74 = .ok (.aload_n 0, 1) := by decide +kernel
theorem dX11_plan_75 : decode cX11_plan 75 = .ok (.iload 4, 2) := by decide +kernel
theorem dX11_plan_77 : decode cX11_plan 77 = .ok (.invokevirtual 390, 3) := by decide +kernel
theorem dX11_plan_80 : decode cX11_plan 80 = .ok (.ifCond .eq 9, 3) := by decide +kernel
theorem dX11_plan_83 : decode cX11_plan 83 = .ok (.iload 4, 2) := by decide +kernel
theorem dX11_plan_85 : decode cX11_plan 85 = .ok (.istore_n 2, 1) := by decide +kernel
theorem dX11_plan_86 : decode cX11_plan 86 = .ok (.iload 5, 2) := by decide +kernel
theorem dX11_plan_88 : decode cX11_plan 88 = .ok (.istore_n 3, 1) := by decide +kernel
theorem dX11_plan_89 : decode cX11_plan 89 = .ok (.iinc 4 1, 3) := by decide +kernel
theorem dX11_plan_92 : decode cX11_plan 92 = .ok (.goto (-54), 3) := by decide +kernel
theorem dX11_plan_95 : decode cX11_plan 95 = .ok (.iload_n 1, 1) := by decide +kernel
theorem dX11_plan_96 : decode cX11_plan 96 = .ok (.ifCond .ne 7, 3) := by decide +kernel
theorem dX11_plan_99 : decode cX11_plan 99 = .ok (.iload_n 2, 1) := by decide +kernel
theorem dX11_plan_100 : decode cX11_plan 100 = .ok (.goto 4, 3) := by decide +kernel
theorem dX11_plan_103 : decode cX11_plan 103 = .ok (.iload_n 3, 1) := by decide +kernel
theorem dX11_plan_104 : decode cX11_plan 104 = .ok (.ireturn, 1) := by decide +kernel
theorem dX11_loss_0 : decode cX11_loss 0 = .ok (.aload_n 0, 1) := by decide +kernel
theorem dX11_loss_1 : decode cX11_loss 1 = .ok (.invokevirtual 383, 3) := by decide +kernel
theorem dX11_loss_4 : decode cX11_loss 4 = .ok (.ifCond .eq 7, 3) := by decide +kernel
theorem dX11_loss_7 : decode cX11_loss 7 = .ok (.ldc2_w 233, 3) := by decide +kernel
theorem dX11_loss_10 : decode cX11_loss 10 = .ok (.lreturn, 1) := by decide +kernel
theorem dX11_loss_11 : decode cX11_loss 11 = .ok (.lconst 0, 1) := by decide +kernel
theorem dX11_loss_12 : decode cX11_loss 12 = .ok (.lstore_n 1, 1) := by decide +kernel
theorem dX11_loss_13 : decode cX11_loss 13 = .ok (.iconst 0, 1) := by decide +kernel
theorem dX11_loss_14 : decode cX11_loss 14 = .ok (.istore_n 3, 1) := by decide +kernel
theorem dX11_loss_15 : decode cX11_loss 15 = .ok (.iload_n 3, 1) := by decide +kernel
theorem dX11_loss_16 : decode cX11_loss 16 = .ok (.aload_n 0, 1) := by decide +kernel
theorem dX11_loss_17 : decode cX11_loss 17 = .ok (.getfield 41, 3) := by decide +kernel
theorem dX11_loss_20 : decode cX11_loss 20 = .ok (.getfield 169, 3) := by decide +kernel
theorem dX11_loss_23 : decode cX11_loss 23 = .ok (.if_icmp .ge 94, 3) := by decide +kernel
theorem dX11_loss_26 : decode cX11_loss 26 = .ok (.iconst 0, 1) := by decide +kernel
theorem dX11_loss_27 : decode cX11_loss 27 = .ok (.istore 4, 2) := by decide +kernel
theorem dX11_loss_29 : decode cX11_loss 29 = .ok (.iload 4, 2) := by decide +kernel
theorem dX11_loss_31 : decode cX11_loss 31 = .ok (.aload_n 0, 1) := by decide +kernel
theorem dX11_loss_32 : decode cX11_loss 32 = .ok (.getfield 25, 3) := by decide +kernel
theorem dX11_loss_35 : decode cX11_loss 35 = .ok (.getfield 137, 3) := by decide +kernel
theorem dX11_loss_38 : decode cX11_loss 38 = .ok (.if_icmp .ge 73, 3) := by decide +kernel
theorem dX11_loss_41 : decode cX11_loss 41 = .ok (.aload_n 0, 1) := by decide +kernel
theorem dX11_loss_42 : decode cX11_loss 42 = .ok (.iload_n 3, 1) := by decide +kernel
theorem dX11_loss_43 : decode cX11_loss 43 = .ok (.iload 4, 2) := by decide +kernel
theorem dX11_loss_45 : decode cX11_loss 45 = .ok (.invokevirtual 286, 3) := by decide +kernel
theorem dX11_loss_48 : decode cX11_loss 48 = .ok (.aload_n 0, 1) := by decide +kernel
theorem dX11_loss_49 : decode cX11_loss 49 = .ok (.getfield 25, 3) := by decide +kernel
theorem dX11_loss_52 : decode cX11_loss 52 = .ok (.getfield 396, 3) := by decide +kernel
theorem dX11_loss_55 : decode cX11_loss 55 = .ok (.iload 4, 2) := by decide +kernel
theorem dX11_loss_57 : decode cX11_loss 57 = .ok (.iaload, 1) := by decide +kernel
theorem dX11_loss_58 : decode cX11_loss 58 = .ok (.i2l, 1) := by decide +kernel
theorem dX11_loss_59 : decode cX11_loss 59 = .ok (.aload_n 0, 1) := by decide +kernel
theorem dX11_loss_60 : decode cX11_loss 60 = .ok (.getfield 41, 3) := by decide +kernel
theorem dX11_loss_63 : decode cX11_loss 63 = .ok (.getfield 399, 3) := by decide +kernel
theorem dX11_loss_66 : decode cX11_loss 66 = .ok (.iload_n 3, 1) := by decide +kernel
theorem dX11_loss_67 : decode cX11_loss 67 = .ok (.iaload, 1) := by decide +kernel
theorem dX11_loss_68 : decode cX11_loss 68 = .ok (.i2l, 1) := by decide +kernel
theorem dX11_loss_69 : decode cX11_loss 69 = .ok (.lmul, 1) := by decide +kernel
theorem dX11_loss_70 : decode cX11_loss 70 = .ok (.lstore 5, 2) := by decide +kernel
theorem dX11_loss_72 : decode cX11_loss 72 = .ok (.aload_n 0, 1) := by decide +kernel
theorem dX11_loss_73 : decode cX11_loss 73 = .ok (.getfield 62, 3) := by decide +kernel
theorem dX11_loss_76 : decode cX11_loss 76 = .ok (.getfield 402, 3) := by decide +kernel
theorem dX11_loss_79 : decode cX11_loss 79 = .ok (.lconst 0, 1) := by decide +kernel
theorem dX11_loss_80 : decode cX11_loss 80 = .ok (.lcmp, 1) := by decide +kernel
theorem dX11_loss_81 : decode cX11_loss 81 = .ok (.ifCond .le 24, 3) := by decide +kernel
theorem dX11_loss_84 : decode cX11_loss 84 = .ok (.lload_n 1, 1) := by decide +kernel
theorem dX11_loss_85 : decode cX11_loss 85 = .ok (.lload 5, 2) := by decide +kernel
theorem dX11_loss_87 : decode cX11_loss 87 = .ok (.aload_n 0, 1) := by decide +kernel
theorem dX11_loss_88 : decode cX11_loss 88 = .ok (.getfield 62, 3) := by decide +kernel
theorem dX11_loss_91 : decode cX11_loss 91 = .ok (.getfield 404, 3) := by decide +kernel
theorem dX11_loss_94 : decode cX11_loss 94 = .ok (.lmul, 1) := by decide +kernel
theorem dX11_loss_95 : decode cX11_loss 95 = .ok (.aload_n 0, 1) := by decide +kernel
theorem dX11_loss_96 : decode cX11_loss 96 = .ok (.getfield 62, 3) := by decide +kernel
theorem dX11_loss_99 : decode cX11_loss 99 = .ok (.getfield 402, 3) := by decide +kernel
theorem dX11_loss_102 : decode cX11_loss 102 = .ok (.ldiv, 1) := by decide +kernel
theorem dX11_loss_103 : decode cX11_loss 103 = .ok (.ladd, 1) := by decide +kernel
theorem dX11_loss_104 : decode cX11_loss 104 = .ok (.lstore_n 1, 1) := by decide +kernel
theorem dX11_loss_105 : decode cX11_loss 105 = .ok (.iinc 4 1, 3) := by decide +kernel
theorem dX11_loss_108 : decode cX11_loss 108 = .ok (.goto (-79), 3) := by decide +kernel
theorem dX11_loss_111 : decode cX11_loss 111 = .ok (.iinc 3 1, 3) := by decide +kernel
theorem dX11_loss_114 : decode cX11_loss 114 = .ok (.goto (-99), 3) := by decide +kernel
theorem dX11_loss_117 : decode cX11_loss 117 = .ok (.lload_n 1, 1) := by decide +kernel
theorem dX11_loss_118 : decode cX11_loss 118 = .ok (.lreturn, 1) := by decide +kernel
theorem dX11_housesQuarrel_0 : decode cX11_housesQuarrel 0 = .ok (.iconst 0, 1) := by decide +kernel
theorem dX11_housesQuarrel_1 : decode cX11_housesQuarrel 1 = .ok (.istore_n 1, 1) := by decide +kernel
theorem dX11_housesQuarrel_2 : decode cX11_housesQuarrel 2 = .ok (.iload_n 1, 1) := by decide +kernel
theorem dX11_housesQuarrel_3 : decode cX11_housesQuarrel 3 = .ok (.bipush 6, 2) := by decide +kernel
theorem dX11_housesQuarrel_5 : decode cX11_housesQuarrel 5 = .ok (.if_icmp .ge 45, 3) := by decide +kernel
theorem dX11_housesQuarrel_8 : decode cX11_housesQuarrel 8 = .ok (.aload_n 0, 1) := by decide +kernel
theorem dX11_housesQuarrel_9 : decode cX11_housesQuarrel 9 = .ok (.getfield 41, 3) := by decide +kernel
theorem dX11_housesQuarrel_12 : decode cX11_housesQuarrel 12 = .ok (.iload_n 1, 1) := by decide +kernel
theorem dX11_housesQuarrel_13 : decode cX11_housesQuarrel 13 = .ok (.invokevirtual 407, 3) := by decide +kernel
theorem dX11_housesQuarrel_16 : decode cX11_housesQuarrel 16 = .ok (.ifCond .le 28, 3) := by decide +kernel
theorem dX11_housesQuarrel_19 : decode cX11_housesQuarrel 19 = .ok (.aload_n 0, 1) := by decide +kernel
theorem dX11_housesQuarrel_20 : decode cX11_housesQuarrel 20 = .ok (.getfield 34, 3) := by decide +kernel
theorem dX11_housesQuarrel_23 : decode cX11_housesQuarrel 23 = .ok (.aload_n 0, 1) := by decide +kernel
theorem dX11_housesQuarrel_24 : decode cX11_housesQuarrel 24 = .ok (.getfield 10, 3) := by decide +kernel
theorem dX11_housesQuarrel_27 : decode cX11_housesQuarrel 27 = .ok (.iload_n 1, 1) := by decide +kernel
theorem dX11_housesQuarrel_28 : decode cX11_housesQuarrel 28 = .ok (.invokevirtual 188, 3) := by decide +kernel
theorem dX11_housesQuarrel_31 : decode cX11_housesQuarrel 31 = .ok (.aload_n 0, 1) := by decide +kernel
theorem dX11_housesQuarrel_32 : decode cX11_housesQuarrel 32 = .ok (.getfield 34, 3) := by decide +kernel
theorem dX11_housesQuarrel_35 : decode cX11_housesQuarrel 35 = .ok (.iload_n 1, 1) := by decide +kernel
theorem dX11_housesQuarrel_36 : decode cX11_housesQuarrel 36 = .ok (.invokevirtual 195, 3) := by decide +kernel
theorem dX11_housesQuarrel_39 : decode cX11_housesQuarrel 39 = .ok (.ifCond .ne 5, 3) := by decide +kernel
theorem dX11_housesQuarrel_42 : decode cX11_housesQuarrel 42 = .ok (.iconst 1, 1) := by decide +kernel
theorem dX11_housesQuarrel_43 : decode cX11_housesQuarrel 43 = .ok (.ireturn, 1) := by decide +kernel
theorem dX11_housesQuarrel_44 : decode cX11_housesQuarrel 44 = .ok (.iinc 1 1, 3) := by decide +kernel
theorem dX11_housesQuarrel_47 : decode cX11_housesQuarrel 47 = .ok (.goto (-45), 3) := by decide +kernel
theorem dX11_housesQuarrel_50 : decode cX11_housesQuarrel 50 = .ok (.iconst 0, 1) := by decide +kernel
theorem dX11_housesQuarrel_51 : decode cX11_housesQuarrel 51 = .ok (.ireturn, 1) := by decide +kernel
theorem dX11_allStand_0 : decode cX11_allStand 0 = .ok (.iconst 0, 1) := by decide +kernel
theorem dX11_allStand_1 : decode cX11_allStand 1 = .ok (.istore_n 2, 1) := by decide +kernel
theorem dX11_allStand_2 : decode cX11_allStand 2 = .ok (.iload_n 2, 1) := by decide +kernel
theorem dX11_allStand_3 : decode cX11_allStand 3 = .ok (.bipush 6, 2) := by decide +kernel
theorem dX11_allStand_5 : decode cX11_allStand 5 = .ok (.if_icmp .ge 40, 3) := by decide +kernel
theorem dX11_allStand_8 : decode cX11_allStand 8 = .ok (.aload_n 0, 1) := by decide +kernel
theorem dX11_allStand_9 : decode cX11_allStand 9 = .ok (.getfield 41, 3) := by decide +kernel
theorem dX11_allStand_12 : decode cX11_allStand 12 = .ok (.iload_n 2, 1) := by decide +kernel
theorem dX11_allStand_13 : decode cX11_allStand 13 = .ok (.invokevirtual 407, 3) := by decide +kernel
theorem dX11_allStand_16 : decode cX11_allStand 16 = .ok (.ifCond .le 23, 3) := by decide +kernel
theorem dX11_allStand_19 : decode cX11_allStand 19 = .ok (.aload_n 0, 1) := by decide +kernel
theorem dX11_allStand_20 : decode cX11_allStand 20 = .ok (.iload_n 2, 1) := by decide +kernel
theorem dX11_allStand_21 : decode cX11_allStand 21 = .ok (.iload_n 1, 1) := by decide +kernel
theorem dX11_allStand_22 : decode cX11_allStand 22 = .ok (.aload_n 0, 1) := by decide +kernel
theorem dX11_allStand_23 : decode cX11_allStand 23 = .ok (.getfield 55, 3) := by decide +kernel
theorem dX11_allStand_26 : decode cX11_allStand 26 = .ok (.iload_n 2, 1) := by decide +kernel
theorem dX11_allStand_27 : decode cX11_allStand 27 = .ok (.invokevirtual 410, 3) := by decide +kernel
theorem dX11_allStand_30 : decode cX11_allStand 30 = .ok (.iand, 1) := by decide +kernel
theorem dX11_allStand_31 : decode cX11_allStand 31 = .ok (.invokevirtual 413, 3) := by decide +kernel
theorem dX11_allStand_34 : decode cX11_allStand 34 = .ok (.ifCond .ne 5, 3) := by decide +kernel
theorem dX11_allStand_37 : decode cX11_allStand 37 = .ok (.iconst 0, 1) := by decide +kernel
theorem dX11_allStand_38 : decode cX11_allStand 38 = .ok (.ireturn, 1) := by decide +kernel
theorem dX11_allStand_39 : decode cX11_allStand 39 = .ok (.iinc 2 1, 3) := by decide +kernel
theorem dX11_allStand_42 : decode cX11_allStand 42 = .ok (.goto (-40), 3) := by decide +kernel
theorem dX11_allStand_45 : decode cX11_allStand 45 = .ok (.iconst 1, 1) := by decide +kernel
theorem dX11_allStand_46 : decode cX11_allStand 46 = .ok (.ireturn, 1) := by decide +kernel
theorem dX11_columnStands_0 : decode cX11_columnStands 0 = .ok (.iload_n 1, 1) := by decide +kernel
theorem dX11_columnStands_1 : decode cX11_columnStands 1 = .ok (.bipush 64, 2) := by decide +kernel
theorem dX11_columnStands_3 : decode cX11_columnStands 3 = .ok (.imul, 1) := by decide +kernel
theorem dX11_columnStands_4 : decode cX11_columnStands 4 = .ok (.iload_n 2, 1) := by decide +kernel
theorem dX11_columnStands_5 : decode cX11_columnStands 5 = .ok (.iadd, 1) := by decide +kernel
theorem dX11_columnStands_6 : decode cX11_columnStands 6 = .ok (.istore_n 3, 1) := by decide +kernel
theorem dX11_columnStands_7 : decode cX11_columnStands 7 = .ok (.aload_n 0, 1) := by decide +kernel
theorem dX11_columnStands_8 : decode cX11_columnStands 8 = .ok (.getfield 55, 3) := by decide +kernel
theorem dX11_columnStands_11 : decode cX11_columnStands 11 = .ok (.getfield 416, 3) := by decide +kernel
theorem dX11_columnStands_14 : decode cX11_columnStands 14 = .ok (.iload_n 3, 1) := by decide +kernel
theorem dX11_columnStands_15 : decode cX11_columnStands 15 = .ok (.iaload, 1) := by decide +kernel
theorem dX11_columnStands_16 : decode cX11_columnStands 16 = .ok (.ifCond .ne 26, 3) := by decide +kernel
theorem dX11_columnStands_19 : decode cX11_columnStands 19 = .ok (.aload_n 0, 1) := by decide +kernel
theorem dX11_columnStands_20 : decode cX11_columnStands 20 = .ok (.getfield 55, 3) := by decide +kernel
theorem dX11_columnStands_23 : decode cX11_columnStands 23 = .ok (.getfield 416, 3) := by decide +kernel
theorem dX11_columnStands_26 : decode cX11_columnStands 26 = .ok (.iload_n 3, 1) := by decide +kernel
theorem dX11_columnStands_27 : decode cX11_columnStands 27 = .ok (.aload_n 0, 1) := by decide +kernel
theorem dX11_columnStands_28 : decode cX11_columnStands 28 = .ok (.iload_n 1, 1) := by decide +kernel
theorem dX11_columnStands_29 : decode cX11_columnStands 29 = .ok (.iload_n 2, 1) := by decide +kernel
theorem dX11_columnStands_30 : decode cX11_columnStands 30 = .ok (.invokevirtual 419, 3) := by decide +kernel
theorem dX11_columnStands_33 : decode cX11_columnStands 33 = .ok (.ifCond .eq 7, 3) := by decide +kernel
theorem dX11_columnStands_36 : decode cX11_columnStands 36 = .ok (.iconst 1, 1) := by decide +kernel
theorem dX11_columnStands_37 : decode cX11_columnStands 37 = .ok (.goto 4, 3) := by decide +kernel
theorem dX11_columnStands_40 : decode cX11_columnStands 40 = .ok (.iconst 2, 1) := by decide +kernel
theorem dX11_columnStands_41 : decode cX11_columnStands 41 = .ok (.iastore, 1) := by decide +kernel
theorem dX11_columnStands_42 : decode cX11_columnStands 42 = .ok (.aload_n 0, 1) := by decide +kernel
theorem dX11_columnStands_43 : decode cX11_columnStands 43 = .ok (.getfield 55, 3) := by decide +kernel
theorem dX11_columnStands_46 : decode cX11_columnStands 46 = .ok (.getfield 416, 3) := by decide +kernel
theorem dX11_columnStands_49 : decode cX11_columnStands 49 = .ok (.iload_n 3, 1) := by decide +kernel
theorem dX11_columnStands_50 : decode cX11_columnStands 50 = .ok (.iaload, 1) := by decide +kernel
theorem dX11_columnStands_51 : decode cX11_columnStands 51 = .ok (.iconst 1, 1) := by decide +kernel
theorem dX11_columnStands_52 : decode cX11_columnStands 52 = .ok (.if_icmp .ne 7, 3) := by decide +kernel
theorem dX11_columnStands_55 : decode cX11_columnStands 55 = .ok (.iconst 1, 1) := by decide +kernel
theorem dX11_columnStands_56 : decode cX11_columnStands 56 = .ok (.goto 4, 3) := by decide +kernel
theorem dX11_columnStands_59 : decode cX11_columnStands 59 = .ok (.iconst 0, 1) := by decide +kernel
theorem dX11_columnStands_60 : decode cX11_columnStands 60 = .ok (.ireturn, 1) := by decide +kernel
theorem dX11_columnHolds_0 : decode cX11_columnHolds 0 = .ok (.aload_n 0, 1) := by decide +kernel
theorem dX11_columnHolds_1 : decode cX11_columnHolds 1 = .ok (.getfield 41, 3) := by decide +kernel
theorem dX11_columnHolds_4 : decode cX11_columnHolds 4 = .ok (.iload_n 1, 1) := by decide +kernel
theorem dX11_columnHolds_5 : decode cX11_columnHolds 5 = .ok (.invokevirtual 407, 3) := by decide +kernel
theorem dX11_columnHolds_8 : decode cX11_columnHolds 8 = .ok (.istore_n 3, 1) := by decide +kernel
theorem dX11_columnHolds_9 : decode cX11_columnHolds 9 = .ok (.iconst 0, 1) := by decide +kernel
theorem dX11_columnHolds_10 : decode cX11_columnHolds 10 = .ok (.istore 4, 2) := by decide +kernel
theorem dX11_columnHolds_12 : decode cX11_columnHolds 12 = .ok (.iload 4, 2) := by decide +kernel
theorem dX11_columnHolds_14 : decode cX11_columnHolds 14 = .ok (.aload_n 0, 1) := by decide +kernel
theorem dX11_columnHolds_15 : decode cX11_columnHolds 15 = .ok (.getfield 25, 3) := by decide +kernel
theorem dX11_columnHolds_18 : decode cX11_columnHolds 18 = .ok (.getfield 137, 3) := by decide +kernel
theorem dX11_columnHolds_21 : decode cX11_columnHolds 21 = .ok (.if_icmp .ge 121, 3) := by decide +kernel
theorem dX11_columnHolds_24 : decode cX11_columnHolds 24 = .ok (.aload_n 0, 1) := by decide +kernel
theorem dX11_columnHolds_25 : decode cX11_columnHolds 25 = .ok (.getfield 10, 3) := by decide +kernel
theorem dX11_columnHolds_28 : decode cX11_columnHolds 28 = .ok (.iload_n 1, 1) := by decide +kernel
theorem dX11_columnHolds_29 : decode cX11_columnHolds 29 = .ok (.invokevirtual 202, 3) := by decide +kernel
theorem dX11_columnHolds_32 : decode cX11_columnHolds 32 = .ok (.aload_n 0, 1) := by decide +kernel
theorem dX11_columnHolds_33 : decode cX11_columnHolds 33 = .ok (.getfield 10, 3) := by decide +kernel
theorem dX11_columnHolds_36 : decode cX11_columnHolds 36 = .ok (.iload 4, 2) := by decide +kernel
theorem dX11_columnHolds_38 : decode cX11_columnHolds 38 = .ok (.aload_n 0, 1) := by decide +kernel
theorem dX11_columnHolds_39 : decode cX11_columnHolds 39 = .ok (.getfield 55, 3) := by decide +kernel
theorem dX11_columnHolds_42 : decode cX11_columnHolds 42 = .ok (.iload_n 1, 1) := by decide +kernel
theorem dX11_columnHolds_43 : decode cX11_columnHolds 43 = .ok (.iconst 0, 1) := by decide +kernel
theorem dX11_columnHolds_44 : decode cX11_columnHolds 44 = .ok (.iload_n 2, 1) := by decide +kernel
theorem dX11_columnHolds_45 : decode cX11_columnHolds 45 = .ok (.invokevirtual 422, 3) := by decide +kernel
theorem dX11_columnHolds_48 : decode cX11_columnHolds 48 = .ok (.aload_n 0, 1) := by decide +kernel
theorem dX11_columnHolds_49 : decode cX11_columnHolds 49 = .ok (.getfield 55, 3) := by decide +kernel
theorem dX11_columnHolds_52 : decode cX11_columnHolds 52 = .ok (.iload_n 1, 1) := by decide +kernel
theorem dX11_columnHolds_53 : decode cX11_columnHolds 53 = .ok (.iconst 1, 1) := by decide +kernel
theorem dX11_columnHolds_54 : decode cX11_columnHolds 54 = .ok (.iload_n 2, 1) := by decide +kernel
theorem dX11_columnHolds_55 : decode cX11_columnHolds 55 = .ok (.invokevirtual 422, 3) := by decide +kernel
theorem dX11_columnHolds_58 : decode cX11_columnHolds 58 = .ok (.invokevirtual 249, 3) := by decide +kernel
theorem dX11_columnHolds_61 : decode cX11_columnHolds 61 = .ok (.iconst 0, 1) := by decide +kernel
theorem dX11_columnHolds_62 : decode cX11_columnHolds 62 = .ok (.istore 5, 2) := by decide +kernel
theorem dX11_columnHolds_64 : decode cX11_columnHolds 64 = .ok (.iload 5, 2) := by decide +kernel
theorem dX11_columnHolds_66 : decode cX11_columnHolds 66 = .ok (.aload_n 0, 1) := by decide +kernel
theorem dX11_columnHolds_67 : decode cX11_columnHolds 67 = .ok (.getfield 34, 3) := by decide +kernel
theorem dX11_columnHolds_70 : decode cX11_columnHolds 70 = .ok (.getfield 206, 3) := by decide +kernel
theorem dX11_columnHolds_73 : decode cX11_columnHolds 73 = .ok (.iload_n 1, 1) := by decide +kernel
theorem dX11_columnHolds_74 : decode cX11_columnHolds 74 = .ok (.iaload, 1) := by decide +kernel
theorem dX11_columnHolds_75 : decode cX11_columnHolds 75 = .ok (.if_icmp .ge 61, 3) := by decide +kernel
theorem dX11_columnHolds_78 : decode cX11_columnHolds 78 = .ok (.aload_n 0, 1) := by decide +kernel
theorem dX11_columnHolds_79 : decode cX11_columnHolds 79 = .ok (.getfield 34, 3) := by decide +kernel
theorem dX11_columnHolds_82 : decode cX11_columnHolds 82 = .ok (.iload_n 1, 1) := by decide +kernel
theorem dX11_columnHolds_83 : decode cX11_columnHolds 83 = .ok (.aload_n 0, 1) := by decide +kernel
theorem dX11_columnHolds_84 : decode cX11_columnHolds 84 = .ok (.getfield 10, 3) := by decide +kernel
theorem dX11_columnHolds_87 : decode cX11_columnHolds 87 = .ok (.invokevirtual 212, 3) := by decide +kernel
theorem dX11_columnHolds_90 : decode cX11_columnHolds 90 = .ok (.invokevirtual 216, 3) := by decide +kernel
theorem dX11_columnHolds_93 : decode cX11_columnHolds 93 = .ok (.ifCond .eq 30, 3) := by decide +kernel
theorem dX11_columnHolds_96 : decode cX11_columnHolds 96 = .ok (.aload_n 0, 1) := by decide +kernel
theorem dX11_columnHolds_97 : decode cX11_columnHolds 97 = .ok (.getfield 10, 3) := by decide +kernel
theorem dX11_columnHolds_100 : decode cX11_columnHolds 100 = .ok (.invokevirtual 252, 3) := by decide +kernel
theorem dX11_columnHolds_103 : decode cX11_columnHolds 103 = .ok (.aload_n 0, 1) := by decide +kernel
theorem dX11_columnHolds_104 : decode cX11_columnHolds 104 = .ok (.getfield 10, 3) := by decide +kernel
theorem dX11_columnHolds_107 : decode cX11_columnHolds 107 = .ok (.iload_n 3, 1) := by decide +kernel
theorem dX11_columnHolds_108 : decode cX11_columnHolds 108 = .ok (.invokevirtual 309, 3) := by decide +kernel
theorem dX11_columnHolds_111 : decode cX11_columnHolds 111 = .ok (.aload_n 0, 1) := by decide +kernel
theorem dX11_columnHolds_112 : decode cX11_columnHolds 112 = .ok (.getfield 30, 3) := by decide +kernel
theorem dX11_columnHolds_115 : decode cX11_columnHolds 115 = .ok (.invokevirtual 292, 3) := by decide +kernel
theorem dX11_columnHolds_118 : decode cX11_columnHolds 118 = .ok (.if_icmp .lt 5, 3) := by decide +kernel
theorem dX11_columnHolds_121 : decode cX11_columnHolds 121 = .ok (.iconst 0, 1) := by decide +kernel
theorem dX11_columnHolds_122 : decode cX11_columnHolds 122 = .ok (.ireturn, 1) := by decide +kernel
theorem dX11_columnHolds_123 : decode cX11_columnHolds 123 = .ok (.aload_n 0, 1) := by decide +kernel
theorem dX11_columnHolds_124 : decode cX11_columnHolds 124 = .ok (.getfield 10, 3) := by decide +kernel
theorem dX11_columnHolds_127 : decode cX11_columnHolds 127 = .ok (.invokevirtual 219, 3) := by decide +kernel
theorem dX11_columnHolds_130 : decode cX11_columnHolds 130 = .ok (.iinc 5 1, 3) := by decide +kernel
theorem dX11_columnHolds_133 : decode cX11_columnHolds 133 = .ok (.goto (-69), 3) := by decide +kernel
theorem dX11_columnHolds_136 : decode cX11_columnHolds 136 = .ok (.iinc 4 1, 3) := by decide +kernel
theorem dX11_columnHolds_139 : decode cX11_columnHolds 139 = .ok (.goto (-127), 3) := by decide +kernel
theorem dX11_columnHolds_142 : decode cX11_columnHolds 142 = .ok (.iconst 1, 1) := by decide +kernel
theorem dX11_columnHolds_143 : decode cX11_columnHolds 143 = .ok (.ireturn, 1) := by decide +kernel
theorem dX11_feed_0 : decode cX11_feed 0 = .ok (.iload_n 1, 1) := by decide +kernel
theorem dX11_feed_1 : decode cX11_feed 1 = .ok (.iconst 1, 1) := by decide +kernel
theorem dX11_feed_2 : decode cX11_feed 2 = .ok (.bipush 8, 2) := by decide +kernel
theorem dX11_feed_4 : decode cX11_feed 4 = .ok (.invokestatic 86, 3) := by decide +kernel
theorem dX11_feed_7 : decode cX11_feed 7 = .ok (.ifCond .eq 7, 3) := by decide +kernel
theorem dX11_feed_10 : decode cX11_feed 10 = .ok (.sipush (-1002), 3) := by decide +kernel
theorem dX11_feed_13 : decode cX11_feed 13 = .ok (.ireturn, 1) := by decide +kernel
theorem dX11_feed_14 : decode cX11_feed 14 = .ok (.aload_n 0, 1) := by decide +kernel
theorem dX11_feed_15 : decode cX11_feed 15 = .ok (.getfield 76, 3) := by decide +kernel
theorem dX11_feed_18 : decode cX11_feed 18 = .ok (.getfield 172, 3) := by decide +kernel
theorem dX11_feed_21 : decode cX11_feed 21 = .ok (.iload_n 1, 1) := by decide +kernel
theorem dX11_feed_22 : decode cX11_feed 22 = .ok (.iadd, 1) := by decide +kernel
theorem dX11_feed_23 : decode cX11_feed 23 = .ok (.sipush 200, 3) := by decide +kernel
theorem dX11_feed_26 : decode cX11_feed 26 = .ok (.if_icmp .le 7, 3) := by decide +kernel
theorem dX11_feed_29 : decode cX11_feed 29 = .ok (.sipush (-1004), 3) := by decide +kernel
theorem dX11_feed_32 : decode cX11_feed 32 = .ok (.ireturn, 1) := by decide +kernel
theorem dX11_feed_33 : decode cX11_feed 33 = .ok (.aload_n 0, 1) := by decide +kernel
theorem dX11_feed_34 : decode cX11_feed 34 = .ok (.getfield 76, 3) := by decide +kernel
theorem dX11_feed_37 : decode cX11_feed 37 = .ok (.iload_n 1, 1) := by decide +kernel
theorem dX11_feed_38 : decode cX11_feed 38 = .ok (.lload_n 2, 1) := by decide +kernel
theorem dX11_feed_39 : decode cX11_feed 39 = .ok (.invokevirtual 425, 3) := by decide +kernel
theorem dX11_feed_42 : decode cX11_feed 42 = .ok (.aload_n 0, 1) := by decide +kernel
theorem dX11_feed_43 : decode cX11_feed 43 = .ok (.getfield 76, 3) := by decide +kernel
theorem dX11_feed_46 : decode cX11_feed 46 = .ok (.getfield 172, 3) := by decide +kernel
theorem dX11_feed_49 : decode cX11_feed 49 = .ok (.ireturn, 1) := by decide +kernel
theorem dX11_read_0 : decode cX11_read 0 = .ok (.aload_n 0, 1) := by decide +kernel
theorem dX11_read_1 : decode cX11_read 1 = .ok (.getfield 76, 3) := by decide +kernel
theorem dX11_read_4 : decode cX11_read 4 = .ok (.invokevirtual 429, 3) := by decide +kernel
theorem dX11_read_7 : decode cX11_read 7 = .ok (.istore_n 1, 1) := by decide +kernel
theorem dX11_read_8 : decode cX11_read 8 = .ok (.aload_n 0, 1) := by decide +kernel
theorem dX11_read_9 : decode cX11_read 9 = .ok (.getfield 76, 3) := by decide +kernel
theorem dX11_read_12 : decode cX11_read 12 = .ok (.getfield 432, 3) := by decide +kernel
theorem dX11_read_15 : decode cX11_read 15 = .ok (.ifCond .eq 14, 3) := by decide +kernel
theorem dX11_read_18 : decode cX11_read 18 = .ok (.bipush (-10), 2) := by decide +kernel
theorem dX11_read_20 : decode cX11_read 20 = .ok (.aload_n 0, 1) := by decide +kernel
theorem dX11_read_21 : decode cX11_read 21 = .ok (.getfield 76, 3) := by decide +kernel
theorem dX11_read_24 : decode cX11_read 24 = .ok (.getfield 432, 3) := by decide +kernel
theorem dX11_read_27 : decode cX11_read 27 = .ok (.isub, 1) := by decide +kernel
theorem dX11_read_28 : decode cX11_read 28 = .ok (.ireturn, 1) := by decide +kernel
theorem dX11_read_29 : decode cX11_read 29 = .ok (.aload_n 0, 1) := by decide +kernel
theorem dX11_read_30 : decode cX11_read 30 = .ok (.getfield 30, 3) := by decide +kernel
theorem dX11_read_33 : decode cX11_read 33 = .ok (.aload_n 0, 1) := by decide +kernel
theorem dX11_read_34 : decode cX11_read 34 = .ok (.getfield 76, 3) := by decide +kernel
theorem dX11_read_37 : decode cX11_read 37 = .ok (.getfield 435, 3) := by decide +kernel
theorem dX11_read_40 : decode cX11_read 40 = .ok (.invokevirtual 438, 3) := by decide +kernel
theorem dX11_read_43 : decode cX11_read 43 = .ok (.aload_n 0, 1) := by decide +kernel
theorem dX11_read_44 : decode cX11_read 44 = .ok (.getfield 34, 3) := by decide +kernel
theorem dX11_read_47 : decode cX11_read 47 = .ok (.invokevirtual 97, 3) := by decide +kernel
theorem dX11_read_50 : decode cX11_read 50 = .ok (.iload_n 1, 1) := by decide +kernel
theorem dX11_read_51 : decode cX11_read 51 = .ok (.ireturn, 1) := by decide +kernel
theorem dX11_fault_0 : decode cX11_fault 0 = .ok (.aload_n 0, 1) := by decide +kernel
theorem dX11_fault_1 : decode cX11_fault 1 = .ok (.getfield 76, 3) := by decide +kernel
theorem dX11_fault_4 : decode cX11_fault 4 = .ok (.getfield 442, 3) := by decide +kernel
theorem dX11_fault_7 : decode cX11_fault 7 = .ok (.ireturn, 1) := by decide +kernel
theorem dX11_rule_0 : decode cX11_rule 0 = .ok (.iload_n 1, 1) := by decide +kernel
theorem dX11_rule_1 : decode cX11_rule 1 = .ok (.iconst 0, 1) := by decide +kernel
theorem dX11_rule_2 : decode cX11_rule 2 = .ok (.bipush 24, 2) := by decide +kernel
theorem dX11_rule_4 : decode cX11_rule 4 = .ok (.invokestatic 86, 3) := by decide +kernel
theorem dX11_rule_7 : decode cX11_rule 7 = .ok (.ifCond .eq 9, 3) := by decide +kernel
theorem dX11_rule_10 : decode cX11_rule 10 = .ok (.sipush (-1002), 3) := by decide +kernel
theorem dX11_rule_13 : decode cX11_rule 13 = .ok (.goto 12, 3) := by decide +kernel
theorem dX11_rule_16 : decode cX11_rule 16 = .ok (.aload_n 0, 1) := by decide +kernel
theorem dX11_rule_17 : decode cX11_rule 17 = .ok (.getfield 30, 3) := by decide +kernel
theorem dX11_rule_20 : decode cX11_rule 20 = .ok (.getfield 445, 3) := by decide +kernel
theorem dX11_rule_23 : decode cX11_rule 23 = .ok (.iload_n 1, 1) := by decide +kernel
theorem dX11_rule_24 : decode cX11_rule 24 = .ok (.iaload, 1) := by decide +kernel
theorem dX11_rule_25 : decode cX11_rule 25 = .ok (.ireturn, 1) := by decide +kernel
theorem dX11_beyond_0 : decode cX11_beyond 0 = .ok (.iload_n 0, 1) := by decide +kernel
theorem dX11_beyond_1 : decode cX11_beyond 1 = .ok (.iload_n 1, 1) := by decide +kernel
theorem dX11_beyond_2 : decode cX11_beyond 2 = .ok (.if_icmp .lt 8, 3) := by decide +kernel
theorem dX11_beyond_5 : decode cX11_beyond 5 = .ok (.iload_n 0, 1) := by decide +kernel
theorem dX11_beyond_6 : decode cX11_beyond 6 = .ok (.iload_n 2, 1) := by decide +kernel
theorem dX11_beyond_7 : decode cX11_beyond 7 = .ok (.if_icmp .le 7, 3) := by decide +kernel
theorem dX11_beyond_10 : decode cX11_beyond 10 = .ok (.iconst 1, 1) := by decide +kernel
theorem dX11_beyond_11 : decode cX11_beyond 11 = .ok (.goto 4, 3) := by decide +kernel
theorem dX11_beyond_14 : decode cX11_beyond 14 = .ok (.iconst 0, 1) := by decide +kernel
theorem dX11_beyond_15 : decode cX11_beyond 15 = .ok (.ireturn, 1) := by decide +kernel
theorem dX11_sumOf_0 : decode cX11_sumOf 0 = .ok (.iconst 0, 1) := by decide +kernel
theorem dX11_sumOf_1 : decode cX11_sumOf 1 = .ok (.istore_n 1, 1) := by decide +kernel
theorem dX11_sumOf_2 : decode cX11_sumOf 2 = .ok (.aload_n 0, 1) := by decide +kernel
theorem dX11_sumOf_3 : decode cX11_sumOf 3 = .ok (.astore_n 2, 1) := by decide +kernel
theorem dX11_sumOf_4 : decode cX11_sumOf 4 = .ok (.aload_n 2, 1) := by decide +kernel
theorem dX11_sumOf_5 : decode cX11_sumOf 5 = .ok (.arraylength, 1) := by decide +kernel
theorem dX11_sumOf_6 : decode cX11_sumOf 6 = .ok (.istore_n 3, 1) := by decide +kernel
theorem dX11_sumOf_7 : decode cX11_sumOf 7 = .ok (.iconst 0, 1) := by decide +kernel
theorem dX11_sumOf_8 : decode cX11_sumOf 8 = .ok (.istore 4, 2) := by decide +kernel
theorem dX11_sumOf_10 : decode cX11_sumOf 10 = .ok (.iload 4, 2) := by decide +kernel
theorem dX11_sumOf_12 : decode cX11_sumOf 12 = .ok (.iload_n 3, 1) := by decide +kernel
theorem dX11_sumOf_13 : decode cX11_sumOf 13 = .ok (.if_icmp .ge 20, 3) := by decide +kernel
theorem dX11_sumOf_16 : decode cX11_sumOf 16 = .ok (.aload_n 2, 1) := by decide +kernel
theorem dX11_sumOf_17 : decode cX11_sumOf 17 = .ok (.iload 4, 2) := by decide +kernel
theorem dX11_sumOf_19 : decode cX11_sumOf 19 = .ok (.iaload, 1) := by decide +kernel
theorem dX11_sumOf_20 : decode cX11_sumOf 20 = .ok (.istore 5, 2) := by decide +kernel
theorem dX11_sumOf_22 : decode cX11_sumOf 22 = .ok (.iload_n 1, 1) := by decide +kernel
theorem dX11_sumOf_23 : decode cX11_sumOf 23 = .ok (.iload 5, 2) := by decide +kernel
theorem dX11_sumOf_25 : decode cX11_sumOf 25 = .ok (.iadd, 1) := by decide +kernel
theorem dX11_sumOf_26 : decode cX11_sumOf 26 = .ok (.istore_n 1, 1) := by decide +kernel
theorem dX11_sumOf_27 : decode cX11_sumOf 27 = .ok (.iinc 4 1, 3) := by decide +kernel
theorem dX11_sumOf_30 : decode cX11_sumOf 30 = .ok (.goto (-20), 3) := by decide +kernel
theorem dX11_sumOf_33 : decode cX11_sumOf 33 = .ok (.iload_n 1, 1) := by decide +kernel
theorem dX11_sumOf_34 : decode cX11_sumOf 34 = .ok (.ireturn, 1) := by decide +kernel
theorem dX11_leastTerms_0 : decode cX11_leastTerms 0 = .ok (.lload_n 2, 1) := by decide +kernel
theorem dX11_leastTerms_1 : decode cX11_leastTerms 1 = .ok (.lstore 5, 2) := by decide +kernel
theorem dX11_leastTerms_3 : decode cX11_leastTerms 3 = .ok (.lload_n 0, 1) := by decide +kernel
theorem dX11_leastTerms_4 : decode cX11_leastTerms 4 = .ok (.lstore 7, 2) := by decide +kernel
theorem dX11_leastTerms_6 : decode cX11_leastTerms 6 = .ok (.iconst 0, 1) := by decide +kernel
theorem dX11_leastTerms_7 : decode cX11_leastTerms 7 = .ok (.istore 9, 2) := by decide +kernel
theorem dX11_leastTerms_9 : decode cX11_leastTerms 9 = .ok (.iload 9, 2) := by decide +kernel
theorem dX11_leastTerms_11 : decode cX11_leastTerms 11 = .ok (.sipush 200, 3) := by decide +kernel
theorem dX11_leastTerms_14 : decode cX11_leastTerms 14 = .ok (.if_icmp .ge 31, 3) := by decide +kernel
theorem dX11_leastTerms_17 : decode cX11_leastTerms 17 = .ok (.lload 7, 2) := by decide +kernel
theorem dX11_leastTerms_19 : decode cX11_leastTerms 19 = .ok (.lconst 0, 1) := by decide +kernel
theorem dX11_leastTerms_20 : decode cX11_leastTerms 20 = .ok (.lcmp, 1) := by decide +kernel
theorem dX11_leastTerms_21 : decode cX11_leastTerms 21 = .ok (.ifCond .eq 24, 3) := by decide +kernel
theorem dX11_leastTerms_24 : decode cX11_leastTerms 24 = .ok (.lload 5, 2) := by decide +kernel
theorem dX11_leastTerms_26 : decode cX11_leastTerms 26 = .ok (.lload 7, 2) := by decide +kernel
theorem dX11_leastTerms_28 : decode cX11_leastTerms 28 = .ok (.lrem, 1) := by decide +kernel
theorem dX11_leastTerms_29 : decode cX11_leastTerms 29 = .ok (.lstore 10, 2) := by decide +kernel
theorem dX11_leastTerms_31 : decode cX11_leastTerms 31 = .ok (.lload 7, 2) := by decide +kernel
theorem dX11_leastTerms_33 : decode cX11_leastTerms 33 = .ok (.lstore 5, 2) := by decide +kernel
theorem dX11_leastTerms_35 : decode cX11_leastTerms 35 = .ok (.lload 10, 2) := by decide +kernel
theorem dX11_leastTerms_37 : decode cX11_leastTerms 37 = .ok (.lstore 7, 2) := by decide +kernel
theorem dX11_leastTerms_39 : decode cX11_leastTerms 39 = .ok (.iinc 9 1, 3) := by decide +kernel
theorem dX11_leastTerms_42 : decode cX11_leastTerms 42 = .ok (.goto (-33), 3) := by decide +kernel
theorem dX11_leastTerms_45 : decode cX11_leastTerms 45 = .ok (.lload 5, 2) := by decide +kernel
theorem dX11_leastTerms_47 : decode cX11_leastTerms 47 = .ok (.lconst 0, 1) := by decide +kernel
theorem dX11_leastTerms_48 : decode cX11_leastTerms 48 = .ok (.lcmp, 1) := by decide +kernel
theorem dX11_leastTerms_49 : decode cX11_leastTerms 49 = .ok (.ifCond .ne 5, 3) := by decide +kernel
theorem dX11_leastTerms_52 : decode cX11_leastTerms 52 = .ok (.lconst 0, 1) := by decide +kernel
theorem dX11_leastTerms_53 : decode cX11_leastTerms 53 = .ok (.lreturn, 1) := by decide +kernel
theorem dX11_leastTerms_54 : decode cX11_leastTerms 54 = .ok (.iload 4, 2) := by decide +kernel
theorem dX11_leastTerms_56 : decode cX11_leastTerms 56 = .ok (.ifCond .ne 7, 3) := by decide +kernel
theorem dX11_leastTerms_59 : decode cX11_leastTerms 59 = .ok (.lload_n 0, 1) := by decide +kernel
theorem dX11_leastTerms_60 : decode cX11_leastTerms 60 = .ok (.goto 4, 3) := by decide +kernel
theorem dX11_leastTerms_63 : decode cX11_leastTerms 63 = .ok (.lload_n 2, 1) := by decide +kernel
theorem dX11_leastTerms_64 : decode cX11_leastTerms 64 = .ok (.lload 5, 2) := by decide +kernel
theorem dX11_leastTerms_66 : decode cX11_leastTerms 66 = .ok (.ldiv, 1) := by decide +kernel
theorem dX11_leastTerms_67 : decode cX11_leastTerms 67 = .ok (.lreturn, 1) := by decide +kernel
theorem dX12_init_0 : decode cX12_init 0 = .ok (.aload_n 0, 1) := by decide +kernel
theorem dX12_init_1 : decode cX12_init 1 = .ok (.invokespecial 1, 3) := by decide +kernel
theorem dX12_init_4 : decode cX12_init 4 = .ok (.aload_n 0, 1) := by decide +kernel
theorem dX12_init_5 : decode cX12_init 5 = .ok (.bipush 6, 2) := by decide +kernel
theorem dX12_init_7 : decode cX12_init 7 = .ok (.newarray .int, 2) := by decide +kernel
theorem dX12_init_9 : decode cX12_init 9 = .ok (.putfield 7, 3) := by decide +kernel
theorem dX12_init_12 : decode cX12_init 12 = .ok (.aload_n 0, 1) := by decide +kernel
theorem dX12_init_13 : decode cX12_init 13 = .ok (.bipush 6, 2) := by decide +kernel
theorem dX12_init_15 : decode cX12_init 15 = .ok (.newarray .int, 2) := by decide +kernel
theorem dX12_init_17 : decode cX12_init 17 = .ok (.putfield 13, 3) := by decide +kernel
theorem dX12_init_20 : decode cX12_init 20 = .ok (.aload_n 0, 1) := by decide +kernel
theorem dX12_init_21 : decode cX12_init 21 = .ok (.bipush 6, 2) := by decide +kernel
theorem dX12_init_23 : decode cX12_init 23 = .ok (.newarray .int, 2) := by decide +kernel
theorem dX12_init_25 : decode cX12_init 25 = .ok (.putfield 16, 3) := by decide +kernel
theorem dX12_init_28 : decode cX12_init 28 = .ok (.aload_n 0, 1) := by decide +kernel
theorem dX12_init_29 : decode cX12_init 29 = .ok (.bipush 36, 2) := by decide +kernel
theorem dX12_init_31 : decode cX12_init 31 = .ok (.newarray .int, 2) := by decide +kernel
theorem dX12_init_33 : decode cX12_init 33 = .ok (.putfield 19, 3) := by decide +kernel
theorem dX12_init_36 : decode cX12_init 36 = .ok (.aload_n 0, 1) := by decide +kernel
theorem dX12_init_37 : decode cX12_init 37 = .ok (.bipush 36, 2) := by decide +kernel
theorem dX12_init_39 : decode cX12_init 39 = .ok (.newarray .int, 2) := by decide +kernel
theorem dX12_init_41 : decode cX12_init 41 = .ok (.putfield 22, 3) := by decide +kernel
theorem dX12_init_44 : decode cX12_init 44 = .ok (.aload_n 0, 1) := by decide +kernel
theorem dX12_init_45 : decode cX12_init 45 = .ok (.bipush 36, 2) := by decide +kernel
theorem dX12_init_47 : decode cX12_init 47 = .ok (.newarray .int, 2) := by decide +kernel
theorem dX12_init_49 : decode cX12_init 49 = .ok (.putfield 25, 3) := by decide +kernel
theorem dX12_init_52 : decode cX12_init 52 = .ok (.aload_n 0, 1) := by decide +kernel
theorem dX12_init_53 : decode cX12_init 53 = .ok (.bipush 108, 2) := by decide +kernel
theorem dX12_init_55 : decode cX12_init 55 = .ok (.newarray .int, 2) := by decide +kernel
theorem dX12_init_57 : decode cX12_init 57 = .ok (.putfield 28, 3) := by decide +kernel
theorem dX12_init_60 : decode cX12_init 60 = .ok (.aload_n 0, 1) := by decide +kernel
theorem dX12_init_61 : decode cX12_init 61 = .ok (.bipush 108, 2) := by decide +kernel
theorem dX12_init_63 : decode cX12_init 63 = .ok (.newarray .int, 2) := by decide +kernel
theorem dX12_init_65 : decode cX12_init 65 = .ok (.putfield 31, 3) := by decide +kernel
theorem dX12_init_68 : decode cX12_init 68 = .ok (.aload_n 0, 1) := by decide +kernel
theorem dX12_init_69 : decode cX12_init 69 = .ok (.bipush 6, 2) := by decide +kernel
theorem dX12_init_71 : decode cX12_init 71 = .ok (.newarray .int, 2) := by decide +kernel
theorem dX12_init_73 : decode cX12_init 73 = .ok (.putfield 34, 3) := by decide +kernel
theorem dX12_init_76 : decode cX12_init 76 = .ok (.aload_n 0, 1) := by decide +kernel
theorem dX12_init_77 : decode cX12_init 77 = .ok (.bipush 6, 2) := by decide +kernel
theorem dX12_init_79 : decode cX12_init 79 = .ok (.newarray .int, 2) := by decide +kernel
theorem dX12_init_81 : decode cX12_init 81 = .ok (.putfield 37, 3) := by decide +kernel
theorem dX12_init_84 : decode cX12_init 84 = .ok (.aload_n 0, 1) := by decide +kernel
theorem dX12_init_85 : decode cX12_init 85 = .ok (.sipush 180, 3) := by decide +kernel
theorem dX12_init_88 : decode cX12_init 88 = .ok (.newarray .int, 2) := by decide +kernel
theorem dX12_init_90 : decode cX12_init 90 = .ok (.putfield 40, 3) := by decide +kernel
theorem dX12_init_93 : decode cX12_init 93 = .ok (.aload_n 0, 1) := by decide +kernel
theorem dX12_init_94 : decode cX12_init 94 = .ok (.bipush 25, 2) := by decide +kernel
theorem dX12_init_96 : decode cX12_init 96 = .ok (.newarray .int, 2) := by decide +kernel
theorem dX12_init_98 : decode cX12_init 98 = .ok (.putfield 43, 3) := by decide +kernel
theorem dX12_init_101 : decode cX12_init 101 = .ok (.aload_n 0, 1) := by decide +kernel
theorem dX12_init_102 : decode cX12_init 102 = .ok (.bipush 25, 2) := by decide +kernel
theorem dX12_init_104 : decode cX12_init 104 = .ok (.newarray .int, 2) := by decide +kernel
theorem dX12_init_106 : decode cX12_init 106 = .ok (.putfield 46, 3) := by decide +kernel
theorem dX12_init_109 : decode cX12_init 109 = .ok (.aload_n 0, 1) := by decide +kernel
theorem dX12_init_110 : decode cX12_init 110 = .ok (.bipush 6, 2) := by decide +kernel
theorem dX12_init_112 : decode cX12_init 112 = .ok (.newarray .boolean, 2) := by decide +kernel
theorem dX12_init_114 : decode cX12_init 114 = .ok (.putfield 49, 3) := by decide +kernel
theorem dX12_init_117 : decode cX12_init 117 = .ok (.aload_n 0, 1) := by decide +kernel
theorem dX12_init_118 : decode cX12_init 118 = .ok (.bipush 6, 2) := by decide +kernel
theorem dX12_init_120 : decode cX12_init 120 = .ok (.newarray .int, 2) := by decide +kernel
theorem dX12_init_122 : decode cX12_init 122 = .ok (.putfield 53, 3) := by decide +kernel
theorem dX12_init_125 : decode cX12_init 125 = .ok (.aload_n 0, 1) := by decide +kernel
theorem dX12_init_126 : decode cX12_init 126 = .ok (.bipush 6, 2) := by decide +kernel
theorem dX12_init_128 : decode cX12_init 128 = .ok (.newarray .int, 2) := by decide +kernel
theorem dX12_init_130 : decode cX12_init 130 = .ok (.putfield 56, 3) := by decide +kernel
theorem dX12_init_133 : decode cX12_init 133 = .ok (.aload_n 0, 1) := by decide +kernel
theorem dX12_init_134 : decode cX12_init 134 = .ok (.bipush 6, 2) := by decide +kernel
theorem dX12_init_136 : decode cX12_init 136 = .ok (.newarray .int, 2) := by decide +kernel
theorem dX12_init_138 : decode cX12_init 138 = .ok (.putfield 59, 3) := by decide +kernel
theorem dX12_init_141 : decode cX12_init 141 = .ok (.aload_n 0, 1) := by decide +kernel
theorem dX12_init_142 : decode cX12_init 142 = .ok (.bipush 6, 2) := by decide +kernel
theorem dX12_init_144 : decode cX12_init 144 = .ok (.newarray .int, 2) := by decide +kernel
theorem dX12_init_146 : decode cX12_init 146 = .ok (.putfield 62, 3) := by decide +kernel
theorem dX12_init_149 : decode cX12_init 149 = .ok (.aload_n 0, 1) := by decide +kernel
theorem dX12_init_150 : decode cX12_init 150 = .ok (.bipush 6, 2) := by decide +kernel
theorem dX12_init_152 : decode cX12_init 152 = .ok (.newarray .int, 2) := by decide +kernel
theorem dX12_init_154 : decode cX12_init 154 = .ok (.putfield 65, 3) := by decide +kernel
theorem dX12_init_157 : decode cX12_init 157 = .ok (.aload_n 0, 1) := by decide +kernel
theorem dX12_init_158 : decode cX12_init 158 = .ok (.bipush 6, 2) := by decide +kernel
theorem dX12_init_160 : decode cX12_init 160 = .ok (.newarray .int, 2) := by decide +kernel
theorem dX12_init_162 : decode cX12_init 162 = .ok (.putfield 68, 3) := by decide +kernel
theorem dX12_init_165 : decode cX12_init 165 = .ok (.aload_n 0, 1) := by decide +kernel
theorem dX12_init_166 : decode cX12_init 166 = .ok (.bipush 6, 2) := by decide +kernel
theorem dX12_init_168 : decode cX12_init 168 = .ok (.newarray .boolean, 2) := by decide +kernel
theorem dX12_init_170 : decode cX12_init 170 = .ok (.putfield 71, 3) := by decide +kernel
theorem dX12_init_173 : decode cX12_init 173 = .ok (.aload_n 0, 1) := by decide +kernel
theorem dX12_init_174 : decode cX12_init 174 = .ok (.bipush 6, 2) := by decide +kernel
theorem dX12_init_176 : decode cX12_init 176 = .ok (.newarray .int, 2) := by decide +kernel
theorem dX12_init_178 : decode cX12_init 178 = .ok (.putfield 74, 3) := by decide +kernel
theorem dX12_init_181 : decode cX12_init 181 = .ok (.aload_n 0, 1) := by decide +kernel
theorem dX12_init_182 : decode cX12_init 182 = .ok (.bipush 16, 2) := by decide +kernel
theorem dX12_init_184 : decode cX12_init 184 = .ok (.newarray .int, 2) := by decide +kernel
theorem dX12_init_186 : decode cX12_init 186 = .ok (.putfield 77, 3) := by decide +kernel
theorem dX12_init_189 : decode cX12_init 189 = .ok (.aload_n 0, 1) := by decide +kernel
theorem dX12_init_190 : decode cX12_init 190 = .ok (.bipush 16, 2) := by decide +kernel
theorem dX12_init_192 : decode cX12_init 192 = .ok (.newarray .int, 2) := by decide +kernel
theorem dX12_init_194 : decode cX12_init 194 = .ok (.putfield 80, 3) := by decide +kernel
theorem dX12_init_197 : decode cX12_init 197 = .ok (.aload_n 0, 1) := by decide +kernel
theorem dX12_init_198 : decode cX12_init 198 = .ok (.bipush 16, 2) := by decide +kernel
theorem dX12_init_200 : decode cX12_init 200 = .ok (.newarray .int, 2) := by decide +kernel
theorem dX12_init_202 : decode cX12_init 202 = .ok (.putfield 83, 3) := by decide +kernel
theorem dX12_init_205 : decode cX12_init 205 = .ok (.aload_n 0, 1) := by decide +kernel
theorem dX12_init_206 : decode cX12_init 206 = .ok (.bipush 16, 2) := by decide +kernel
theorem dX12_init_208 : decode cX12_init 208 = .ok (.newarray .int, 2) := by decide +kernel
theorem dX12_init_210 : decode cX12_init 210 = .ok (.putfield 86, 3) := by decide +kernel
theorem dX12_init_213 : decode cX12_init 213 = .ok (.aload_n 0, 1) := by decide +kernel
theorem dX12_init_214 : decode cX12_init 214 = .ok (.bipush 16, 2) := by decide +kernel
theorem dX12_init_216 : decode cX12_init 216 = .ok (.newarray .int, 2) := by decide +kernel
theorem dX12_init_218 : decode cX12_init 218 = .ok (.putfield 89, 3) := by decide +kernel
theorem dX12_init_221 : decode cX12_init 221 = .ok (.aload_n 0, 1) := by decide +kernel
theorem dX12_init_222 : decode cX12_init 222 = .ok (.bipush 16, 2) := by decide +kernel
theorem dX12_init_224 : decode cX12_init 224 = .ok (.newarray .boolean, 2) := by decide +kernel
theorem dX12_init_226 : decode cX12_init 226 = .ok (.putfield 92, 3) := by decide +kernel
theorem dX12_init_229 : decode cX12_init 229 = .ok (.aload_n 0, 1) := by decide +kernel
theorem dX12_init_230 : decode cX12_init 230 = .ok (.bipush 6, 2) := by decide +kernel
theorem dX12_init_232 : decode cX12_init 232 = .ok (.newarray .int, 2) := by decide +kernel
theorem dX12_init_234 : decode cX12_init 234 = .ok (.putfield 95, 3) := by decide +kernel
theorem dX12_init_237 : decode cX12_init 237 = .ok (.aload_n 0, 1) := by decide +kernel
theorem dX12_init_238 : decode cX12_init 238 = .ok (.sipush 4374, 3) := by decide +kernel
theorem dX12_init_241 : decode cX12_init 241 = .ok (.newarray .boolean, 2) := by decide +kernel
theorem dX12_init_243 : decode cX12_init 243 = .ok (.putfield 98, 3) := by decide +kernel
theorem dX12_init_246 : decode cX12_init 246 = .ok (.aload_n 0, 1) := by decide +kernel
theorem dX12_init_247 : decode cX12_init 247 = .ok (.bipush 8, 2) := by decide +kernel
theorem dX12_init_249 : decode cX12_init 249 = .ok (.newarray .int, 2) := by decide +kernel
theorem dX12_init_251 : decode cX12_init 251 = .ok (.putfield 101, 3) := by decide +kernel
theorem dX12_init_254 : decode cX12_init 254 = .ok (.aload_n 0, 1) := by decide +kernel
theorem dX12_init_255 : decode cX12_init 255 = .ok (.bipush 8, 2) := by decide +kernel
theorem dX12_init_257 : decode cX12_init 257 = .ok (.newarray .int, 2) := by decide +kernel
theorem dX12_init_259 : decode cX12_init 259 = .ok (.putfield 104, 3) := by decide +kernel
theorem dX12_init_262 : decode cX12_init 262 = .ok (.aload_n 0, 1) := by decide +kernel
theorem dX12_init_263 : decode cX12_init 263 = .ok (.bipush 8, 2) := by decide +kernel
theorem dX12_init_265 : decode cX12_init 265 = .ok (.newarray .int, 2) := by decide +kernel
theorem dX12_init_267 : decode cX12_init 267 = .ok (.putfield 107, 3) := by decide +kernel
theorem dX12_init_270 : decode cX12_init 270 = .ok (.aload_n 0, 1) := by decide +kernel
theorem dX12_init_271 : decode cX12_init 271 = .ok (.bipush 8, 2) := by decide +kernel
theorem dX12_init_273 : decode cX12_init 273 = .ok (.newarray .int, 2) := by decide +kernel
theorem dX12_init_275 : decode cX12_init 275 = .ok (.putfield 110, 3) := by decide +kernel
theorem dX12_init_278 : decode cX12_init 278 = .ok (.aload_n 0, 1) := by decide +kernel
theorem dX12_init_279 : decode cX12_init 279 = .ok (.bipush 8, 2) := by decide +kernel
theorem dX12_init_281 : decode cX12_init 281 = .ok (.newarray .int, 2) := by decide +kernel
theorem dX12_init_283 : decode cX12_init 283 = .ok (.putfield 113, 3) := by decide +kernel
theorem dX12_init_286 : decode cX12_init 286 = .ok (.aload_n 0, 1) := by decide +kernel
theorem dX12_init_287 : decode cX12_init 287 = .ok (.bipush 8, 2) := by decide +kernel
theorem dX12_init_289 : decode cX12_init 289 = .ok (.newarray .int, 2) := by decide +kernel
theorem dX12_init_291 : decode cX12_init 291 = .ok (.putfield 116, 3) := by decide +kernel
theorem dX12_init_294 : decode cX12_init 294 = .ok (.aload_n 0, 1) := by decide +kernel
theorem dX12_init_295 : decode cX12_init 295 = .ok (.bipush 8, 2) := by decide +kernel
theorem dX12_init_297 : decode cX12_init 297 = .ok (.newarray .int, 2) := by decide +kernel
theorem dX12_init_299 : decode cX12_init 299 = .ok (.putfield 119, 3) := by decide +kernel
theorem dX12_init_302 : decode cX12_init 302 = .ok (.aload_n 0, 1) := by decide +kernel
theorem dX12_init_303 : decode cX12_init 303 = .ok (.bipush 6, 2) := by decide +kernel
theorem dX12_init_305 : decode cX12_init 305 = .ok (.newarray .int, 2) := by decide +kernel
theorem dX12_init_307 : decode cX12_init 307 = .ok (.putfield 122, 3) := by decide +kernel
theorem dX12_init_310 : decode cX12_init 310 = .ok (.aload_n 0, 1) := by decide +kernel
theorem dX12_init_311 : decode cX12_init 311 = .ok (.bipush 6, 2) := by decide +kernel
theorem dX12_init_313 : decode cX12_init 313 = .ok (.newarray .int, 2) := by decide +kernel
theorem dX12_init_315 : decode cX12_init 315 = .ok (.putfield 125, 3) := by decide +kernel
theorem dX12_init_318 : decode cX12_init 318 = .ok (.aload_n 0, 1) := by decide +kernel
theorem dX12_init_319 : decode cX12_init 319 = .ok (.bipush 6, 2) := by decide +kernel
theorem dX12_init_321 : decode cX12_init 321 = .ok (.newarray .int, 2) := by decide +kernel
theorem dX12_init_323 : decode cX12_init 323 = .ok (.putfield 128, 3) := by decide +kernel
theorem dX12_init_326 : decode cX12_init 326 = .ok (.aload_n 0, 1) := by decide +kernel
theorem dX12_init_327 : decode cX12_init 327 = .ok (.bipush 6, 2) := by decide +kernel
theorem dX12_init_329 : decode cX12_init 329 = .ok (.newarray .int, 2) := by decide +kernel
theorem dX12_init_331 : decode cX12_init 331 = .ok (.putfield 131, 3) := by decide +kernel
theorem dX12_init_334 : decode cX12_init 334 = .ok (.aload_n 0, 1) := by decide +kernel
theorem dX12_init_335 : decode cX12_init 335 = .ok (.bipush 6, 2) := by decide +kernel
theorem dX12_init_337 : decode cX12_init 337 = .ok (.newarray .int, 2) := by decide +kernel
theorem dX12_init_339 : decode cX12_init 339 = .ok (.putfield 134, 3) := by decide +kernel
theorem dX12_init_342 : decode cX12_init 342 = .ok (.aload_n 0, 1) := by decide +kernel
theorem dX12_init_343 : decode cX12_init 343 = .ok (.bipush 6, 2) := by decide +kernel
theorem dX12_init_345 : decode cX12_init 345 = .ok (.newarray .int, 2) := by decide +kernel
theorem dX12_init_347 : decode cX12_init 347 = .ok (.putfield 137, 3) := by decide +kernel
theorem dX12_init_350 : decode cX12_init 350 = .ok (.aload_n 0, 1) := by decide +kernel
theorem dX12_init_351 : decode cX12_init 351 = .ok (.sipush 384, 3) := by decide +kernel
theorem dX12_init_354 : decode cX12_init 354 = .ok (.newarray .int, 2) := by decide +kernel
theorem dX12_init_356 : decode cX12_init 356 = .ok (.putfield 140, 3) := by decide +kernel
theorem dX12_init_359 : decode cX12_init 359 = .ok (.aload_n 0, 1) := by decide +kernel
theorem dX12_init_360 : decode cX12_init 360 = .ok (.bipush 8, 2) := by decide +kernel
theorem dX12_init_362 : decode cX12_init 362 = .ok (.newarray .long, 2) := by decide +kernel
theorem dX12_init_364 : decode cX12_init 364 = .ok (.putfield 143, 3) := by decide +kernel
theorem dX12_init_367 : decode cX12_init 367 = .ok (.aload_n 0, 1) := by decide +kernel
theorem dX12_init_368 : decode cX12_init 368 = .ok (.sipush 200, 3) := by decide +kernel
theorem dX12_init_371 : decode cX12_init 371 = .ok (.newarray .int, 2) := by decide +kernel
theorem dX12_init_373 : decode cX12_init 373 = .ok (.putfield 147, 3) := by decide +kernel
theorem dX12_init_376 : decode cX12_init 376 = .ok (.aload_n 0, 1) := by decide +kernel
theorem dX12_init_377 : decode cX12_init 377 = .ok (.iconst (-1), 1) := by decide +kernel
theorem dX12_init_378 : decode cX12_init 378 = .ok (.putfield 150, 3) := by decide +kernel
theorem dX12_init_381 : decode cX12_init 381 = .ok (.iconst 0, 1) := by decide +kernel
theorem dX12_init_382 : decode cX12_init 382 = .ok (.istore_n 1, 1) := by decide +kernel
theorem dX12_init_383 : decode cX12_init 383 = .ok (.iload_n 1, 1) := by decide +kernel
theorem dX12_init_384 : decode cX12_init 384 = .ok (.bipush 6, 2) := by decide +kernel
theorem dX12_init_386 : decode cX12_init 386 = .ok (.if_icmp .ge 18, 3) := by decide +kernel
theorem dX12_init_389 : decode cX12_init 389 = .ok (.aload_n 0, 1) := by decide +kernel
theorem dX12_init_390 : decode cX12_init 390 = .ok (.getfield 7, 3) := by decide +kernel
theorem dX12_init_393 : decode cX12_init 393 = .ok (.iload_n 1, 1) := by decide +kernel
theorem dX12_init_394 : decode cX12_init 394 = .ok (.sipush 500, 3) := by decide +kernel
theorem dX12_init_397 : decode cX12_init 397 = .ok (.iastore, 1) := by decide +kernel
theorem dX12_init_398 : decode cX12_init 398 = .ok (.iinc 1 1, 3) := by decide +kernel
theorem dX12_init_401 : decode cX12_init 401 = .ok (.goto (-18), 3) := by decide +kernel
theorem dX12_init_404 : decode cX12_init 404 = .ok (.aload_n 0, 1) := by decide +kernel
theorem dX12_init_405 : decode cX12_init 405 = .ok (.invokevirtual 154, 3) := by decide +kernel
theorem dX12_init_408 : decode cX12_init 408 = .ok (.aload_n 0, 1) := by decide +kernel
theorem dX12_init_409 : decode cX12_init 409 = .ok (.invokevirtual 157, 3) := by decide +kernel
theorem dX12_init_412 : decode cX12_init 412 = .ok (.return_, 1) := by decide +kernel
theorem dX12_first_0 : decode cX12_first 0 = .ok (.iconst 0, 1) := by decide +kernel
theorem dX12_first_1 : decode cX12_first 1 = .ok (.istore_n 1, 1) := by decide +kernel
theorem dX12_first_2 : decode cX12_first 2 = .ok (.iload_n 1, 1) := by decide +kernel
theorem dX12_first_3 : decode cX12_first 3 = .ok (.iconst 4, 1) := by decide +kernel
theorem dX12_first_4 : decode cX12_first 4 = .ok (.if_icmp .ge 67, 3) := by decide +kernel
theorem dX12_first_7 : decode cX12_first 7 = .ok (.aload_n 0, 1) := by decide +kernel
theorem dX12_first_8 : decode cX12_first 8 = .ok (.getfield 46, 3) := by decide +kernel
theorem dX12_first_11 : decode cX12_first 11 = .ok (.iconst 5, 1) := by decide +kernel
theorem dX12_first_12 : decode cX12_first 12 = .ok (.iload_n 1, 1) := by decide +kernel
theorem dX12_first_13 : decode cX12_first 13 = .ok (.imul, 1) := by decide +kernel
theorem dX12_first_14 : decode cX12_first 14 = .ok (.bipush 20, 2) := by decide +kernel
theorem dX12_first_16 : decode cX12_first 16 = .ok (.iastore, 1) := by decide +kernel
theorem dX12_first_17 : decode cX12_first 17 = .ok (.aload_n 0, 1) := by decide +kernel
theorem dX12_first_18 : decode cX12_first 18 = .ok (.getfield 46, 3) := by decide +kernel
theorem dX12_first_21 : decode cX12_first 21 = .ok (.iconst 5, 1) := by decide +kernel
theorem dX12_first_22 : decode cX12_first 22 = .ok (.iload_n 1, 1) := by decide +kernel
theorem dX12_first_23 : decode cX12_first 23 = .ok (.imul, 1) := by decide +kernel
theorem dX12_first_24 : decode cX12_first 24 = .ok (.iconst 1, 1) := by decide +kernel
theorem dX12_first_25 : decode cX12_first 25 = .ok (.iadd, 1) := by decide +kernel
theorem dX12_first_26 : decode cX12_first 26 = .ok (.bipush 50, 2) := by decide +kernel
theorem dX12_first_28 : decode cX12_first 28 = .ok (.iastore, 1) := by decide +kernel
theorem dX12_first_29 : decode cX12_first 29 = .ok (.aload_n 0, 1) := by decide +kernel
theorem dX12_first_30 : decode cX12_first 30 = .ok (.getfield 46, 3) := by decide +kernel
theorem dX12_first_33 : decode cX12_first 33 = .ok (.iconst 5, 1) := by decide +kernel
theorem dX12_first_34 : decode cX12_first 34 = .ok (.iload_n 1, 1) := by decide +kernel
theorem dX12_first_35 : decode cX12_first 35 = .ok (.imul, 1) := by decide +kernel
theorem dX12_first_36 : decode cX12_first 36 = .ok (.iconst 2, 1) := by decide +kernel
theorem dX12_first_37 : decode cX12_first 37 = .ok (.iadd, 1) := by decide +kernel
theorem dX12_first_38 : decode cX12_first 38 = .ok (.bipush 90, 2) := by decide +kernel
theorem dX12_first_40 : decode cX12_first 40 = .ok (.iastore, 1) := by decide +kernel
theorem dX12_first_41 : decode cX12_first 41 = .ok (.aload_n 0, 1) := by decide +kernel
theorem dX12_first_42 : decode cX12_first 42 = .ok (.getfield 46, 3) := by decide +kernel
theorem dX12_first_45 : decode cX12_first 45 = .ok (.iconst 5, 1) := by decide +kernel
theorem dX12_first_46 : decode cX12_first 46 = .ok (.iload_n 1, 1) := by decide +kernel
theorem dX12_first_47 : decode cX12_first 47 = .ok (.imul, 1) := by decide +kernel
theorem dX12_first_48 : decode cX12_first 48 = .ok (.iconst 3, 1) := by decide +kernel
theorem dX12_first_49 : decode cX12_first 49 = .ok (.iadd, 1) := by decide +kernel
theorem dX12_first_50 : decode cX12_first 50 = .ok (.bipush 10, 2) := by decide +kernel
theorem dX12_first_52 : decode cX12_first 52 = .ok (.iastore, 1) := by decide +kernel
theorem dX12_first_53 : decode cX12_first 53 = .ok (.aload_n 0, 1) := by decide +kernel
theorem dX12_first_54 : decode cX12_first 54 = .ok (.getfield 46, 3) := by decide +kernel
theorem dX12_first_57 : decode cX12_first 57 = .ok (.iconst 5, 1) := by decide +kernel
theorem dX12_first_58 : decode cX12_first 58 = .ok (.iload_n 1, 1) := by decide +kernel
theorem dX12_first_59 : decode cX12_first 59 = .ok (.imul, 1) := by decide +kernel
theorem dX12_first_60 : decode cX12_first 60 = .ok (.iconst 4, 1) := by decide +kernel
theorem dX12_first_61 : decode cX12_first 61 = .ok (.iadd, 1) := by decide +kernel
theorem dX12_first_62 : decode cX12_first 62 = .ok (.bipush 60, 2) := by decide +kernel
theorem dX12_first_64 : decode cX12_first 64 = .ok (.iastore, 1) := by decide +kernel
theorem dX12_first_65 : decode cX12_first 65 = .ok (.iinc 1 1, 3) := by decide +kernel
theorem dX12_first_68 : decode cX12_first 68 = .ok (.goto (-66), 3) := by decide +kernel
theorem dX12_first_71 : decode cX12_first 71 = .ok (.aload_n 0, 1) := by decide +kernel
theorem dX12_first_72 : decode cX12_first 72 = .ok (.getfield 46, 3) := by decide +kernel
theorem dX12_first_75 : decode cX12_first 75 = .ok (.bipush 20, 2) := by decide +kernel
theorem dX12_first_77 : decode cX12_first 77 = .ok (.bipush 18, 2) := by decide +kernel
theorem dX12_first_79 : decode cX12_first 79 = .ok (.iastore, 1) := by decide +kernel
theorem dX12_first_80 : decode cX12_first 80 = .ok (.aload_n 0, 1) := by decide +kernel
theorem dX12_first_81 : decode cX12_first 81 = .ok (.getfield 46, 3) := by decide +kernel
theorem dX12_first_84 : decode cX12_first 84 = .ok (.bipush 21, 2) := by decide +kernel
theorem dX12_first_86 : decode cX12_first 86 = .ok (.bipush 9, 2) := by decide +kernel
theorem dX12_first_88 : decode cX12_first 88 = .ok (.iastore, 1) := by decide +kernel
theorem dX12_first_89 : decode cX12_first 89 = .ok (.aload_n 0, 1) := by decide +kernel
theorem dX12_first_90 : decode cX12_first 90 = .ok (.getfield 46, 3) := by decide +kernel
theorem dX12_first_93 : decode cX12_first 93 = .ok (.bipush 22, 2) := by decide +kernel
theorem dX12_first_95 : decode cX12_first 95 = .ok (.bipush 40, 2) := by decide +kernel
theorem dX12_first_97 : decode cX12_first 97 = .ok (.iastore, 1) := by decide +kernel
theorem dX12_first_98 : decode cX12_first 98 = .ok (.aload_n 0, 1) := by decide +kernel
theorem dX12_first_99 : decode cX12_first 99 = .ok (.getfield 46, 3) := by decide +kernel
theorem dX12_first_102 : decode cX12_first 102 = .ok (.bipush 23, 2) := by decide +kernel
theorem dX12_first_104 : decode cX12_first 104 = .ok (.iconst 5, 1) := by decide +kernel
theorem dX12_first_105 : decode cX12_first 105 = .ok (.iastore, 1) := by decide +kernel
theorem dX12_first_106 : decode cX12_first 106 = .ok (.aload_n 0, 1) := by decide +kernel
theorem dX12_first_107 : decode cX12_first 107 = .ok (.getfield 46, 3) := by decide +kernel
theorem dX12_first_110 : decode cX12_first 110 = .ok (.bipush 24, 2) := by decide +kernel
theorem dX12_first_112 : decode cX12_first 112 = .ok (.iconst 0, 1) := by decide +kernel
theorem dX12_first_113 : decode cX12_first 113 = .ok (.iastore, 1) := by decide +kernel
theorem dX12_first_114 : decode cX12_first 114 = .ok (.return_, 1) := by decide +kernel
theorem dX12_keep_0 : decode cX12_keep 0 = .ok (.iconst 0, 1) := by decide +kernel
theorem dX12_keep_1 : decode cX12_keep 1 = .ok (.istore_n 1, 1) := by decide +kernel
theorem dX12_keep_2 : decode cX12_keep 2 = .ok (.iload_n 1, 1) := by decide +kernel
theorem dX12_keep_3 : decode cX12_keep 3 = .ok (.bipush 25, 2) := by decide +kernel
theorem dX12_keep_5 : decode cX12_keep 5 = .ok (.if_icmp .ge 21, 3) := by decide +kernel
theorem dX12_keep_8 : decode cX12_keep 8 = .ok (.aload_n 0, 1) := by decide +kernel
theorem dX12_keep_9 : decode cX12_keep 9 = .ok (.getfield 43, 3) := by decide +kernel
theorem dX12_keep_12 : decode cX12_keep 12 = .ok (.iload_n 1, 1) := by decide +kernel
theorem dX12_keep_13 : decode cX12_keep 13 = .ok (.aload_n 0, 1) := by decide +kernel
theorem dX12_keep_14 : decode cX12_keep 14 = .ok (.getfield 46, 3) := by decide +kernel
theorem dX12_keep_17 : decode cX12_keep 17 = .ok (.iload_n 1, 1) := by decide +kernel
theorem dX12_keep_18 : decode cX12_keep 18 = .ok (.iaload, 1) := by decide +kernel
theorem dX12_keep_19 : decode cX12_keep 19 = .ok (.iastore, 1) := by decide +kernel
theorem dX12_keep_20 : decode cX12_keep 20 = .ok (.iinc 1 1, 3) := by decide +kernel
theorem dX12_keep_23 : decode cX12_keep 23 = .ok (.goto (-21), 3) := by decide +kernel
theorem dX12_keep_26 : decode cX12_keep 26 = .ok (.aload_n 0, 1) := by decide +kernel
theorem dX12_keep_27 : decode cX12_keep 27 = .ok (.invokevirtual 160, 3) := by decide +kernel
theorem dX12_keep_30 : decode cX12_keep 30 = .ok (.return_, 1) := by decide +kernel
theorem dX12_change_0 : decode cX12_change 0 = .ok (.iconst 0, 1) := by decide +kernel
theorem dX12_change_1 : decode cX12_change 1 = .ok (.istore_n 1, 1) := by decide +kernel
theorem dX12_change_2 : decode cX12_change 2 = .ok (.iload_n 1, 1) := by decide +kernel
theorem dX12_change_3 : decode cX12_change 3 = .ok (.bipush 6, 2) := by decide +kernel
theorem dX12_change_5 : decode cX12_change 5 = .ok (.if_icmp .ge 16, 3) := by decide +kernel
theorem dX12_change_8 : decode cX12_change 8 = .ok (.aload_n 0, 1) := by decide +kernel
theorem dX12_change_9 : decode cX12_change 9 = .ok (.getfield 49, 3) := by decide +kernel
theorem dX12_change_12 : decode cX12_change 12 = .ok (.iload_n 1, 1) := by decide +kernel
theorem dX12_change_13 : decode cX12_change 13 = .ok (.iconst 0, 1) := by decide +kernel
theorem dX12_change_14 : decode cX12_change 14 = .ok (.bastore, 1) := by decide +kernel
theorem dX12_change_15 : decode cX12_change 15 = .ok (.iinc 1 1, 3) := by decide +kernel
theorem dX12_change_18 : decode cX12_change 18 = .ok (.goto (-16), 3) := by decide +kernel
theorem dX12_change_21 : decode cX12_change 21 = .ok (.return_, 1) := by decide +kernel
theorem dX12_in_0 : decode cX12_in 0 = .ok (.lload_n 0, 1) := by decide +kernel
theorem dX12_in_1 : decode cX12_in 1 = .ok (.lload_n 2, 1) := by decide +kernel
theorem dX12_in_2 : decode cX12_in 2 = .ok (.lcmp, 1) := by decide +kernel
theorem dX12_in_3 : decode cX12_in 3 = .ok (.ifCond .lt 14, 3) := by decide +kernel
theorem dX12_in_6 : decode cX12_in 6 = .ok (.lload_n 0, 1) := by decide +kernel
theorem dX12_in_7 : decode cX12_in 7 = .ok (.lload 4, 2) := by decide +kernel
theorem dX12_in_9 : decode cX12_in 9 = .ok (.lcmp, 1) := by decide +kernel
theorem dX12_in_10 : decode cX12_in 10 = .ok (.ifCond .gt 7, 3) := by decide +kernel
theorem dX12_in_13 : decode cX12_in 13 = .ok (.iconst 1, 1) := by decide +kernel
theorem dX12_in_14 : decode cX12_in 14 = .ok (.goto 4, 3) := by decide +kernel
theorem dX12_in_17 : decode cX12_in 17 = .ok (.iconst 0, 1) := by decide +kernel
theorem dX12_in_18 : decode cX12_in 18 = .ok (.ireturn, 1) := by decide +kernel
theorem dX12_gcd_0 : decode cX12_gcd 0 = .ok (.lload_n 0, 1) := by decide +kernel
theorem dX12_gcd_1 : decode cX12_gcd 1 = .ok (.lstore 4, 2) := by decide +kernel
theorem dX12_gcd_3 : decode cX12_gcd 3 = .ok (.lload_n 2, 1) := by decide +kernel
theorem dX12_gcd_4 : decode cX12_gcd 4 = .ok (.lstore 6, 2) := by decide +kernel
theorem dX12_gcd_6 : decode cX12_gcd 6 = .ok (.lload 6, 2) := by decide +kernel
theorem dX12_gcd_8 : decode cX12_gcd 8 = .ok (.lconst 0, 1) := by decide +kernel
theorem dX12_gcd_9 : decode cX12_gcd 9 = .ok (.lcmp, 1) := by decide +kernel
theorem dX12_gcd_10 : decode cX12_gcd 10 = .ok (.ifCond .eq 21, 3) := by decide +kernel
theorem dX12_gcd_13 : decode cX12_gcd 13 = .ok (.lload 4, 2) := by decide +kernel
theorem dX12_gcd_15 : decode cX12_gcd 15 = .ok (.lload 6, 2) := by decide +kernel
theorem dX12_gcd_17 : decode cX12_gcd 17 = .ok (.lrem, 1) := by decide +kernel
theorem dX12_gcd_18 : decode cX12_gcd 18 = .ok (.lstore 8, 2) := by decide +kernel
theorem dX12_gcd_20 : decode cX12_gcd 20 = .ok (.lload 6, 2) := by decide +kernel
theorem dX12_gcd_22 : decode cX12_gcd 22 = .ok (.lstore 4, 2) := by decide +kernel
theorem dX12_gcd_24 : decode cX12_gcd 24 = .ok (.lload 8, 2) := by decide +kernel
theorem dX12_gcd_26 : decode cX12_gcd 26 = .ok (.lstore 6, 2) := by decide +kernel
theorem dX12_gcd_28 : decode cX12_gcd 28 = .ok (.goto (-22), 3) := by decide +kernel
theorem dX12_gcd_31 : decode cX12_gcd 31 = .ok (.lload 4, 2) := by decide +kernel
theorem dX12_gcd_33 : decode cX12_gcd 33 = .ok (.lreturn, 1) := by decide +kernel
theorem dX12_isColumn_0 : decode cX12_isColumn 0 = .ok (.iload_n 0, 1) := by decide +kernel
theorem dX12_isColumn_1 : decode cX12_isColumn 1 = .ok (.i2l, 1) := by decide +kernel
theorem dX12_isColumn_2 : decode cX12_isColumn 2 = .ok (.lconst 0, 1) := by decide +kernel
theorem dX12_isColumn_3 : decode cX12_isColumn 3 = .ok (.ldc2_w 163, 3) := by decide +kernel
theorem dX12_isColumn_6 : decode cX12_isColumn 6 = .ok (.invokestatic 165, 3) := by decide +kernel
theorem dX12_isColumn_9 : decode cX12_isColumn 9 = .ok (.ireturn, 1) := by decide +kernel
theorem dX12_isLayer_0 : decode cX12_isLayer 0 = .ok (.iload_n 1, 1) := by decide +kernel
theorem dX12_isLayer_1 : decode cX12_isLayer 1 = .ok (.invokestatic 169, 3) := by decide +kernel
theorem dX12_isLayer_4 : decode cX12_isLayer 4 = .ok (.ifCond .eq 25, 3) := by decide +kernel
theorem dX12_isLayer_7 : decode cX12_isLayer 7 = .ok (.iload_n 2, 1) := by decide +kernel
theorem dX12_isLayer_8 : decode cX12_isLayer 8 = .ok (.i2l, 1) := by decide +kernel
theorem dX12_isLayer_9 : decode cX12_isLayer 9 = .ok (.lconst 0, 1) := by decide +kernel
theorem dX12_isLayer_10 : decode cX12_isLayer 10 = .ok (.aload_n 0, 1) := by decide +kernel
theorem dX12_isLayer_11 : decode cX12_isLayer 11 = .ok (.getfield 16, 3) := by decide +kernel
theorem dX12_isLayer_14 : decode cX12_isLayer 14 = .ok (.iload_n 1, 1) := by decide +kernel
theorem dX12_isLayer_15 : decode cX12_isLayer 15 = .ok (.iaload, 1) := by decide +kernel
theorem dX12_isLayer_16 : decode cX12_isLayer 16 = .ok (.iconst 1, 1) := by decide +kernel
theorem dX12_isLayer_17 : decode cX12_isLayer 17 = .ok (.isub, 1) := by decide +kernel
theorem dX12_isLayer_18 : decode cX12_isLayer 18 = .ok (.i2l, 1) := by decide +kernel
theorem dX12_isLayer_19 : decode cX12_isLayer 19 = .ok (.invokestatic 165, 3) := by decide +kernel
theorem dX12_isLayer_22 : decode cX12_isLayer 22 = .ok (.ifCond .eq 7, 3) := by decide +kernel
theorem dX12_isLayer_25 : decode cX12_isLayer 25 = .ok (.iconst 1, 1) := by decide +kernel
theorem dX12_isLayer_26 : decode cX12_isLayer 26 = .ok (.goto 4, 3) := by decide +kernel
theorem dX12_isLayer_29 : decode cX12_isLayer 29 = .ok (.iconst 0, 1) := by decide +kernel
theorem dX12_isLayer_30 : decode cX12_isLayer 30 = .ok (.ireturn, 1) := by decide +kernel
theorem dX12_isShake_0 : decode cX12_isShake 0 = .ok (.iload_n 1, 1) := by decide +kernel
theorem dX12_isShake_1 : decode cX12_isShake 1 = .ok (.i2l, 1) := by decide +kernel
theorem dX12_isShake_2 : decode cX12_isShake 2 = .ok (.lconst 0, 1) := by decide +kernel
theorem dX12_isShake_3 : decode cX12_isShake 3 = .ok (.aload_n 0, 1) := by decide +kernel
theorem dX12_isShake_4 : decode cX12_isShake 4 = .ok (.getfield 173, 3) := by decide +kernel
theorem dX12_isShake_7 : decode cX12_isShake 7 = .ok (.iconst 1, 1) := by decide +kernel
theorem dX12_isShake_8 : decode cX12_isShake 8 = .ok (.isub, 1) := by decide +kernel
theorem dX12_isShake_9 : decode cX12_isShake 9 = .ok (.i2l, 1) := by decide +kernel
theorem dX12_isShake_10 : decode cX12_isShake 10 = .ok (.invokestatic 165, 3) := by decide +kernel
theorem dX12_isShake_13 : decode cX12_isShake 13 = .ok (.ireturn, 1) := by decide +kernel
theorem dX12_column_0 : decode cX12_column 0 = .ok (.iload_n 1, 1) := by decide +kernel
theorem dX12_column_1 : decode cX12_column 1 = .ok (.invokestatic 169, 3) := by decide +kernel
theorem dX12_column_4 : decode cX12_column 4 = .ok (.ifCond .ne 7, 3) := by decide +kernel
theorem dX12_column_7 : decode cX12_column 7 = .ok (.sipush (-1001), 3) := by decide +kernel
theorem dX12_column_10 : decode cX12_column 10 = .ok (.ireturn, 1) := by decide +kernel
theorem dX12_column_11 : decode cX12_column 11 = .ok (.iload_n 2, 1) := by decide +kernel
theorem dX12_column_12 : decode cX12_column 12 = .ok (.i2l, 1) := by decide +kernel
theorem dX12_column_13 : decode cX12_column 13 = .ok (.lconst 0, 1) := by decide +kernel
theorem dX12_column_14 : decode cX12_column 14 = .ok (.lconst 1, 1) := by decide +kernel
theorem dX12_column_15 : decode cX12_column 15 = .ok (.invokestatic 165, 3) := by decide +kernel
theorem dX12_column_18 : decode cX12_column 18 = .ok (.ifCond .eq 25, 3) := by decide +kernel
theorem dX12_column_21 : decode cX12_column 21 = .ok (.iload_n 3, 1) := by decide +kernel
theorem dX12_column_22 : decode cX12_column 22 = .ok (.i2l, 1) := by decide +kernel
theorem dX12_column_23 : decode cX12_column 23 = .ok (.lconst 0, 1) := by decide +kernel
theorem dX12_column_24 : decode cX12_column 24 = .ok (.iload_n 2, 1) := by decide +kernel
theorem dX12_column_25 : decode cX12_column 25 = .ok (.ifCond .ne 9, 3) := by decide +kernel
theorem dX12_column_28 : decode cX12_column 28 = .ok (.ldc2_w 176, 3) := by decide +kernel
theorem dX12_column_31 : decode cX12_column 31 = .ok (.goto 6, 3) := by decide +kernel
theorem dX12_column_34 : decode cX12_column 34 = .ok (.ldc2_w 178, 3) := by decide +kernel
theorem dX12_column_37 : decode cX12_column 37 = .ok (.invokestatic 165, 3) := by decide +kernel
theorem dX12_column_40 : decode cX12_column 40 = .ok (.ifCond .ne 7, 3) := by decide +kernel
theorem dX12_column_43 : decode cX12_column 43 = .ok (.sipush (-1002), 3) := by decide +kernel
theorem dX12_column_46 : decode cX12_column 46 = .ok (.ireturn, 1) := by decide +kernel
theorem dX12_column_47 : decode cX12_column 47 = .ok (.aload_n 0, 1) := by decide +kernel
theorem dX12_column_48 : decode cX12_column 48 = .ok (.invokevirtual 160, 3) := by decide +kernel
theorem dX12_column_51 : decode cX12_column 51 = .ok (.iload_n 2, 1) := by decide +kernel
theorem dX12_column_52 : decode cX12_column 52 = .ok (.ifCond .ne 12, 3) := by decide +kernel
theorem dX12_column_55 : decode cX12_column 55 = .ok (.aload_n 0, 1) := by decide +kernel
theorem dX12_column_56 : decode cX12_column 56 = .ok (.getfield 7, 3) := by decide +kernel
theorem dX12_column_59 : decode cX12_column 59 = .ok (.iload_n 1, 1) := by decide +kernel
theorem dX12_column_60 : decode cX12_column 60 = .ok (.iaload, 1) := by decide +kernel
theorem dX12_column_61 : decode cX12_column 61 = .ok (.goto 9, 3) := by decide +kernel
theorem dX12_column_64 : decode cX12_column 64 = .ok (.aload_n 0, 1) := by decide +kernel
theorem dX12_column_65 : decode cX12_column 65 = .ok (.getfield 13, 3) := by decide +kernel
theorem dX12_column_68 : decode cX12_column 68 = .ok (.iload_n 1, 1) := by decide +kernel
theorem dX12_column_69 : decode cX12_column 69 = .ok (.iaload, 1) := by decide +kernel
theorem dX12_column_70 : decode cX12_column 70 = .ok (.istore 4, 2) := by decide +kernel
theorem dX12_column_72 : decode cX12_column 72 = .ok (.iload_n 2, 1) := by decide +kernel
theorem dX12_column_73 : decode cX12_column 73 = .ok (.ifCond .ne 13, 3) := by decide +kernel
theorem dX12_column_76 : decode cX12_column 76 = .ok (.aload_n 0, 1) := by decide +kernel
theorem dX12_column_77 : decode cX12_column 77 = .ok (.getfield 7, 3) := by decide +kernel
theorem dX12_column_80 : decode cX12_column 80 = .ok (.iload_n 1, 1) := by decide +kernel
theorem dX12_column_81 : decode cX12_column 81 = .ok (.iload_n 3, 1) := by decide +kernel
theorem dX12_column_82 : decode cX12_column 82 = .ok (.iastore, 1) := by decide +kernel
theorem dX12_column_83 : decode cX12_column 83 = .ok (.goto 10, 3) := by decide +kernel
theorem dX12_column_86 : decode cX12_column 86 = .ok (.aload_n 0, 1) := by decide +kernel
theorem dX12_column_87 : decode cX12_column 87 = .ok (.getfield 13, 3) := by decide +kernel
theorem dX12_column_90 : decode cX12_column 90 = .ok (.iload_n 1, 1) := by decide +kernel
theorem dX12_column_91 : decode cX12_column 91 = .ok (.iload_n 3, 1) := by decide +kernel
theorem dX12_column_92 : decode cX12_column 92 = .ok (.iastore, 1) := by decide +kernel
theorem dX12_column_93 : decode cX12_column 93 = .ok (.iload 4, 2) := by decide +kernel
theorem dX12_column_95 : decode cX12_column 95 = .ok (.ireturn, 1) := by decide +kernel
theorem dX12_layer_0 : decode cX12_layer 0 = .ok (.iload_n 1, 1) := by decide +kernel
theorem dX12_layer_1 : decode cX12_layer 1 = .ok (.invokestatic 169, 3) := by decide +kernel
theorem dX12_layer_4 : decode cX12_layer 4 = .ok (.ifCond .ne 7, 3) := by decide +kernel
theorem dX12_layer_7 : decode cX12_layer 7 = .ok (.sipush (-1001), 3) := by decide +kernel
theorem dX12_layer_10 : decode cX12_layer 10 = .ok (.ireturn, 1) := by decide +kernel
theorem dX12_layer_11 : decode cX12_layer 11 = .ok (.iload_n 2, 1) := by decide +kernel
theorem dX12_layer_12 : decode cX12_layer 12 = .ok (.i2l, 1) := by decide +kernel
theorem dX12_layer_13 : decode cX12_layer 13 = .ok (.lconst 0, 1) := by decide +kernel
theorem dX12_layer_14 : decode cX12_layer 14 = .ok (.ldc2_w 180, 3) := by decide +kernel
theorem dX12_layer_17 : decode cX12_layer 17 = .ok (.invokestatic 165, 3) := by decide +kernel
theorem dX12_layer_20 : decode cX12_layer 20 = .ok (.ifCond .eq 28, 3) := by decide +kernel
theorem dX12_layer_23 : decode cX12_layer 23 = .ok (.iload_n 3, 1) := by decide +kernel
theorem dX12_layer_24 : decode cX12_layer 24 = .ok (.i2l, 1) := by decide +kernel
theorem dX12_layer_25 : decode cX12_layer 25 = .ok (.lconst 1, 1) := by decide +kernel
theorem dX12_layer_26 : decode cX12_layer 26 = .ok (.ldc2_w 182, 3) := by decide +kernel
theorem dX12_layer_29 : decode cX12_layer 29 = .ok (.invokestatic 165, 3) := by decide +kernel
theorem dX12_layer_32 : decode cX12_layer 32 = .ok (.ifCond .eq 16, 3) := by decide +kernel
theorem dX12_layer_35 : decode cX12_layer 35 = .ok (.iload 4, 2) := by decide +kernel
theorem dX12_layer_37 : decode cX12_layer 37 = .ok (.i2l, 1) := by decide +kernel
theorem dX12_layer_38 : decode cX12_layer 38 = .ok (.lconst 0, 1) := by decide +kernel
theorem dX12_layer_39 : decode cX12_layer 39 = .ok (.ldc2_w 184, 3) := by decide +kernel
theorem dX12_layer_42 : decode cX12_layer 42 = .ok (.invokestatic 165, 3) := by decide +kernel
theorem dX12_layer_45 : decode cX12_layer 45 = .ok (.ifCond .ne 7, 3) := by decide +kernel
theorem dX12_layer_48 : decode cX12_layer 48 = .ok (.sipush (-1002), 3) := by decide +kernel
theorem dX12_layer_51 : decode cX12_layer 51 = .ok (.ireturn, 1) := by decide +kernel
theorem dX12_layer_52 : decode cX12_layer 52 = .ok (.aload_n 0, 1) := by decide +kernel
theorem dX12_layer_53 : decode cX12_layer 53 = .ok (.getfield 16, 3) := by decide +kernel
theorem dX12_layer_56 : decode cX12_layer 56 = .ok (.iload_n 1, 1) := by decide +kernel
theorem dX12_layer_57 : decode cX12_layer 57 = .ok (.iaload, 1) := by decide +kernel
theorem dX12_layer_58 : decode cX12_layer 58 = .ok (.bipush 6, 2) := by decide +kernel
theorem dX12_layer_60 : decode cX12_layer 60 = .ok (.if_icmp .ne 7, 3) := by decide +kernel
theorem dX12_layer_63 : decode cX12_layer 63 = .ok (.sipush (-1004), 3) := by decide +kernel
theorem dX12_layer_66 : decode cX12_layer 66 = .ok (.ireturn, 1) := by decide +kernel
theorem dX12_layer_67 : decode cX12_layer 67 = .ok (.bipush 6, 2) := by decide +kernel
theorem dX12_layer_69 : decode cX12_layer 69 = .ok (.iload_n 1, 1) := by decide +kernel
theorem dX12_layer_70 : decode cX12_layer 70 = .ok (.imul, 1) := by decide +kernel
theorem dX12_layer_71 : decode cX12_layer 71 = .ok (.aload_n 0, 1) := by decide +kernel
theorem dX12_layer_72 : decode cX12_layer 72 = .ok (.getfield 16, 3) := by decide +kernel
theorem dX12_layer_75 : decode cX12_layer 75 = .ok (.iload_n 1, 1) := by decide +kernel
theorem dX12_layer_76 : decode cX12_layer 76 = .ok (.iaload, 1) := by decide +kernel
theorem dX12_layer_77 : decode cX12_layer 77 = .ok (.iadd, 1) := by decide +kernel
theorem dX12_layer_78 : decode cX12_layer 78 = .ok (.istore 5, 2) := by decide +kernel
theorem dX12_layer_80 : decode cX12_layer 80 = .ok (.aload_n 0, 1) := by decide +kernel
theorem dX12_layer_81 : decode cX12_layer 81 = .ok (.getfield 19, 3) := by decide +kernel
theorem dX12_layer_84 : decode cX12_layer 84 = .ok (.iload 5, 2) := by decide +kernel
theorem dX12_layer_86 : decode cX12_layer 86 = .ok (.iload_n 2, 1) := by decide +kernel
theorem dX12_layer_87 : decode cX12_layer 87 = .ok (.iastore, 1) := by decide +kernel
theorem dX12_layer_88 : decode cX12_layer 88 = .ok (.aload_n 0, 1) := by decide +kernel
theorem dX12_layer_89 : decode cX12_layer 89 = .ok (.getfield 22, 3) := by decide +kernel
theorem dX12_layer_92 : decode cX12_layer 92 = .ok (.iload 5, 2) := by decide +kernel
theorem dX12_layer_94 : decode cX12_layer 94 = .ok (.iload_n 3, 1) := by decide +kernel
theorem dX12_layer_95 : decode cX12_layer 95 = .ok (.iastore, 1) := by decide +kernel
theorem dX12_layer_96 : decode cX12_layer 96 = .ok (.aload_n 0, 1) := by decide +kernel
theorem dX12_layer_97 : decode cX12_layer 97 = .ok (.getfield 25, 3) := by decide +kernel
theorem dX12_layer_100 : decode cX12_layer 100 = .ok (.iload 5, 2) := by decide +kernel
theorem dX12_layer_102 : decode cX12_layer 102 = .ok (.iconst 1, 1) := by decide +kernel
theorem dX12_layer_103 : decode cX12_layer 103 = .ok (.iastore, 1) := by decide +kernel
theorem dX12_layer_104 : decode cX12_layer 104 = .ok (.aload_n 0, 1) := by decide +kernel
theorem dX12_layer_105 : decode cX12_layer 105 = .ok (.getfield 28, 3) := by decide +kernel
theorem dX12_layer_108 : decode cX12_layer 108 = .ok (.iconst 3, 1) := by decide +kernel
theorem dX12_layer_109 : decode cX12_layer 109 = .ok (.iload 5, 2) := by decide +kernel
theorem dX12_layer_111 : decode cX12_layer 111 = .ok (.imul, 1) := by decide +kernel
theorem dX12_layer_112 : decode cX12_layer 112 = .ok (.iload 4, 2) := by decide +kernel
theorem dX12_layer_114 : decode cX12_layer 114 = .ok (.iastore, 1) := by decide +kernel
theorem dX12_layer_115 : decode cX12_layer 115 = .ok (.aload_n 0, 1) := by decide +kernel
theorem dX12_layer_116 : decode cX12_layer 116 = .ok (.getfield 31, 3) := by decide +kernel
theorem dX12_layer_119 : decode cX12_layer 119 = .ok (.iconst 3, 1) := by decide +kernel
theorem dX12_layer_120 : decode cX12_layer 120 = .ok (.iload 5, 2) := by decide +kernel
theorem dX12_layer_122 : decode cX12_layer 122 = .ok (.imul, 1) := by decide +kernel
theorem dX12_layer_123 : decode cX12_layer 123 = .ok (.iconst 1, 1) := by decide +kernel
theorem dX12_layer_124 : decode cX12_layer 124 = .ok (.iastore, 1) := by decide +kernel
theorem dX12_layer_125 : decode cX12_layer 125 = .ok (.aload_n 0, 1) := by decide +kernel
theorem dX12_layer_126 : decode cX12_layer 126 = .ok (.getfield 16, 3) := by decide +kernel
theorem dX12_layer_129 : decode cX12_layer 129 = .ok (.iload_n 1, 1) := by decide +kernel
theorem dX12_layer_130 : decode cX12_layer 130 = .ok (.dup2, 1) := by decide +kernel
theorem dX12_layer_131 : decode cX12_layer 131 = .ok (.iaload, 1) := by decide +kernel
theorem dX12_layer_132 : decode cX12_layer 132 = .ok (.iconst 1, 1) := by decide +kernel
theorem dX12_layer_133 : decode cX12_layer 133 = .ok (.iadd, 1) := by decide +kernel
theorem dX12_layer_134 : decode cX12_layer 134 = .ok (.iastore, 1) := by decide +kernel
theorem dX12_layer_135 : decode cX12_layer 135 = .ok (.aload_n 0, 1) := by decide +kernel
theorem dX12_layer_136 : decode cX12_layer 136 = .ok (.invokevirtual 160, 3) := by decide +kernel
theorem dX12_layer_139 : decode cX12_layer 139 = .ok (.aload_n 0, 1) := by decide +kernel
theorem dX12_layer_140 : decode cX12_layer 140 = .ok (.getfield 16, 3) := by decide +kernel
theorem dX12_layer_143 : decode cX12_layer 143 = .ok (.iload_n 1, 1) := by decide +kernel
theorem dX12_layer_144 : decode cX12_layer 144 = .ok (.iaload, 1) := by decide +kernel
theorem dX12_layer_145 : decode cX12_layer 145 = .ok (.iconst 1, 1) := by decide +kernel
theorem dX12_layer_146 : decode cX12_layer 146 = .ok (.isub, 1) := by decide +kernel
theorem dX12_layer_147 : decode cX12_layer 147 = .ok (.ireturn, 1) := by decide +kernel
theorem dX12_loose_0 : decode cX12_loose 0 = .ok (.aload_n 0, 1) := by decide +kernel
theorem dX12_loose_1 : decode cX12_loose 1 = .ok (.iload_n 1, 1) := by decide +kernel
theorem dX12_loose_2 : decode cX12_loose 2 = .ok (.iload_n 2, 1) := by decide +kernel
theorem dX12_loose_3 : decode cX12_loose 3 = .ok (.invokevirtual 186, 3) := by decide +kernel
theorem dX12_loose_6 : decode cX12_loose 6 = .ok (.ifCond .ne 7, 3) := by decide +kernel
theorem dX12_loose_9 : decode cX12_loose 9 = .ok (.sipush (-1001), 3) := by decide +kernel
theorem dX12_loose_12 : decode cX12_loose 12 = .ok (.ireturn, 1) := by decide +kernel
theorem dX12_loose_13 : decode cX12_loose 13 = .ok (.iload_n 3, 1) := by decide +kernel
theorem dX12_loose_14 : decode cX12_loose 14 = .ok (.i2l, 1) := by decide +kernel
theorem dX12_loose_15 : decode cX12_loose 15 = .ok (.lconst 0, 1) := by decide +kernel
theorem dX12_loose_16 : decode cX12_loose 16 = .ok (.ldc2_w 184, 3) := by decide +kernel
theorem dX12_loose_19 : decode cX12_loose 19 = .ok (.invokestatic 165, 3) := by decide +kernel
theorem dX12_loose_22 : decode cX12_loose 22 = .ok (.ifCond .eq 16, 3) := by decide +kernel
theorem dX12_loose_25 : decode cX12_loose 25 = .ok (.iload 4, 2) := by decide +kernel
theorem dX12_loose_27 : decode cX12_loose 27 = .ok (.i2l, 1) := by decide +kernel
theorem dX12_loose_28 : decode cX12_loose 28 = .ok (.lconst 1, 1) := by decide +kernel
theorem dX12_loose_29 : decode cX12_loose 29 = .ok (.ldc2_w 190, 3) := by decide +kernel
theorem dX12_loose_32 : decode cX12_loose 32 = .ok (.invokestatic 165, 3) := by decide +kernel
theorem dX12_loose_35 : decode cX12_loose 35 = .ok (.ifCond .ne 7, 3) := by decide +kernel
theorem dX12_loose_38 : decode cX12_loose 38 = .ok (.sipush (-1002), 3) := by decide +kernel
theorem dX12_loose_41 : decode cX12_loose 41 = .ok (.ireturn, 1) := by decide +kernel
theorem dX12_loose_42 : decode cX12_loose 42 = .ok (.bipush 6, 2) := by decide +kernel
theorem dX12_loose_44 : decode cX12_loose 44 = .ok (.iload_n 1, 1) := by decide +kernel
theorem dX12_loose_45 : decode cX12_loose 45 = .ok (.imul, 1) := by decide +kernel
theorem dX12_loose_46 : decode cX12_loose 46 = .ok (.iload_n 2, 1) := by decide +kernel
theorem dX12_loose_47 : decode cX12_loose 47 = .ok (.iadd, 1) := by decide +kernel
theorem dX12_loose_48 : decode cX12_loose 48 = .ok (.istore 5, 2) := by decide +kernel
theorem dX12_loose_50 : decode cX12_loose 50 = .ok (.iconst 0, 1) := by decide +kernel
theorem dX12_loose_51 : decode cX12_loose 51 = .ok (.istore 6, 2) := by decide +kernel
theorem dX12_loose_53 : decode cX12_loose 53 = .ok (.iload 6, 2) := by decide +kernel
theorem dX12_loose_55 : decode cX12_loose 55 = .ok (.aload_n 0, 1) := by decide +kernel
theorem dX12_loose_56 : decode cX12_loose 56 = .ok (.getfield 25, 3) := by decide +kernel
theorem dX12_loose_59 : decode cX12_loose 59 = .ok (.iload 5, 2) := by decide +kernel
theorem dX12_loose_61 : decode cX12_loose 61 = .ok (.iaload, 1) := by decide +kernel
theorem dX12_loose_62 : decode cX12_loose 62 = .ok (.if_icmp .ge 29, 3) := by decide +kernel
theorem dX12_loose_65 : decode cX12_loose 65 = .ok (.aload_n 0, 1) := by decide +kernel
theorem dX12_loose_66 : decode cX12_loose 66 = .ok (.getfield 28, 3) := by decide +kernel
theorem dX12_loose_69 : decode cX12_loose 69 = .ok (.iconst 3, 1) := by decide +kernel
theorem dX12_loose_70 : decode cX12_loose 70 = .ok (.iload 5, 2) := by decide +kernel
theorem dX12_loose_72 : decode cX12_loose 72 = .ok (.imul, 1) := by decide +kernel
theorem dX12_loose_73 : decode cX12_loose 73 = .ok (.iload 6, 2) := by decide +kernel
theorem dX12_loose_75 : decode cX12_loose 75 = .ok (.iadd, 1) := by decide +kernel
theorem dX12_loose_76 : decode cX12_loose 76 = .ok (.iaload, 1) := by decide +kernel
theorem dX12_loose_77 : decode cX12_loose 77 = .ok (.iload_n 3, 1) := by decide +kernel
theorem dX12_loose_78 : decode cX12_loose 78 = .ok (.if_icmp .ne 7, 3) := by decide +kernel
theorem dX12_loose_81 : decode cX12_loose 81 = .ok (.sipush (-1003), 3) := by decide +kernel
theorem dX12_loose_84 : decode cX12_loose 84 = .ok (.ireturn, 1) := by decide +kernel
theorem dX12_loose_85 : decode cX12_loose 85 = .ok (.iinc 6 1, 3) := by decide +kernel
theorem dX12_loose_88 : decode cX12_loose 88 = .ok (.goto (-35), 3) := by decide +kernel
theorem dX12_loose_91 : decode cX12_loose 91 = .ok (.aload_n 0, 1) := by decide +kernel
theorem dX12_loose_92 : decode cX12_loose 92 = .ok (.getfield 25, 3) := by decide +kernel
theorem dX12_loose_95 : decode cX12_loose 95 = .ok (.iload 5, 2) := by decide +kernel
theorem dX12_loose_97 : decode cX12_loose 97 = .ok (.iaload, 1) := by decide +kernel
theorem dX12_loose_98 : decode cX12_loose 98 = .ok (.iconst 3, 1) := by decide +kernel
theorem dX12_loose_99 : decode cX12_loose 99 = .ok (.if_icmp .ne 7, 3) := by decide +kernel
theorem dX12_loose_102 : decode cX12_loose 102 = .ok (.sipush (-1004), 3) := by decide +kernel
theorem dX12_loose_105 : decode cX12_loose 105 = .ok (.ireturn, 1) := by decide +kernel
theorem dX12_loose_106 : decode cX12_loose 106 = .ok (.aload_n 0, 1) := by decide +kernel
theorem dX12_loose_107 : decode cX12_loose 107 = .ok (.getfield 28, 3) := by decide +kernel
theorem dX12_loose_110 : decode cX12_loose 110 = .ok (.iconst 3, 1) := by decide +kernel
theorem dX12_loose_111 : decode cX12_loose 111 = .ok (.iload 5, 2) := by decide +kernel
theorem dX12_loose_113 : decode cX12_loose 113 = .ok (.imul, 1) := by decide +kernel
theorem dX12_loose_114 : decode cX12_loose 114 = .ok (.aload_n 0, 1) := by decide +kernel
theorem dX12_loose_115 : decode cX12_loose 115 = .ok (.getfield 25, 3) := by decide +kernel
theorem dX12_loose_118 : decode cX12_loose 118 = .ok (.iload 5, 2) := by decide +kernel
theorem dX12_loose_120 : decode cX12_loose 120 = .ok (.iaload, 1) := by decide +kernel
theorem dX12_loose_121 : decode cX12_loose 121 = .ok (.iadd, 1) := by decide +kernel
theorem dX12_loose_122 : decode cX12_loose 122 = .ok (.iload_n 3, 1) := by decide +kernel
theorem dX12_loose_123 : decode cX12_loose 123 = .ok (.iastore, 1) := by decide +kernel
theorem dX12_loose_124 : decode cX12_loose 124 = .ok (.aload_n 0, 1) := by decide +kernel
theorem dX12_loose_125 : decode cX12_loose 125 = .ok (.getfield 31, 3) := by decide +kernel
theorem dX12_loose_128 : decode cX12_loose 128 = .ok (.iconst 3, 1) := by decide +kernel
theorem dX12_loose_129 : decode cX12_loose 129 = .ok (.iload 5, 2) := by decide +kernel
theorem dX12_loose_131 : decode cX12_loose 131 = .ok (.imul, 1) := by decide +kernel
theorem dX12_loose_132 : decode cX12_loose 132 = .ok (.aload_n 0, 1) := by decide +kernel
theorem dX12_loose_133 : decode cX12_loose 133 = .ok (.getfield 25, 3) := by decide +kernel
theorem dX12_loose_136 : decode cX12_loose 136 = .ok (.iload 5, 2) := by decide +kernel
theorem dX12_loose_138 : decode cX12_loose 138 = .ok (.iaload, 1) := by decide +kernel
theorem dX12_loose_139 : decode cX12_loose 139 = .ok (.iadd, 1) := by decide +kernel
theorem dX12_loose_140 : decode cX12_loose 140 = .ok (.iload 4, 2) := by decide +kernel
theorem dX12_loose_142 : decode cX12_loose 142 = .ok (.iastore, 1) := by decide +kernel
theorem dX12_loose_143 : decode cX12_loose 143 = .ok (.aload_n 0, 1) := by decide +kernel
theorem dX12_loose_144 : decode cX12_loose 144 = .ok (.getfield 25, 3) := by decide +kernel
theorem dX12_loose_147 : decode cX12_loose 147 = .ok (.iload 5, 2) := by decide +kernel
theorem dX12_loose_149 : decode cX12_loose 149 = .ok (.dup2, 1) := by decide +kernel
theorem dX12_loose_150 : decode cX12_loose 150 = .ok (.iaload, 1) := by decide +kernel
theorem dX12_loose_151 : decode cX12_loose 151 = .ok (.iconst 1, 1) := by decide +kernel
theorem dX12_loose_152 : decode cX12_loose 152 = .ok (.iadd, 1) := by decide +kernel
theorem dX12_loose_153 : decode cX12_loose 153 = .ok (.iastore, 1) := by decide +kernel
theorem dX12_loose_154 : decode cX12_loose 154 = .ok (.aload_n 0, 1) := by decide +kernel
theorem dX12_loose_155 : decode cX12_loose 155 = .ok (.invokevirtual 160, 3) := by decide +kernel
theorem dX12_loose_158 : decode cX12_loose 158 = .ok (.aload_n 0, 1) := by decide +kernel
theorem dX12_loose_159 : decode cX12_loose 159 = .ok (.getfield 25, 3) := by decide +kernel
theorem dX12_loose_162 : decode cX12_loose 162 = .ok (.iload 5, 2) := by decide +kernel
theorem dX12_loose_164 : decode cX12_loose 164 = .ok (.iaload, 1) := by decide +kernel
theorem dX12_loose_165 : decode cX12_loose 165 = .ok (.ireturn, 1) := by decide +kernel
theorem dX12_depth_0 : decode cX12_depth 0 = .ok (.iconst 0, 1) := by decide +kernel
theorem dX12_depth_1 : decode cX12_depth 1 = .ok (.istore_n 3, 1) := by decide +kernel
theorem dX12_depth_2 : decode cX12_depth 2 = .ok (.iconst 0, 1) := by decide +kernel
theorem dX12_depth_3 : decode cX12_depth 3 = .ok (.istore 4, 2) := by decide +kernel
theorem dX12_depth_5 : decode cX12_depth 5 = .ok (.iload 4, 2) := by decide +kernel
theorem dX12_depth_7 : decode cX12_depth 7 = .ok (.iload_n 2, 1) := by decide +kernel
theorem dX12_depth_8 : decode cX12_depth 8 = .ok (.if_icmp .ge 24, 3) := by decide +kernel
theorem dX12_depth_11 : decode cX12_depth 11 = .ok (.iload_n 3, 1) := by decide +kernel
theorem dX12_depth_12 : decode cX12_depth 12 = .ok (.aload_n 0, 1) := by decide +kernel
theorem dX12_depth_13 : decode cX12_depth 13 = .ok (.getfield 22, 3) := by decide +kernel
theorem dX12_depth_16 : decode cX12_depth 16 = .ok (.bipush 6, 2) := by decide +kernel
theorem dX12_depth_18 : decode cX12_depth 18 = .ok (.iload_n 1, 1) := by decide +kernel
theorem dX12_depth_19 : decode cX12_depth 19 = .ok (.imul, 1) := by decide +kernel
theorem dX12_depth_20 : decode cX12_depth 20 = .ok (.iload 4, 2) := by decide +kernel
theorem dX12_depth_22 : decode cX12_depth 22 = .ok (.iadd, 1) := by decide +kernel
theorem dX12_depth_23 : decode cX12_depth 23 = .ok (.iaload, 1) := by decide +kernel
theorem dX12_depth_24 : decode cX12_depth 24 = .ok (.iadd, 1) := by decide +kernel
theorem dX12_depth_25 : decode cX12_depth 25 = .ok (.istore_n 3, 1) := by decide +kernel
theorem dX12_depth_26 : decode cX12_depth 26 = .ok (.iinc 4 1, 3) := by decide +kernel
theorem dX12_depth_29 : decode cX12_depth 29 = .ok (.goto (-24), 3) := by decide +kernel
theorem dX12_depth_32 : decode cX12_depth 32 = .ok (.iload_n 3, 1) := by decide +kernel
theorem dX12_depth_33 : decode cX12_depth 33 = .ok (.ireturn, 1) := by decide +kernel
theorem dX12_isWet_0 : decode cX12_isWet 0 = .ok (.aload_n 0, 1) := by decide +kernel
theorem dX12_isWet_1 : decode cX12_isWet 1 = .ok (.iload_n 1, 1) := by decide +kernel
theorem dX12_isWet_2 : decode cX12_isWet 2 = .ok (.iload_n 2, 1) := by decide +kernel
theorem dX12_isWet_3 : decode cX12_isWet 3 = .ok (.invokevirtual 192, 3) := by decide +kernel

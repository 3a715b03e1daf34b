theorem dX0_init_0 : decode cX0_init 0 = .ok (.aload_n 0, 1) := by decide +kernel
theorem dX0_init_1 : decode cX0_init 1 = .ok (.invokespecial 3, 3) := by decide +kernel
theorem dX0_init_4 : decode cX0_init 4 = .ok (.aload_n 0, 1) := by decide +kernel
theorem dX0_init_5 : decode cX0_init 5 = .ok (.bipush 6, 2) := by decide +kernel
theorem dX0_init_7 : decode cX0_init 7 = .ok (.newarray .int, 2) := by decide +kernel
theorem dX0_init_9 : decode cX0_init 9 = .ok (.putfield 9, 3) := by decide +kernel
theorem dX0_init_12 : decode cX0_init 12 = .ok (.aload_n 0, 1) := by decide +kernel
theorem dX0_init_13 : decode cX0_init 13 = .ok (.bipush 6, 2) := by decide +kernel
theorem dX0_init_15 : decode cX0_init 15 = .ok (.newarray .int, 2) := by decide +kernel
theorem dX0_init_17 : decode cX0_init 17 = .ok (.putfield 15, 3) := by decide +kernel
theorem dX0_init_20 : decode cX0_init 20 = .ok (.aload_n 0, 1) := by decide +kernel
theorem dX0_init_21 : decode cX0_init 21 = .ok (.bipush 6, 2) := by decide +kernel
theorem dX0_init_23 : decode cX0_init 23 = .ok (.newarray .int, 2) := by decide +kernel
theorem dX0_init_25 : decode cX0_init 25 = .ok (.putfield 18, 3) := by decide +kernel
theorem dX0_init_28 : decode cX0_init 28 = .ok (.aload_n 0, 1) := by decide +kernel
theorem dX0_init_29 : decode cX0_init 29 = .ok (.bipush 36, 2) := by decide +kernel
theorem dX0_init_31 : decode cX0_init 31 = .ok (.newarray .int, 2) := by decide +kernel
theorem dX0_init_33 : decode cX0_init 33 = .ok (.putfield 21, 3) := by decide +kernel
theorem dX0_init_36 : decode cX0_init 36 = .ok (.aload_n 0, 1) := by decide +kernel
theorem dX0_init_37 : decode cX0_init 37 = .ok (.bipush 36, 2) := by decide +kernel
theorem dX0_init_39 : decode cX0_init 39 = .ok (.newarray .int, 2) := by decide +kernel
theorem dX0_init_41 : decode cX0_init 41 = .ok (.putfield 24, 3) := by decide +kernel
theorem dX0_init_44 : decode cX0_init 44 = .ok (.aload_n 0, 1) := by decide +kernel
theorem dX0_init_45 : decode cX0_init 45 = .ok (.bipush 36, 2) := by decide +kernel
theorem dX0_init_47 : decode cX0_init 47 = .ok (.newarray .int, 2) := by decide +kernel
theorem dX0_init_49 : decode cX0_init 49 = .ok (.putfield 27, 3) := by decide +kernel
theorem dX0_init_52 : decode cX0_init 52 = .ok (.aload_n 0, 1) := by decide +kernel
theorem dX0_init_53 : decode cX0_init 53 = .ok (.bipush 108, 2) := by decide +kernel
theorem dX0_init_55 : decode cX0_init 55 = .ok (.newarray .int, 2) := by decide +kernel
theorem dX0_init_57 : decode cX0_init 57 = .ok (.putfield 30, 3) := by decide +kernel
theorem dX0_init_60 : decode cX0_init 60 = .ok (.aload_n 0, 1) := by decide +kernel
theorem dX0_init_61 : decode cX0_init 61 = .ok (.bipush 108, 2) := by decide +kernel
theorem dX0_init_63 : decode cX0_init 63 = .ok (.newarray .int, 2) := by decide +kernel
theorem dX0_init_65 : decode cX0_init 65 = .ok (.putfield 33, 3) := by decide +kernel
theorem dX0_init_68 : decode cX0_init 68 = .ok (.iconst 0, 1) := by decide +kernel
theorem dX0_init_69 : decode cX0_init 69 = .ok (.istore_n 1, 1) := by decide +kernel
theorem dX0_init_70 : decode cX0_init 70 = .ok (.iload_n 1, 1) := by decide +kernel
theorem dX0_init_71 : decode cX0_init 71 = .ok (.bipush 6, 2) := by decide +kernel
theorem dX0_init_73 : decode cX0_init 73 = .ok (.if_icmp .ge 18, 3) := by decide +kernel
theorem dX0_init_76 : decode cX0_init 76 = .ok (.aload_n 0, 1) := by decide +kernel
theorem dX0_init_77 : decode cX0_init 77 = .ok (.getfield 9, 3) := by decide +kernel
theorem dX0_init_80 : decode cX0_init 80 = .ok (.iload_n 1, 1) := by decide +kernel
theorem dX0_init_81 : decode cX0_init 81 = .ok (.sipush 500, 3) := by decide +kernel
theorem dX0_init_84 : decode cX0_init 84 = .ok (.iastore, 1) := by decide +kernel
theorem dX0_init_85 : decode cX0_init 85 = .ok (.iinc 1 1, 3) := by decide +kernel
theorem dX0_init_88 : decode cX0_init 88 = .ok (.goto (-18), 3) := by decide +kernel
theorem dX0_init_91 : decode cX0_init 91 = .ok (.return_, 1) := by decide +kernel
theorem dX0_hasColumn_0 : decode cX0_hasColumn 0 = .ok (.iload_n 1, 1) := by decide +kernel
theorem dX0_hasColumn_1 : decode cX0_hasColumn 1 = .ok (.ifCond .lt 13, 3) := by decide +kernel
theorem dX0_hasColumn_4 : decode cX0_hasColumn 4 = .ok (.iload_n 1, 1) := by decide +kernel
theorem dX0_hasColumn_5 : decode cX0_hasColumn 5 = .ok (.bipush 6, 2) := by decide +kernel
theorem dX0_hasColumn_7 : decode cX0_hasColumn 7 = .ok (.if_icmp .ge 7, 3) := by decide +kernel
theorem dX0_hasColumn_10 : decode cX0_hasColumn 10 = .ok (.iconst 1, 1) := by decide +kernel
theorem dX0_hasColumn_11 : decode cX0_hasColumn 11 = .ok (.goto 4, 3) := by decide +kernel
theorem dX0_hasColumn_14 : decode cX0_hasColumn 14 = .ok (.iconst 0, 1) := by decide +kernel
theorem dX0_hasColumn_15 : decode cX0_hasColumn 15 = .ok (.ireturn, 1) := by decide +kernel
theorem dX0_hasLayer_0 : decode cX0_hasLayer 0 = .ok (.aload_n 0, 1) := by decide +kernel
theorem dX0_hasLayer_1 : decode cX0_hasLayer 1 = .ok (.iload_n 1, 1) := by decide +kernel
theorem dX0_hasLayer_2 : decode cX0_hasLayer 2 = .ok (.invokevirtual 36, 3) := by decide +kernel
theorem dX0_hasLayer_5 : decode cX0_hasLayer 5 = .ok (.ifCond .eq 21, 3) := by decide +kernel
theorem dX0_hasLayer_8 : decode cX0_hasLayer 8 = .ok (.iload_n 2, 1) := by decide +kernel
theorem dX0_hasLayer_9 : decode cX0_hasLayer 9 = .ok (.ifCond .lt 17, 3) := by decide +kernel
theorem dX0_hasLayer_12 : decode cX0_hasLayer 12 = .ok (.iload_n 2, 1) := by decide +kernel
theorem dX0_hasLayer_13 : decode cX0_hasLayer 13 = .ok (.aload_n 0, 1) := by decide +kernel
theorem dX0_hasLayer_14 : decode cX0_hasLayer 14 = .ok (.getfield 18, 3) := by decide +kernel
theorem dX0_hasLayer_17 : decode cX0_hasLayer 17 = .ok (.iload_n 1, 1) := by decide +kernel
theorem dX0_hasLayer_18 : decode cX0_hasLayer 18 = .ok (.iaload, 1) := by decide +kernel
theorem dX0_hasLayer_19 : decode cX0_hasLayer 19 = .ok (.if_icmp .ge 7, 3) := by decide +kernel
theorem dX0_hasLayer_22 : decode cX0_hasLayer 22 = .ok (.iconst 1, 1) := by decide +kernel
theorem dX0_hasLayer_23 : decode cX0_hasLayer 23 = .ok (.goto 4, 3) := by decide +kernel
theorem dX0_hasLayer_26 : decode cX0_hasLayer 26 = .ok (.iconst 0, 1) := by decide +kernel
theorem dX0_hasLayer_27 : decode cX0_hasLayer 27 = .ok (.ireturn, 1) := by decide +kernel
theorem dX0_hasValue_0 : decode cX0_hasValue 0 = .ok (.iload_n 1, 1) := by decide +kernel
theorem dX0_hasValue_1 : decode cX0_hasValue 1 = .ok (.bipush 6, 2) := by decide +kernel
theorem dX0_hasValue_3 : decode cX0_hasValue 3 = .ok (.imul, 1) := by decide +kernel
theorem dX0_hasValue_4 : decode cX0_hasValue 4 = .ok (.iload_n 2, 1) := by decide +kernel
theorem dX0_hasValue_5 : decode cX0_hasValue 5 = .ok (.iadd, 1) := by decide +kernel
theorem dX0_hasValue_6 : decode cX0_hasValue 6 = .ok (.istore 4, 2) := by decide +kernel
theorem dX0_hasValue_8 : decode cX0_hasValue 8 = .ok (.iconst 0, 1) := by decide +kernel
theorem dX0_hasValue_9 : decode cX0_hasValue 9 = .ok (.istore 5, 2) := by decide +kernel
theorem dX0_hasValue_11 : decode cX0_hasValue 11 = .ok (.iload 5, 2) := by decide +kernel
theorem dX0_hasValue_13 : decode cX0_hasValue 13 = .ok (.aload_n 0, 1) := by decide +kernel
theorem dX0_hasValue_14 : decode cX0_hasValue 14 = .ok (.getfield 27, 3) := by decide +kernel
theorem dX0_hasValue_17 : decode cX0_hasValue 17 = .ok (.iload 4, 2) := by decide +kernel
theorem dX0_hasValue_19 : decode cX0_hasValue 19 = .ok (.iaload, 1) := by decide +kernel
theorem dX0_hasValue_20 : decode cX0_hasValue 20 = .ok (.if_icmp .ge 27, 3) := by decide +kernel
theorem dX0_hasValue_23 : decode cX0_hasValue 23 = .ok (.aload_n 0, 1) := by decide +kernel
theorem dX0_hasValue_24 : decode cX0_hasValue 24 = .ok (.getfield 30, 3) := by decide +kernel
theorem dX0_hasValue_27 : decode cX0_hasValue 27 = .ok (.iload 4, 2) := by decide +kernel
theorem dX0_hasValue_29 : decode cX0_hasValue 29 = .ok (.iconst 3, 1) := by decide +kernel
theorem dX0_hasValue_30 : decode cX0_hasValue 30 = .ok (.imul, 1) := by decide +kernel
theorem dX0_hasValue_31 : decode cX0_hasValue 31 = .ok (.iload 5, 2) := by decide +kernel
theorem dX0_hasValue_33 : decode cX0_hasValue 33 = .ok (.iadd, 1) := by decide +kernel
theorem dX0_hasValue_34 : decode cX0_hasValue 34 = .ok (.iaload, 1) := by decide +kernel
theorem dX0_hasValue_35 : decode cX0_hasValue 35 = .ok (.iload_n 3, 1) := by decide +kernel
theorem dX0_hasValue_36 : decode cX0_hasValue 36 = .ok (.if_icmp .ne 5, 3) := by decide +kernel
theorem dX0_hasValue_39 : decode cX0_hasValue 39 = .ok (.iconst 1, 1) := by decide +kernel
theorem dX0_hasValue_40 : decode cX0_hasValue 40 = .ok (.ireturn, 1) := by decide +kernel
theorem dX0_hasValue_41 : decode cX0_hasValue 41 = .ok (.iinc 5 1, 3) := by decide +kernel
theorem dX0_hasValue_44 : decode cX0_hasValue 44 = .ok (.goto (-33), 3) := by decide +kernel
theorem dX0_hasValue_47 : decode cX0_hasValue 47 = .ok (.iconst 0, 1) := by decide +kernel
theorem dX0_hasValue_48 : decode cX0_hasValue 48 = .ok (.ireturn, 1) := by decide +kernel
theorem dX0_addLayer_0 : decode cX0_addLayer 0 = .ok (.aload_n 0, 1) := by decide +kernel
theorem dX0_addLayer_1 : decode cX0_addLayer 1 = .ok (.getfield 18, 3) := by decide +kernel
theorem dX0_addLayer_4 : decode cX0_addLayer 4 = .ok (.iload_n 1, 1) := by decide +kernel
theorem dX0_addLayer_5 : decode cX0_addLayer 5 = .ok (.iaload, 1) := by decide +kernel
theorem dX0_addLayer_6 : decode cX0_addLayer 6 = .ok (.istore 5, 2) := by decide +kernel
theorem dX0_addLayer_8 : decode cX0_addLayer 8 = .ok (.aload_n 0, 1) := by decide +kernel
theorem dX0_addLayer_9 : decode cX0_addLayer 9 = .ok (.getfield 21, 3) := by decide +kernel
theorem dX0_addLayer_12 : decode cX0_addLayer 12 = .ok (.iload_n 1, 1) := by decide +kernel
theorem dX0_addLayer_13 : decode cX0_addLayer 13 = .ok (.bipush 6, 2) := by decide +kernel
theorem dX0_addLayer_15 : decode cX0_addLayer 15 = .ok (.imul, 1) := by decide +kernel
theorem dX0_addLayer_16 : decode cX0_addLayer 16 = .ok (.iload 5, 2) := by decide +kernel
theorem dX0_addLayer_18 : decode cX0_addLayer 18 = .ok (.iadd, 1) := by decide +kernel
theorem dX0_addLayer_19 : decode cX0_addLayer 19 = .ok (.iload_n 2, 1) := by decide +kernel
theorem dX0_addLayer_20 : decode cX0_addLayer 20 = .ok (.iastore, 1) := by decide +kernel
theorem dX0_addLayer_21 : decode cX0_addLayer 21 = .ok (.aload_n 0, 1) := by decide +kernel
theorem dX0_addLayer_22 : decode cX0_addLayer 22 = .ok (.getfield 24, 3) := by decide +kernel
theorem dX0_addLayer_25 : decode cX0_addLayer 25 = .ok (.iload_n 1, 1) := by decide +kernel
theorem dX0_addLayer_26 : decode cX0_addLayer 26 = .ok (.bipush 6, 2) := by decide +kernel
theorem dX0_addLayer_28 : decode cX0_addLayer 28 = .ok (.imul, 1) := by decide +kernel
theorem dX0_addLayer_29 : decode cX0_addLayer 29 = .ok (.iload 5, 2) := by decide +kernel
theorem dX0_addLayer_31 : decode cX0_addLayer 31 = .ok (.iadd, 1) := by decide +kernel
theorem dX0_addLayer_32 : decode cX0_addLayer 32 = .ok (.iload_n 3, 1) := by decide +kernel
theorem dX0_addLayer_33 : decode cX0_addLayer 33 = .ok (.iastore, 1) := by decide +kernel
theorem dX0_addLayer_34 : decode cX0_addLayer 34 = .ok (.aload_n 0, 1) := by decide +kernel
theorem dX0_addLayer_35 : decode cX0_addLayer 35 = .ok (.getfield 18, 3) := by decide +kernel
theorem dX0_addLayer_38 : decode cX0_addLayer 38 = .ok (.iload_n 1, 1) := by decide +kernel
theorem dX0_addLayer_39 : decode cX0_addLayer 39 = .ok (.iload 5, 2) := by decide +kernel
theorem dX0_addLayer_41 : decode cX0_addLayer 41 = .ok (.iconst 1, 1) := by decide +kernel
theorem dX0_addLayer_42 : decode cX0_addLayer 42 = .ok (.iadd, 1) := by decide +kernel
theorem dX0_addLayer_43 : decode cX0_addLayer 43 = .ok (.iastore, 1) := by decide +kernel
theorem dX0_addLayer_44 : decode cX0_addLayer 44 = .ok (.aload_n 0, 1) := by decide +kernel
theorem dX0_addLayer_45 : decode cX0_addLayer 45 = .ok (.iload_n 1, 1) := by decide +kernel
theorem dX0_addLayer_46 : decode cX0_addLayer 46 = .ok (.iload 5, 2) := by decide +kernel
theorem dX0_addLayer_48 : decode cX0_addLayer 48 = .ok (.iload 4, 2) := by decide +kernel
theorem dX0_addLayer_50 : decode cX0_addLayer 50 = .ok (.iconst 1, 1) := by decide +kernel
theorem dX0_addLayer_51 : decode cX0_addLayer 51 = .ok (.invokevirtual 40, 3) := by decide +kernel
theorem dX0_addLayer_54 : decode cX0_addLayer 54 = .ok (.pop, 1) := by decide +kernel
theorem dX0_addLayer_55 : decode cX0_addLayer 55 = .ok (.iload 5, 2) := by decide +kernel
theorem dX0_addLayer_57 : decode cX0_addLayer 57 = .ok (.ireturn, 1) := by decide +kernel
theorem dX0_addValue_0 : decode cX0_addValue 0 = .ok (.iload_n 1, 1) := by decide +kernel
theorem dX0_addValue_1 : decode cX0_addValue 1 = .ok (.bipush 6, 2) := by decide +kernel
theorem dX0_addValue_3 : decode cX0_addValue 3 = .ok (.imul, 1) := by decide +kernel
theorem dX0_addValue_4 : decode cX0_addValue 4 = .ok (.iload_n 2, 1) := by decide +kernel
theorem dX0_addValue_5 : decode cX0_addValue 5 = .ok (.iadd, 1) := by decide +kernel
theorem dX0_addValue_6 : decode cX0_addValue 6 = .ok (.istore 5, 2) := by decide +kernel
theorem dX0_addValue_8 : decode cX0_addValue 8 = .ok (.aload_n 0, 1) := by decide +kernel
theorem dX0_addValue_9 : decode cX0_addValue 9 = .ok (.getfield 27, 3) := by decide +kernel
theorem dX0_addValue_12 : decode cX0_addValue 12 = .ok (.iload 5, 2) := by decide +kernel
theorem dX0_addValue_14 : decode cX0_addValue 14 = .ok (.iaload, 1) := by decide +kernel
theorem dX0_addValue_15 : decode cX0_addValue 15 = .ok (.istore 6, 2) := by decide +kernel
theorem dX0_addValue_17 : decode cX0_addValue 17 = .ok (.aload_n 0, 1) := by decide +kernel
theorem dX0_addValue_18 : decode cX0_addValue 18 = .ok (.getfield 30, 3) := by decide +kernel
theorem dX0_addValue_21 : decode cX0_addValue 21 = .ok (.iload 5, 2) := by decide +kernel
theorem dX0_addValue_23 : decode cX0_addValue 23 = .ok (.iconst 3, 1) := by decide +kernel
theorem dX0_addValue_24 : decode cX0_addValue 24 = .ok (.imul, 1) := by decide +kernel
theorem dX0_addValue_25 : decode cX0_addValue 25 = .ok (.iload 6, 2) := by decide +kernel
theorem dX0_addValue_27 : decode cX0_addValue 27 = .ok (.iadd, 1) := by decide +kernel
theorem dX0_addValue_28 : decode cX0_addValue 28 = .ok (.iload_n 3, 1) := by decide +kernel
theorem dX0_addValue_29 : decode cX0_addValue 29 = .ok (.iastore, 1) := by decide +kernel
theorem dX0_addValue_30 : decode cX0_addValue 30 = .ok (.aload_n 0, 1) := by decide +kernel
theorem dX0_addValue_31 : decode cX0_addValue 31 = .ok (.getfield 33, 3) := by decide +kernel
theorem dX0_addValue_34 : decode cX0_addValue 34 = .ok (.iload 5, 2) := by decide +kernel
theorem dX0_addValue_36 : decode cX0_addValue 36 = .ok (.iconst 3, 1) := by decide +kernel
theorem dX0_addValue_37 : decode cX0_addValue 37 = .ok (.imul, 1) := by decide +kernel
theorem dX0_addValue_38 : decode cX0_addValue 38 = .ok (.iload 6, 2) := by decide +kernel
theorem dX0_addValue_40 : decode cX0_addValue 40 = .ok (.iadd, 1) := by decide +kernel
theorem dX0_addValue_41 : decode cX0_addValue 41 = .ok (.iload 4, 2) := by decide +kernel
theorem dX0_addValue_43 : decode cX0_addValue 43 = .ok (.iastore, 1) := by decide +kernel
theorem dX0_addValue_44 : decode cX0_addValue 44 = .ok (.aload_n 0, 1) := by decide +kernel
theorem dX0_addValue_45 : decode cX0_addValue 45 = .ok (.getfield 27, 3) := by decide +kernel
theorem dX0_addValue_48 : decode cX0_addValue 48 = .ok (.iload 5, 2) := by decide +kernel
theorem dX0_addValue_50 : decode cX0_addValue 50 = .ok (.iload 6, 2) := by decide +kernel
theorem dX0_addValue_52 : decode cX0_addValue 52 = .ok (.iconst 1, 1) := by decide +kernel
theorem dX0_addValue_53 : decode cX0_addValue 53 = .ok (.iadd, 1) := by decide +kernel
theorem dX0_addValue_54 : decode cX0_addValue 54 = .ok (.iastore, 1) := by decide +kernel
theorem dX0_addValue_55 : decode cX0_addValue 55 = .ok (.iload 6, 2) := by decide +kernel
theorem dX0_addValue_57 : decode cX0_addValue 57 = .ok (.iconst 1, 1) := by decide +kernel
theorem dX0_addValue_58 : decode cX0_addValue 58 = .ok (.iadd, 1) := by decide +kernel
theorem dX0_addValue_59 : decode cX0_addValue 59 = .ok (.ireturn, 1) := by decide +kernel
theorem dX0_depthOf_0 : decode cX0_depthOf 0 = .ok (.iconst 0, 1) := by decide +kernel
theorem dX0_depthOf_1 : decode cX0_depthOf 1 = .ok (.istore_n 3, 1) := by decide +kernel
theorem dX0_depthOf_2 : decode cX0_depthOf 2 = .ok (.iconst 0, 1) := by decide +kernel
theorem dX0_depthOf_3 : decode cX0_depthOf 3 = .ok (.istore 4, 2) := by decide +kernel
theorem dX0_depthOf_5 : decode cX0_depthOf 5 = .ok (.iload 4, 2) := by decide +kernel
theorem dX0_depthOf_7 : decode cX0_depthOf 7 = .ok (.iload_n 2, 1) := by decide +kernel
theorem dX0_depthOf_8 : decode cX0_depthOf 8 = .ok (.if_icmp .ge 24, 3) := by decide +kernel
theorem dX0_depthOf_11 : decode cX0_depthOf 11 = .ok (.iload_n 3, 1) := by decide +kernel
theorem dX0_depthOf_12 : decode cX0_depthOf 12 = .ok (.aload_n 0, 1) := by decide +kernel
theorem dX0_depthOf_13 : decode cX0_depthOf 13 = .ok (.getfield 24, 3) := by decide +kernel
theorem dX0_depthOf_16 : decode cX0_depthOf 16 = .ok (.iload_n 1, 1) := by decide +kernel
theorem dX0_depthOf_17 : decode cX0_depthOf 17 = .ok (.bipush 6, 2) := by decide +kernel
theorem dX0_depthOf_19 : decode cX0_depthOf 19 = .ok (.imul, 1) := by decide +kernel
theorem dX0_depthOf_20 : decode cX0_depthOf 20 = .ok (.iload 4, 2) := by decide +kernel
theorem dX0_depthOf_22 : decode cX0_depthOf 22 = .ok (.iadd, 1) := by decide +kernel
theorem dX0_depthOf_23 : decode cX0_depthOf 23 = .ok (.iaload, 1) := by decide +kernel
theorem dX0_depthOf_24 : decode cX0_depthOf 24 = .ok (.iadd, 1) := by decide +kernel
theorem dX0_depthOf_25 : decode cX0_depthOf 25 = .ok (.istore_n 3, 1) := by decide +kernel
theorem dX0_depthOf_26 : decode cX0_depthOf 26 = .ok (.iinc 4 1, 3) := by decide +kernel
theorem dX0_depthOf_29 : decode cX0_depthOf 29 = .ok (.goto (-24), 3) := by decide +kernel
theorem dX0_depthOf_32 : decode cX0_depthOf 32 = .ok (.iload_n 3, 1) := by decide +kernel
theorem dX0_depthOf_33 : decode cX0_depthOf 33 = .ok (.ireturn, 1) := by decide +kernel
theorem dX0_isWet_0 : decode cX0_isWet 0 = .ok (.aload_n 0, 1) := by decide +kernel
theorem dX0_isWet_1 : decode cX0_isWet 1 = .ok (.iload_n 1, 1) := by decide +kernel
theorem dX0_isWet_2 : decode cX0_isWet 2 = .ok (.iload_n 2, 1) := by decide +kernel
theorem dX0_isWet_3 : decode cX0_isWet 3 = .ok (.invokevirtual 44, 3) := by decide +kernel
theorem dX0_isWet_6 : decode cX0_isWet 6 = .ok (.aload_n 0, 1) := by decide +kernel
theorem dX0_isWet_7 : decode cX0_isWet 7 = .ok (.getfield 15, 3) := by decide +kernel
theorem dX0_isWet_10 : decode cX0_isWet 10 = .ok (.iload_n 1, 1) := by decide +kernel
theorem dX0_isWet_11 : decode cX0_isWet 11 = .ok (.iaload, 1) := by decide +kernel
theorem dX0_isWet_12 : decode cX0_isWet 12 = .ok (.if_icmp .lt 7, 3) := by decide +kernel
theorem dX0_isWet_15 : decode cX0_isWet 15 = .ok (.iconst 1, 1) := by decide +kernel
theorem dX0_isWet_16 : decode cX0_isWet 16 = .ok (.goto 4, 3) := by decide +kernel
theorem dX0_isWet_19 : decode cX0_isWet 19 = .ok (.iconst 0, 1) := by decide +kernel
theorem dX0_isWet_20 : decode cX0_isWet 20 = .ok (.ireturn, 1) := by decide +kernel
theorem dX0_holdOf_0 : decode cX0_holdOf 0 = .ok (.iconst 0, 1) := by decide +kernel
theorem dX0_holdOf_1 : decode cX0_holdOf 1 = .ok (.istore 4, 2) := by decide +kernel
theorem dX0_holdOf_3 : decode cX0_holdOf 3 = .ok (.iconst 0, 1) := by decide +kernel
theorem dX0_holdOf_4 : decode cX0_holdOf 4 = .ok (.istore 5, 2) := by decide +kernel
theorem dX0_holdOf_6 : decode cX0_holdOf 6 = .ok (.iconst 0, 1) := by decide +kernel
theorem dX0_holdOf_7 : decode cX0_holdOf 7 = .ok (.istore 6, 2) := by decide +kernel
theorem dX0_holdOf_9 : decode cX0_holdOf 9 = .ok (.iload 6, 2) := by decide +kernel
theorem dX0_holdOf_11 : decode cX0_holdOf 11 = .ok (.iload_n 2, 1) := by decide +kernel
theorem dX0_holdOf_12 : decode cX0_holdOf 12 = .ok (.if_icmp .gt 75, 3) := by decide +kernel
theorem dX0_holdOf_15 : decode cX0_holdOf 15 = .ok (.aload_n 0, 1) := by decide +kernel
theorem dX0_holdOf_16 : decode cX0_holdOf 16 = .ok (.getfield 24, 3) := by decide +kernel
theorem dX0_holdOf_19 : decode cX0_holdOf 19 = .ok (.iload_n 1, 1) := by decide +kernel
theorem dX0_holdOf_20 : decode cX0_holdOf 20 = .ok (.bipush 6, 2) := by decide +kernel
theorem dX0_holdOf_22 : decode cX0_holdOf 22 = .ok (.imul, 1) := by decide +kernel
theorem dX0_holdOf_23 : decode cX0_holdOf 23 = .ok (.iload 6, 2) := by decide +kernel
theorem dX0_holdOf_25 : decode cX0_holdOf 25 = .ok (.iadd, 1) := by decide +kernel
theorem dX0_holdOf_26 : decode cX0_holdOf 26 = .ok (.iaload, 1) := by decide +kernel
theorem dX0_holdOf_27 : decode cX0_holdOf 27 = .ok (.istore 7, 2) := by decide +kernel
theorem dX0_holdOf_29 : decode cX0_holdOf 29 = .ok (.iload 7, 2) := by decide +kernel
theorem dX0_holdOf_31 : decode cX0_holdOf 31 = .ok (.aload_n 3, 1) := by decide +kernel
theorem dX0_holdOf_32 : decode cX0_holdOf 32 = .ok (.iload 4, 2) := by decide +kernel
theorem dX0_holdOf_34 : decode cX0_holdOf 34 = .ok (.aload_n 0, 1) := by decide +kernel
theorem dX0_holdOf_35 : decode cX0_holdOf 35 = .ok (.getfield 15, 3) := by decide +kernel
theorem dX0_holdOf_38 : decode cX0_holdOf 38 = .ok (.iload_n 1, 1) := by decide +kernel
theorem dX0_holdOf_39 : decode cX0_holdOf 39 = .ok (.iaload, 1) := by decide +kernel
theorem dX0_holdOf_40 : decode cX0_holdOf 40 = .ok (.if_icmp .lt 7, 3) := by decide +kernel
theorem dX0_holdOf_43 : decode cX0_holdOf 43 = .ok (.iconst 1, 1) := by decide +kernel
theorem dX0_holdOf_44 : decode cX0_holdOf 44 = .ok (.goto 4, 3) := by decide +kernel
theorem dX0_holdOf_47 : decode cX0_holdOf 47 = .ok (.iconst 0, 1) := by decide +kernel
theorem dX0_holdOf_48 : decode cX0_holdOf 48 = .ok (.invokevirtual 48, 3) := by decide +kernel
theorem dX0_holdOf_51 : decode cX0_holdOf 51 = .ok (.imul, 1) := by decide +kernel
theorem dX0_holdOf_52 : decode cX0_holdOf 52 = .ok (.istore 8, 2) := by decide +kernel
theorem dX0_holdOf_54 : decode cX0_holdOf 54 = .ok (.iload 5, 2) := by decide +kernel
theorem dX0_holdOf_56 : decode cX0_holdOf 56 = .ok (.iload 6, 2) := by decide +kernel
theorem dX0_holdOf_58 : decode cX0_holdOf 58 = .ok (.iload_n 2, 1) := by decide +kernel
theorem dX0_holdOf_59 : decode cX0_holdOf 59 = .ok (.if_icmp .ge 8, 3) := by decide +kernel
theorem dX0_holdOf_62 : decode cX0_holdOf 62 = .ok (.iload 8, 2) := by decide +kernel
theorem dX0_holdOf_64 : decode cX0_holdOf 64 = .ok (.goto 7, 3) := by decide +kernel
theorem dX0_holdOf_67 : decode cX0_holdOf 67 = .ok (.iload 8, 2) := by decide +kernel
theorem dX0_holdOf_69 : decode cX0_holdOf 69 = .ok (.iconst 2, 1) := by decide +kernel
theorem dX0_holdOf_70 : decode cX0_holdOf 70 = .ok (.idiv, 1) := by decide +kernel
theorem dX0_holdOf_71 : decode cX0_holdOf 71 = .ok (.iadd, 1) := by decide +kernel
theorem dX0_holdOf_72 : decode cX0_holdOf 72 = .ok (.istore 5, 2) := by decide +kernel
theorem dX0_holdOf_74 : decode cX0_holdOf 74 = .ok (.iload 4, 2) := by decide +kernel
theorem dX0_holdOf_76 : decode cX0_holdOf 76 = .ok (.iload 7, 2) := by decide +kernel
theorem dX0_holdOf_78 : decode cX0_holdOf 78 = .ok (.iadd, 1) := by decide +kernel
theorem dX0_holdOf_79 : decode cX0_holdOf 79 = .ok (.istore 4, 2) := by decide +kernel
theorem dX0_holdOf_81 : decode cX0_holdOf 81 = .ok (.iinc 6 1, 3) := by decide +kernel
theorem dX0_holdOf_84 : decode cX0_holdOf 84 = .ok (.goto (-75), 3) := by decide +kernel
theorem dX0_holdOf_87 : decode cX0_holdOf 87 = .ok (.iconst 1, 1) := by decide +kernel
theorem dX0_holdOf_88 : decode cX0_holdOf 88 = .ok (.iload 5, 2) := by decide +kernel
theorem dX0_holdOf_90 : decode cX0_holdOf 90 = .ok (.invokestatic 54, 3) := by decide +kernel
theorem dX0_holdOf_93 : decode cX0_holdOf 93 = .ok (.ireturn, 1) := by decide +kernel
theorem dX0_choicesOf_0 : decode cX0_choicesOf 0 = .ok (.iconst 1, 1) := by decide +kernel
theorem dX0_choicesOf_1 : decode cX0_choicesOf 1 = .ok (.istore_n 2, 1) := by decide +kernel
theorem dX0_choicesOf_2 : decode cX0_choicesOf 2 = .ok (.iconst 0, 1) := by decide +kernel
theorem dX0_choicesOf_3 : decode cX0_choicesOf 3 = .ok (.istore_n 3, 1) := by decide +kernel
theorem dX0_choicesOf_4 : decode cX0_choicesOf 4 = .ok (.iload_n 3, 1) := by decide +kernel
theorem dX0_choicesOf_5 : decode cX0_choicesOf 5 = .ok (.aload_n 0, 1) := by decide +kernel
theorem dX0_choicesOf_6 : decode cX0_choicesOf 6 = .ok (.getfield 18, 3) := by decide +kernel
theorem dX0_choicesOf_9 : decode cX0_choicesOf 9 = .ok (.iload_n 1, 1) := by decide +kernel
theorem dX0_choicesOf_10 : decode cX0_choicesOf 10 = .ok (.iaload, 1) := by decide +kernel
theorem dX0_choicesOf_11 : decode cX0_choicesOf 11 = .ok (.if_icmp .ge 23, 3) := by decide +kernel
theorem dX0_choicesOf_14 : decode cX0_choicesOf 14 = .ok (.iload_n 2, 1) := by decide +kernel
theorem dX0_choicesOf_15 : decode cX0_choicesOf 15 = .ok (.aload_n 0, 1) := by decide +kernel
theorem dX0_choicesOf_16 : decode cX0_choicesOf 16 = .ok (.getfield 27, 3) := by decide +kernel
theorem dX0_choicesOf_19 : decode cX0_choicesOf 19 = .ok (.iload_n 1, 1) := by decide +kernel
theorem dX0_choicesOf_20 : decode cX0_choicesOf 20 = .ok (.bipush 6, 2) := by decide +kernel
theorem dX0_choicesOf_22 : decode cX0_choicesOf 22 = .ok (.imul, 1) := by decide +kernel
theorem dX0_choicesOf_23 : decode cX0_choicesOf 23 = .ok (.iload_n 3, 1) := by decide +kernel
theorem dX0_choicesOf_24 : decode cX0_choicesOf 24 = .ok (.iadd, 1) := by decide +kernel
theorem dX0_choicesOf_25 : decode cX0_choicesOf 25 = .ok (.iaload, 1) := by decide +kernel
theorem dX0_choicesOf_26 : decode cX0_choicesOf 26 = .ok (.imul, 1) := by decide +kernel
theorem dX0_choicesOf_27 : decode cX0_choicesOf 27 = .ok (.istore_n 2, 1) := by decide +kernel
theorem dX0_choicesOf_28 : decode cX0_choicesOf 28 = .ok (.iinc 3 1, 3) := by decide +kernel
theorem dX0_choicesOf_31 : decode cX0_choicesOf 31 = .ok (.goto (-27), 3) := by decide +kernel
theorem dX0_choicesOf_34 : decode cX0_choicesOf 34 = .ok (.iload_n 2, 1) := by decide +kernel
theorem dX0_choicesOf_35 : decode cX0_choicesOf 35 = .ok (.ireturn, 1) := by decide +kernel
theorem dX0_middleOf_0 : decode cX0_middleOf 0 = .ok (.aload_n 0, 1) := by decide +kernel
theorem dX0_middleOf_1 : decode cX0_middleOf 1 = .ok (.getfield 9, 3) := by decide +kernel
theorem dX0_middleOf_4 : decode cX0_middleOf 4 = .ok (.iload_n 1, 1) := by decide +kernel
theorem dX0_middleOf_5 : decode cX0_middleOf 5 = .ok (.iaload, 1) := by decide +kernel
theorem dX0_middleOf_6 : decode cX0_middleOf 6 = .ok (.aload_n 0, 1) := by decide +kernel
theorem dX0_middleOf_7 : decode cX0_middleOf 7 = .ok (.iload_n 1, 1) := by decide +kernel
theorem dX0_middleOf_8 : decode cX0_middleOf 8 = .ok (.iload_n 2, 1) := by decide +kernel
theorem dX0_middleOf_9 : decode cX0_middleOf 9 = .ok (.invokevirtual 44, 3) := by decide +kernel
theorem dX0_middleOf_12 : decode cX0_middleOf 12 = .ok (.isub, 1) := by decide +kernel
theorem dX0_middleOf_13 : decode cX0_middleOf 13 = .ok (.aload_n 0, 1) := by decide +kernel
theorem dX0_middleOf_14 : decode cX0_middleOf 14 = .ok (.getfield 24, 3) := by decide +kernel
theorem dX0_middleOf_17 : decode cX0_middleOf 17 = .ok (.iload_n 1, 1) := by decide +kernel
theorem dX0_middleOf_18 : decode cX0_middleOf 18 = .ok (.bipush 6, 2) := by decide +kernel
theorem dX0_middleOf_20 : decode cX0_middleOf 20 = .ok (.imul, 1) := by decide +kernel
theorem dX0_middleOf_21 : decode cX0_middleOf 21 = .ok (.iload_n 2, 1) := by decide +kernel
theorem dX0_middleOf_22 : decode cX0_middleOf 22 = .ok (.iadd, 1) := by decide +kernel
theorem dX0_middleOf_23 : decode cX0_middleOf 23 = .ok (.iaload, 1) := by decide +kernel
theorem dX0_middleOf_24 : decode cX0_middleOf 24 = .ok (.iconst 2, 1) := by decide +kernel
theorem dX0_middleOf_25 : decode cX0_middleOf 25 = .ok (.idiv, 1) := by decide +kernel
theorem dX0_middleOf_26 : decode cX0_middleOf 26 = .ok (.isub, 1) := by decide +kernel
theorem dX0_middleOf_27 : decode cX0_middleOf 27 = .ok (.ireturn, 1) := by decide +kernel
theorem dX0_layerAt_0 : decode cX0_layerAt 0 = .ok (.aload_n 0, 1) := by decide +kernel
theorem dX0_layerAt_1 : decode cX0_layerAt 1 = .ok (.getfield 9, 3) := by decide +kernel
theorem dX0_layerAt_4 : decode cX0_layerAt 4 = .ok (.iload_n 1, 1) := by decide +kernel
theorem dX0_layerAt_5 : decode cX0_layerAt 5 = .ok (.iaload, 1) := by decide +kernel
theorem dX0_layerAt_6 : decode cX0_layerAt 6 = .ok (.istore_n 3, 1) := by decide +kernel
theorem dX0_layerAt_7 : decode cX0_layerAt 7 = .ok (.iconst 0, 1) := by decide +kernel
theorem dX0_layerAt_8 : decode cX0_layerAt 8 = .ok (.istore 4, 2) := by decide +kernel
theorem dX0_layerAt_10 : decode cX0_layerAt 10 = .ok (.iload 4, 2) := by decide +kernel
theorem dX0_layerAt_12 : decode cX0_layerAt 12 = .ok (.aload_n 0, 1) := by decide +kernel
theorem dX0_layerAt_13 : decode cX0_layerAt 13 = .ok (.getfield 18, 3) := by decide +kernel
theorem dX0_layerAt_16 : decode cX0_layerAt 16 = .ok (.iload_n 1, 1) := by decide +kernel
theorem dX0_layerAt_17 : decode cX0_layerAt 17 = .ok (.iaload, 1) := by decide +kernel
theorem dX0_layerAt_18 : decode cX0_layerAt 18 = .ok (.if_icmp .ge 42, 3) := by decide +kernel
theorem dX0_layerAt_21 : decode cX0_layerAt 21 = .ok (.iload_n 3, 1) := by decide +kernel
theorem dX0_layerAt_22 : decode cX0_layerAt 22 = .ok (.aload_n 0, 1) := by decide +kernel
theorem dX0_layerAt_23 : decode cX0_layerAt 23 = .ok (.getfield 24, 3) := by decide +kernel
theorem dX0_layerAt_26 : decode cX0_layerAt 26 = .ok (.iload_n 1, 1) := by decide +kernel
theorem dX0_layerAt_27 : decode cX0_layerAt 27 = .ok (.bipush 6, 2) := by decide +kernel
theorem dX0_layerAt_29 : decode cX0_layerAt 29 = .ok (.imul, 1) := by decide +kernel
theorem dX0_layerAt_30 : decode cX0_layerAt 30 = .ok (.iload 4, 2) := by decide +kernel
theorem dX0_layerAt_32 : decode cX0_layerAt 32 = .ok (.iadd, 1) := by decide +kernel
theorem dX0_layerAt_33 : decode cX0_layerAt 33 = .ok (.iaload, 1) := by decide +kernel
theorem dX0_layerAt_34 : decode cX0_layerAt 34 = .ok (.isub, 1) := by decide +kernel
theorem dX0_layerAt_35 : decode cX0_layerAt 35 = .ok (.istore 5, 2) := by decide +kernel
theorem dX0_layerAt_37 : decode cX0_layerAt 37 = .ok (.iload_n 3, 1) := by decide +kernel
theorem dX0_layerAt_38 : decode cX0_layerAt 38 = .ok (.iload_n 2, 1) := by decide +kernel
theorem dX0_layerAt_39 : decode cX0_layerAt 39 = .ok (.if_icmp .lt 12, 3) := by decide +kernel
theorem dX0_layerAt_42 : decode cX0_layerAt 42 = .ok (.iload 5, 2) := by decide +kernel
theorem dX0_layerAt_44 : decode cX0_layerAt 44 = .ok (.iload_n 2, 1) := by decide +kernel
theorem dX0_layerAt_45 : decode cX0_layerAt 45 = .ok (.if_icmp .ge 6, 3) := by decide +kernel
theorem dX0_layerAt_48 : decode cX0_layerAt 48 = .ok (.iload 4, 2) := by decide +kernel
theorem dX0_layerAt_50 : decode cX0_layerAt 50 = .ok (.ireturn, 1) := by decide +kernel
theorem dX0_layerAt_51 : decode cX0_layerAt 51 = .ok (.iload 5, 2) := by decide +kernel
theorem dX0_layerAt_53 : decode cX0_layerAt 53 = .ok (.istore_n 3, 1) := by decide +kernel
theorem dX0_layerAt_54 : decode cX0_layerAt 54 = .ok (.iinc 4 1, 3) := by decide +kernel
theorem dX0_layerAt_57 : decode cX0_layerAt 57 = .ok (.goto (-47), 3) := by decide +kernel
theorem dX0_layerAt_60 : decode cX0_layerAt 60 = .ok (.iconst (-1), 1) := by decide +kernel
theorem dX0_layerAt_61 : decode cX0_layerAt 61 = .ok (.ireturn, 1) := by decide +kernel
theorem dX0_weightAbove_0 : decode cX0_weightAbove 0 = .ok (.iconst 0, 1) := by decide +kernel
theorem dX0_weightAbove_1 : decode cX0_weightAbove 1 = .ok (.istore 4, 2) := by decide +kernel
theorem dX0_weightAbove_3 : decode cX0_weightAbove 3 = .ok (.iconst 0, 1) := by decide +kernel
theorem dX0_weightAbove_4 : decode cX0_weightAbove 4 = .ok (.istore 5, 2) := by decide +kernel
theorem dX0_weightAbove_6 : decode cX0_weightAbove 6 = .ok (.iconst 0, 1) := by decide +kernel
theorem dX0_weightAbove_7 : decode cX0_weightAbove 7 = .ok (.istore 6, 2) := by decide +kernel
theorem dX0_weightAbove_9 : decode cX0_weightAbove 9 = .ok (.iload 6, 2) := by decide +kernel
theorem dX0_weightAbove_11 : decode cX0_weightAbove 11 = .ok (.aload_n 0, 1) := by decide +kernel
theorem dX0_weightAbove_12 : decode cX0_weightAbove 12 = .ok (.getfield 18, 3) := by decide +kernel
theorem dX0_weightAbove_15 : decode cX0_weightAbove 15 = .ok (.iload_n 1, 1) := by decide +kernel
theorem dX0_weightAbove_16 : decode cX0_weightAbove 16 = .ok (.iaload, 1) := by decide +kernel
theorem dX0_weightAbove_17 : decode cX0_weightAbove 17 = .ok (.if_icmp .ge 87, 3) := by decide +kernel
theorem dX0_weightAbove_20 : decode cX0_weightAbove 20 = .ok (.aload_n 0, 1) := by decide +kernel
theorem dX0_weightAbove_21 : decode cX0_weightAbove 21 = .ok (.getfield 24, 3) := by decide +kernel
theorem dX0_weightAbove_24 : decode cX0_weightAbove 24 = .ok (.iload_n 1, 1) := by decide +kernel
theorem dX0_weightAbove_25 : decode cX0_weightAbove 25 = .ok (.bipush 6, 2) := by decide +kernel
theorem dX0_weightAbove_27 : decode cX0_weightAbove 27 = .ok (.imul, 1) := by decide +kernel
theorem dX0_weightAbove_28 : decode cX0_weightAbove 28 = .ok (.iload 6, 2) := by decide +kernel
theorem dX0_weightAbove_30 : decode cX0_weightAbove 30 = .ok (.iadd, 1) := by decide +kernel
theorem dX0_weightAbove_31 : decode cX0_weightAbove 31 = .ok (.iaload, 1) := by decide +kernel
theorem dX0_weightAbove_32 : decode cX0_weightAbove 32 = .ok (.aload_n 0, 1) := by decide +kernel
theorem dX0_weightAbove_33 : decode cX0_weightAbove 33 = .ok (.getfield 9, 3) := by decide +kernel
theorem dX0_weightAbove_36 : decode cX0_weightAbove 36 = .ok (.iload_n 1, 1) := by decide +kernel
theorem dX0_weightAbove_37 : decode cX0_weightAbove 37 = .ok (.iaload, 1) := by decide +kernel
theorem dX0_weightAbove_38 : decode cX0_weightAbove 38 = .ok (.iload 4, 2) := by decide +kernel
theorem dX0_weightAbove_40 : decode cX0_weightAbove 40 = .ok (.isub, 1) := by decide +kernel
theorem dX0_weightAbove_41 : decode cX0_weightAbove 41 = .ok (.iload_n 2, 1) := by decide +kernel
theorem dX0_weightAbove_42 : decode cX0_weightAbove 42 = .ok (.isub, 1) := by decide +kernel
theorem dX0_weightAbove_43 : decode cX0_weightAbove 43 = .ok (.invokestatic 59, 3) := by decide +kernel
theorem dX0_weightAbove_46 : decode cX0_weightAbove 46 = .ok (.istore 7, 2) := by decide +kernel
theorem dX0_weightAbove_48 : decode cX0_weightAbove 48 = .ok (.iload 7, 2) := by decide +kernel
theorem dX0_weightAbove_50 : decode cX0_weightAbove 50 = .ok (.ifCond .le 31, 3) := by decide +kernel
theorem dX0_weightAbove_53 : decode cX0_weightAbove 53 = .ok (.iload 5, 2) := by decide +kernel
theorem dX0_weightAbove_55 : decode cX0_weightAbove 55 = .ok (.iload 7, 2) := by decide +kernel
theorem dX0_weightAbove_57 : decode cX0_weightAbove 57 = .ok (.aload_n 3, 1) := by decide +kernel
theorem dX0_weightAbove_58 : decode cX0_weightAbove 58 = .ok (.iload 4, 2) := by decide +kernel
theorem dX0_weightAbove_60 : decode cX0_weightAbove 60 = .ok (.aload_n 0, 1) := by decide +kernel
theorem dX0_weightAbove_61 : decode cX0_weightAbove 61 = .ok (.getfield 15, 3) := by decide +kernel
theorem dX0_weightAbove_64 : decode cX0_weightAbove 64 = .ok (.iload_n 1, 1) := by decide +kernel
theorem dX0_weightAbove_65 : decode cX0_weightAbove 65 = .ok (.iaload, 1) := by decide +kernel
theorem dX0_weightAbove_66 : decode cX0_weightAbove 66 = .ok (.if_icmp .lt 7, 3) := by decide +kernel
theorem dX0_weightAbove_69 : decode cX0_weightAbove 69 = .ok (.iconst 1, 1) := by decide +kernel
theorem dX0_weightAbove_70 : decode cX0_weightAbove 70 = .ok (.goto 4, 3) := by decide +kernel
theorem dX0_weightAbove_73 : decode cX0_weightAbove 73 = .ok (.iconst 0, 1) := by decide +kernel
theorem dX0_weightAbove_74 : decode cX0_weightAbove 74 = .ok (.invokevirtual 48, 3) := by decide +kernel
theorem dX0_weightAbove_77 : decode cX0_weightAbove 77 = .ok (.imul, 1) := by decide +kernel
theorem dX0_weightAbove_78 : decode cX0_weightAbove 78 = .ok (.iadd, 1) := by decide +kernel
theorem dX0_weightAbove_79 : decode cX0_weightAbove 79 = .ok (.istore 5, 2) := by decide +kernel
theorem dX0_weightAbove_81 : decode cX0_weightAbove 81 = .ok (.iload 4, 2) := by decide +kernel
theorem dX0_weightAbove_83 : decode cX0_weightAbove 83 = .ok (.aload_n 0, 1) := by decide +kernel
theorem dX0_weightAbove_84 : decode cX0_weightAbove 84 = .ok (.getfield 24, 3) := by decide +kernel
theorem dX0_weightAbove_87 : decode cX0_weightAbove 87 = .ok (.iload_n 1, 1) := by decide +kernel
theorem dX0_weightAbove_88 : decode cX0_weightAbove 88 = .ok (.bipush 6, 2) := by decide +kernel
theorem dX0_weightAbove_90 : decode cX0_weightAbove 90 = .ok (.imul, 1) := by decide +kernel
theorem dX0_weightAbove_91 : decode cX0_weightAbove 91 = .ok (.iload 6, 2) := by decide +kernel
theorem dX0_weightAbove_93 : decode cX0_weightAbove 93 = .ok (.iadd, 1) := by decide +kernel
theorem dX0_weightAbove_94 : decode cX0_weightAbove 94 = .ok (.iaload, 1) := by decide +kernel
theorem dX0_weightAbove_95 : decode cX0_weightAbove 95 = .ok (.iadd, 1) := by decide +kernel
theorem dX0_weightAbove_96 : decode cX0_weightAbove 96 = .ok (.istore 4, 2) := by decide +kernel
theorem dX0_weightAbove_98 : decode cX0_weightAbove 98 = .ok (.iinc 6 1, 3) := by decide +kernel
theorem dX0_weightAbove_101 : decode cX0_weightAbove 101 = .ok (.goto (-92), 3) := by decide +kernel
theorem dX0_weightAbove_104 : decode cX0_weightAbove 104 = .ok (.iload 5, 2) := by decide +kernel
theorem dX0_weightAbove_106 : decode cX0_weightAbove 106 = .ok (.ireturn, 1) := by decide +kernel
theorem dX1_init_0 : decode cX1_init 0 = .ok (.aload_n 0, 1) := by decide +kernel
theorem dX1_init_1 : decode cX1_init 1 = .ok (.invokespecial 3, 3) := by decide +kernel
theorem dX1_init_4 : decode cX1_init 4 = .ok (.aload_n 0, 1) := by decide +kernel
theorem dX1_init_5 : decode cX1_init 5 = .ok (.bipush 8, 2) := by decide +kernel
theorem dX1_init_7 : decode cX1_init 7 = .ok (.newarray .int, 2) := by decide +kernel
theorem dX1_init_9 : decode cX1_init 9 = .ok (.putfield 9, 3) := by decide +kernel
theorem dX1_init_12 : decode cX1_init 12 = .ok (.aload_n 0, 1) := by decide +kernel
theorem dX1_init_13 : decode cX1_init 13 = .ok (.bipush 8, 2) := by decide +kernel
theorem dX1_init_15 : decode cX1_init 15 = .ok (.newarray .int, 2) := by decide +kernel
theorem dX1_init_17 : decode cX1_init 17 = .ok (.putfield 15, 3) := by decide +kernel
theorem dX1_init_20 : decode cX1_init 20 = .ok (.aload_n 0, 1) := by decide +kernel
theorem dX1_init_21 : decode cX1_init 21 = .ok (.bipush 8, 2) := by decide +kernel
theorem dX1_init_23 : decode cX1_init 23 = .ok (.newarray .int, 2) := by decide +kernel
theorem dX1_init_25 : decode cX1_init 25 = .ok (.putfield 18, 3) := by decide +kernel
theorem dX1_init_28 : decode cX1_init 28 = .ok (.return_, 1) := by decide +kernel
theorem dX1_hasHouse_0 : decode cX1_hasHouse 0 = .ok (.iload_n 1, 1) := by decide +kernel
theorem dX1_hasHouse_1 : decode cX1_hasHouse 1 = .ok (.ifCond .lt 15, 3) := by decide +kernel
theorem dX1_hasHouse_4 : decode cX1_hasHouse 4 = .ok (.iload_n 1, 1) := by decide +kernel
theorem dX1_hasHouse_5 : decode cX1_hasHouse 5 = .ok (.aload_n 0, 1) := by decide +kernel
theorem dX1_hasHouse_6 : decode cX1_hasHouse 6 = .ok (.getfield 21, 3) := by decide +kernel
theorem dX1_hasHouse_9 : decode cX1_hasHouse 9 = .ok (.if_icmp .ge 7, 3) := by decide +kernel
theorem dX1_hasHouse_12 : decode cX1_hasHouse 12 = .ok (.iconst 1, 1) := by decide +kernel
theorem dX1_hasHouse_13 : decode cX1_hasHouse 13 = .ok (.goto 4, 3) := by decide +kernel
theorem dX1_hasHouse_16 : decode cX1_hasHouse 16 = .ok (.iconst 0, 1) := by decide +kernel
theorem dX1_hasHouse_17 : decode cX1_hasHouse 17 = .ok (.ireturn, 1) := by decide +kernel
theorem dX1_addHouse_0 : decode cX1_addHouse 0 = .ok (.aload_n 0, 1) := by decide +kernel
theorem dX1_addHouse_1 : decode cX1_addHouse 1 = .ok (.getfield 9, 3) := by decide +kernel
theorem dX1_addHouse_4 : decode cX1_addHouse 4 = .ok (.aload_n 0, 1) := by decide +kernel
theorem dX1_addHouse_5 : decode cX1_addHouse 5 = .ok (.getfield 21, 3) := by decide +kernel
theorem dX1_addHouse_8 : decode cX1_addHouse 8 = .ok (.iload_n 1, 1) := by decide +kernel
theorem dX1_addHouse_9 : decode cX1_addHouse 9 = .ok (.iastore, 1) := by decide +kernel
theorem dX1_addHouse_10 : decode cX1_addHouse 10 = .ok (.aload_n 0, 1) := by decide +kernel
theorem dX1_addHouse_11 : decode cX1_addHouse 11 = .ok (.getfield 15, 3) := by decide +kernel
theorem dX1_addHouse_14 : decode cX1_addHouse 14 = .ok (.aload_n 0, 1) := by decide +kernel
theorem dX1_addHouse_15 : decode cX1_addHouse 15 = .ok (.getfield 21, 3) := by decide +kernel
theorem dX1_addHouse_18 : decode cX1_addHouse 18 = .ok (.iload_n 2, 1) := by decide +kernel
theorem dX1_addHouse_19 : decode cX1_addHouse 19 = .ok (.iastore, 1) := by decide +kernel
theorem dX1_addHouse_20 : decode cX1_addHouse 20 = .ok (.aload_n 0, 1) := by decide +kernel
theorem dX1_addHouse_21 : decode cX1_addHouse 21 = .ok (.getfield 18, 3) := by decide +kernel
theorem dX1_addHouse_24 : decode cX1_addHouse 24 = .ok (.aload_n 0, 1) := by decide +kernel
theorem dX1_addHouse_25 : decode cX1_addHouse 25 = .ok (.getfield 21, 3) := by decide +kernel
theorem dX1_addHouse_28 : decode cX1_addHouse 28 = .ok (.iload_n 3, 1) := by decide +kernel
theorem dX1_addHouse_29 : decode cX1_addHouse 29 = .ok (.iastore, 1) := by decide +kernel
theorem dX1_addHouse_30 : decode cX1_addHouse 30 = .ok (.aload_n 0, 1) := by decide +kernel
theorem dX1_addHouse_31 : decode cX1_addHouse 31 = .ok (.dup, 1) := by decide +kernel
theorem dX1_addHouse_32 : decode cX1_addHouse 32 = .ok (.getfield 21, 3) := by decide +kernel
theorem dX1_addHouse_35 : decode cX1_addHouse 35 = .ok (.iconst 1, 1) := by decide +kernel
theorem dX1_addHouse_36 : decode cX1_addHouse 36 = .ok (.iadd, 1) := by decide +kernel
theorem dX1_addHouse_37 : decode cX1_addHouse 37 = .ok (.putfield 21, 3) := by decide +kernel
theorem dX1_addHouse_40 : decode cX1_addHouse 40 = .ok (.aload_n 0, 1) := by decide +kernel
theorem dX1_addHouse_41 : decode cX1_addHouse 41 = .ok (.getfield 21, 3) := by decide +kernel
theorem dX1_addHouse_44 : decode cX1_addHouse 44 = .ok (.iconst 1, 1) := by decide +kernel
theorem dX1_addHouse_45 : decode cX1_addHouse 45 = .ok (.isub, 1) := by decide +kernel
theorem dX1_addHouse_46 : decode cX1_addHouse 46 = .ok (.ireturn, 1) := by decide +kernel
theorem dX1_widestOn_0 : decode cX1_widestOn 0 = .ok (.iconst 0, 1) := by decide +kernel
theorem dX1_widestOn_1 : decode cX1_widestOn 1 = .ok (.istore_n 2, 1) := by decide +kernel
theorem dX1_widestOn_2 : decode cX1_widestOn 2 = .ok (.iconst 0, 1) := by decide +kernel
theorem dX1_widestOn_3 : decode cX1_widestOn 3 = .ok (.istore_n 3, 1) := by decide +kernel
theorem dX1_widestOn_4 : decode cX1_widestOn 4 = .ok (.iload_n 3, 1) := by decide +kernel
theorem dX1_widestOn_5 : decode cX1_widestOn 5 = .ok (.aload_n 0, 1) := by decide +kernel
theorem dX1_widestOn_6 : decode cX1_widestOn 6 = .ok (.getfield 21, 3) := by decide +kernel
theorem dX1_widestOn_9 : decode cX1_widestOn 9 = .ok (.if_icmp .ge 30, 3) := by decide +kernel
theorem dX1_widestOn_12 : decode cX1_widestOn 12 = .ok (.aload_n 0, 1) := by decide +kernel
theorem dX1_widestOn_13 : decode cX1_widestOn 13 = .ok (.getfield 9, 3) := by decide +kernel
theorem dX1_widestOn_16 : decode cX1_widestOn 16 = .ok (.iload_n 3, 1) := by decide +kernel
theorem dX1_widestOn_17 : decode cX1_widestOn 17 = .ok (.iaload, 1) := by decide +kernel
theorem dX1_widestOn_18 : decode cX1_widestOn 18 = .ok (.iload_n 1, 1) := by decide +kernel
theorem dX1_widestOn_19 : decode cX1_widestOn 19 = .ok (.if_icmp .ne 14, 3) := by decide +kernel
theorem dX1_widestOn_22 : decode cX1_widestOn 22 = .ok (.iload_n 2, 1) := by decide +kernel
theorem dX1_widestOn_23 : decode cX1_widestOn 23 = .ok (.aload_n 0, 1) := by decide +kernel
theorem dX1_widestOn_24 : decode cX1_widestOn 24 = .ok (.getfield 15, 3) := by decide +kernel
theorem dX1_widestOn_27 : decode cX1_widestOn 27 = .ok (.iload_n 3, 1) := by decide +kernel
theorem dX1_widestOn_28 : decode cX1_widestOn 28 = .ok (.iaload, 1) := by decide +kernel
theorem dX1_widestOn_29 : decode cX1_widestOn 29 = .ok (.invokestatic 25, 3) := by decide +kernel
theorem dX1_widestOn_32 : decode cX1_widestOn 32 = .ok (.istore_n 2, 1) := by decide +kernel
theorem dX1_widestOn_33 : decode cX1_widestOn 33 = .ok (.iinc 3 1, 3) := by decide +kernel
theorem dX1_widestOn_36 : decode cX1_widestOn 36 = .ok (.goto (-32), 3) := by decide +kernel
theorem dX1_widestOn_39 : decode cX1_widestOn 39 = .ok (.iload_n 2, 1) := by decide +kernel
theorem dX1_widestOn_40 : decode cX1_widestOn 40 = .ok (.ireturn, 1) := by decide +kernel
theorem dX2_init_0 : decode cX2_init 0 = .ok (.aload_n 0, 1) := by decide +kernel
theorem dX2_init_1 : decode cX2_init 1 = .ok (.invokespecial 3, 3) := by decide +kernel
theorem dX2_init_4 : decode cX2_init 4 = .ok (.aload_n 0, 1) := by decide +kernel
theorem dX2_init_5 : decode cX2_init 5 = .ok (.bipush 25, 2) := by decide +kernel
theorem dX2_init_7 : decode cX2_init 7 = .ok (.newarray .int, 2) := by decide +kernel
theorem dX2_init_9 : decode cX2_init 9 = .ok (.putfield 11, 3) := by decide +kernel
theorem dX2_init_12 : decode cX2_init 12 = .ok (.aload_n 0, 1) := by decide +kernel
theorem dX2_init_13 : decode cX2_init 13 = .ok (.iconst (-1), 1) := by decide +kernel
theorem dX2_init_14 : decode cX2_init 14 = .ok (.putfield 17, 3) := by decide +kernel
theorem dX2_init_17 : decode cX2_init 17 = .ok (.aload_n 0, 1) := by decide +kernel
theorem dX2_init_18 : decode cX2_init 18 = .ok (.sipush 200, 3) := by decide +kernel
theorem dX2_init_21 : decode cX2_init 21 = .ok (.newarray .int, 2) := by decide +kernel
theorem dX2_init_23 : decode cX2_init 23 = .ok (.putfield 21, 3) := by decide +kernel
theorem dX2_init_26 : decode cX2_init 26 = .ok (.return_, 1) := by decide +kernel
theorem dX2_append_0 : decode cX2_append 0 = .ok (.iload_n 1, 1) := by decide +kernel
theorem dX2_append_1 : decode cX2_append 1 = .ok (.iconst 1, 1) := by decide +kernel
theorem dX2_append_2 : decode cX2_append 2 = .ok (.isub, 1) := by decide +kernel
theorem dX2_append_3 : decode cX2_append 3 = .ok (.istore 4, 2) := by decide +kernel
theorem dX2_append_5 : decode cX2_append 5 = .ok (.iload 4, 2) := by decide +kernel
theorem dX2_append_7 : decode cX2_append 7 = .ok (.ifCond .lt 50, 3) := by decide +kernel
theorem dX2_append_10 : decode cX2_append 10 = .ok (.aload_n 0, 1) := by decide +kernel
theorem dX2_append_11 : decode cX2_append 11 = .ok (.getfield 24, 3) := by decide +kernel
theorem dX2_append_14 : decode cX2_append 14 = .ok (.sipush 200, 3) := by decide +kernel
theorem dX2_append_17 : decode cX2_append 17 = .ok (.if_icmp .ge 40, 3) := by decide +kernel
theorem dX2_append_20 : decode cX2_append 20 = .ok (.aload_n 0, 1) := by decide +kernel
theorem dX2_append_21 : decode cX2_append 21 = .ok (.getfield 21, 3) := by decide +kernel
theorem dX2_append_24 : decode cX2_append 24 = .ok (.aload_n 0, 1) := by decide +kernel
theorem dX2_append_25 : decode cX2_append 25 = .ok (.getfield 24, 3) := by decide +kernel
theorem dX2_append_28 : decode cX2_append 28 = .ok (.lload_n 2, 1) := by decide +kernel
theorem dX2_append_29 : decode cX2_append 29 = .ok (.bipush 8, 2) := by decide +kernel
theorem dX2_append_31 : decode cX2_append 31 = .ok (.iload 4, 2) := by decide +kernel
theorem dX2_append_33 : decode cX2_append 33 = .ok (.imul, 1) := by decide +kernel
theorem dX2_append_34 : decode cX2_append 34 = .ok (.lshr, 1) := by decide +kernel
theorem dX2_append_35 : decode cX2_append 35 = .ok (.ldc2_w 27, 3) := by decide +kernel
theorem dX2_append_38 : decode cX2_append 38 = .ok (.land, 1) := by decide +kernel
theorem dX2_append_39 : decode cX2_append 39 = .ok (.l2i, 1) := by decide +kernel
theorem dX2_append_40 : decode cX2_append 40 = .ok (.iastore, 1) := by decide +kernel
theorem dX2_append_41 : decode cX2_append 41 = .ok (.aload_n 0, 1) := by decide +kernel
theorem dX2_append_42 : decode cX2_append 42 = .ok (.dup, 1) := by decide +kernel
theorem dX2_append_43 : decode cX2_append 43 = .ok (.getfield 24, 3) := by decide +kernel
theorem dX2_append_46 : decode cX2_append 46 = .ok (.iconst 1, 1) := by decide +kernel
theorem dX2_append_47 : decode cX2_append 47 = .ok (.iadd, 1) := by decide +kernel
theorem dX2_append_48 : decode cX2_append 48 = .ok (.putfield 24, 3) := by decide +kernel
theorem dX2_append_51 : decode cX2_append 51 = .ok (.iinc 4 (-1), 3) := by decide +kernel
theorem dX2_append_54 : decode cX2_append 54 = .ok (.goto (-49), 3) := by decide +kernel
theorem dX2_append_57 : decode cX2_append 57 = .ok (.return_, 1) := by decide +kernel
theorem dX2_parse_0 : decode cX2_parse 0 = .ok (.aload_n 0, 1) := by decide +kernel
theorem dX2_parse_1 : decode cX2_parse 1 = .ok (.iconst 0, 1) := by decide +kernel
theorem dX2_parse_2 : decode cX2_parse 2 = .ok (.putfield 29, 3) := by decide +kernel
theorem dX2_parse_5 : decode cX2_parse 5 = .ok (.aload_n 0, 1) := by decide +kernel
theorem dX2_parse_6 : decode cX2_parse 6 = .ok (.iconst 0, 1) := by decide +kernel
theorem dX2_parse_7 : decode cX2_parse 7 = .ok (.putfield 32, 3) := by decide +kernel
theorem dX2_parse_10 : decode cX2_parse 10 = .ok (.aload_n 0, 1) := by decide +kernel
theorem dX2_parse_11 : decode cX2_parse 11 = .ok (.iconst 0, 1) := by decide +kernel
theorem dX2_parse_12 : decode cX2_parse 12 = .ok (.putfield 35, 3) := by decide +kernel
theorem dX2_parse_15 : decode cX2_parse 15 = .ok (.aload_n 0, 1) := by decide +kernel
theorem dX2_parse_16 : decode cX2_parse 16 = .ok (.iconst (-1), 1) := by decide +kernel
theorem dX2_parse_17 : decode cX2_parse 17 = .ok (.putfield 17, 3) := by decide +kernel
theorem dX2_parse_20 : decode cX2_parse 20 = .ok (.iconst 0, 1) := by decide +kernel
theorem dX2_parse_21 : decode cX2_parse 21 = .ok (.istore_n 1, 1) := by decide +kernel
theorem dX2_parse_22 : decode cX2_parse 22 = .ok (.iload_n 1, 1) := by decide +kernel
theorem dX2_parse_23 : decode cX2_parse 23 = .ok (.bipush 25, 2) := by decide +kernel
theorem dX2_parse_25 : decode cX2_parse 25 = .ok (.if_icmp .ge 19, 3) := by decide +kernel
theorem dX2_parse_28 : decode cX2_parse 28 = .ok (.aload_n 0, 1) := by decide +kernel
theorem dX2_parse_29 : decode cX2_parse 29 = .ok (.getfield 11, 3) := by decide +kernel
theorem dX2_parse_32 : decode cX2_parse 32 = .ok (.iload_n 1, 1) := by decide +kernel
theorem dX2_parse_33 : decode cX2_parse 33 = .ok (.iload_n 1, 1) := by decide +kernel
theorem dX2_parse_34 : decode cX2_parse 34 = .ok (.invokestatic 38, 3) := by decide +kernel
theorem dX2_parse_37 : decode cX2_parse 37 = .ok (.iastore, 1) := by decide +kernel
theorem dX2_parse_38 : decode cX2_parse 38 = .ok (.iinc 1 1, 3) := by decide +kernel
theorem dX2_parse_41 : decode cX2_parse 41 = .ok (.goto (-19), 3) := by decide +kernel
theorem dX2_parse_44 : decode cX2_parse 44 = .ok (.aload_n 0, 1) := by decide +kernel
theorem dX2_parse_45 : decode cX2_parse 45 = .ok (.invokevirtual 42, 3) := by decide +kernel
theorem dX2_parse_48 : decode cX2_parse 48 = .ok (.iconst 0, 1) := by decide +kernel
theorem dX2_parse_49 : decode cX2_parse 49 = .ok (.istore_n 1, 1) := by decide +kernel
theorem dX2_parse_50 : decode cX2_parse 50 = .ok (.iload_n 1, 1) := by decide +kernel
theorem dX2_parse_51 : decode cX2_parse 51 = .ok (.sipush 200, 3) := by decide +kernel
theorem dX2_parse_54 : decode cX2_parse 54 = .ok (.if_icmp .ge 35, 3) := by decide +kernel
theorem dX2_parse_57 : decode cX2_parse 57 = .ok (.aload_n 0, 1) := by decide +kernel
theorem dX2_parse_58 : decode cX2_parse 58 = .ok (.getfield 29, 3) := by decide +kernel
theorem dX2_parse_61 : decode cX2_parse 61 = .ok (.aload_n 0, 1) := by decide +kernel
theorem dX2_parse_62 : decode cX2_parse 62 = .ok (.getfield 24, 3) := by decide +kernel
theorem dX2_parse_65 : decode cX2_parse 65 = .ok (.if_icmp .ge 24, 3) := by decide +kernel
theorem dX2_parse_68 : decode cX2_parse 68 = .ok (.aload_n 0, 1) := by decide +kernel
theorem dX2_parse_69 : decode cX2_parse 69 = .ok (.getfield 35, 3) := by decide +kernel
theorem dX2_parse_72 : decode cX2_parse 72 = .ok (.ifCond .ne 17, 3) := by decide +kernel
theorem dX2_parse_75 : decode cX2_parse 75 = .ok (.aload_n 0, 1) := by decide +kernel
theorem dX2_parse_76 : decode cX2_parse 76 = .ok (.invokevirtual 45, 3) := by decide +kernel
theorem dX2_parse_79 : decode cX2_parse 79 = .ok (.aload_n 0, 1) := by decide +kernel
theorem dX2_parse_80 : decode cX2_parse 80 = .ok (.invokevirtual 42, 3) := by decide +kernel
theorem dX2_parse_83 : decode cX2_parse 83 = .ok (.iinc 1 1, 3) := by decide +kernel
theorem dX2_parse_86 : decode cX2_parse 86 = .ok (.goto (-36), 3) := by decide +kernel
theorem dX2_parse_89 : decode cX2_parse 89 = .ok (.aload_n 0, 1) := by decide +kernel
theorem dX2_parse_90 : decode cX2_parse 90 = .ok (.iconst 0, 1) := by decide +kernel
theorem dX2_parse_91 : decode cX2_parse 91 = .ok (.putfield 24, 3) := by decide +kernel
theorem dX2_parse_94 : decode cX2_parse 94 = .ok (.aload_n 0, 1) := by decide +kernel
theorem dX2_parse_95 : decode cX2_parse 95 = .ok (.getfield 32, 3) := by decide +kernel
theorem dX2_parse_98 : decode cX2_parse 98 = .ok (.ireturn, 1) := by decide +kernel
theorem dX2_fail_0 : decode cX2_fail 0 = .ok (.aload_n 0, 1) := by decide +kernel
theorem dX2_fail_1 : decode cX2_fail 1 = .ok (.getfield 35, 3) := by decide +kernel
theorem dX2_fail_4 : decode cX2_fail 4 = .ok (.ifCond .eq 4, 3) := by decide +kernel
theorem dX2_fail_7 : decode cX2_fail 7 = .ok (.return_, 1) := by decide +kernel
theorem dX2_fail_8 : decode cX2_fail 8 = .ok (.aload_n 0, 1) := by decide +kernel
theorem dX2_fail_9 : decode cX2_fail 9 = .ok (.iload_n 1, 1) := by decide +kernel
theorem dX2_fail_10 : decode cX2_fail 10 = .ok (.putfield 35, 3) := by decide +kernel
theorem dX2_fail_13 : decode cX2_fail 13 = .ok (.aload_n 0, 1) := by decide +kernel
theorem dX2_fail_14 : decode cX2_fail 14 = .ok (.iload_n 2, 1) := by decide +kernel
theorem dX2_fail_15 : decode cX2_fail 15 = .ok (.putfield 17, 3) := by decide +kernel
theorem dX2_fail_18 : decode cX2_fail 18 = .ok (.return_, 1) := by decide +kernel
theorem dX2_skipBlanks_0 : decode cX2_skipBlanks 0 = .ok (.aload_n 0, 1) := by decide +kernel
theorem dX2_skipBlanks_1 : decode cX2_skipBlanks 1 = .ok (.getfield 29, 3) := by decide +kernel
theorem dX2_skipBlanks_4 : decode cX2_skipBlanks 4 = .ok (.aload_n 0, 1) := by decide +kernel
theorem dX2_skipBlanks_5 : decode cX2_skipBlanks 5 = .ok (.getfield 24, 3) := by decide +kernel
theorem dX2_skipBlanks_8 : decode cX2_skipBlanks 8 = .ok (.if_icmp .ge 30, 3) := by decide +kernel
theorem dX2_skipBlanks_11 : decode cX2_skipBlanks 11 = .ok (.aload_n 0, 1) := by decide +kernel
theorem dX2_skipBlanks_12 : decode cX2_skipBlanks 12 = .ok (.getfield 21, 3) := by decide +kernel
theorem dX2_skipBlanks_15 : decode cX2_skipBlanks 15 = .ok (.aload_n 0, 1) := by decide +kernel
theorem dX2_skipBlanks_16 : decode cX2_skipBlanks 16 = .ok (.getfield 29, 3) := by decide +kernel
theorem dX2_skipBlanks_19 : decode cX2_skipBlanks 19 = .ok (.iaload, 1) := by decide +kernel
theorem dX2_skipBlanks_20 : decode cX2_skipBlanks 20 = .ok (.bipush 32, 2) := by decide +kernel
theorem dX2_skipBlanks_22 : decode cX2_skipBlanks 22 = .ok (.if_icmp .ne 16, 3) := by decide +kernel
theorem dX2_skipBlanks_25 : decode cX2_skipBlanks 25 = .ok (.aload_n 0, 1) := by decide +kernel
theorem dX2_skipBlanks_26 : decode cX2_skipBlanks 26 = .ok (.dup, 1) := by decide +kernel
theorem dX2_skipBlanks_27 : decode cX2_skipBlanks 27 = .ok (.getfield 29, 3) := by decide +kernel
theorem dX2_skipBlanks_30 : decode cX2_skipBlanks 30 = .ok (.iconst 1, 1) := by decide +kernel
theorem dX2_skipBlanks_31 : decode cX2_skipBlanks 31 = .ok (.iadd, 1) := by decide +kernel
theorem dX2_skipBlanks_32 : decode cX2_skipBlanks 32 = .ok (.putfield 29, 3) := by decide +kernel
theorem dX2_skipBlanks_35 : decode cX2_skipBlanks 35 = .ok (.goto (-35), 3) := by decide +kernel
theorem dX2_skipBlanks_38 : decode cX2_skipBlanks 38 = .ok (.return_, 1) := by decide +kernel
theorem dX2_isNext_0 : decode cX2_isNext 0 = .ok (.aload_n 0, 1) := by decide +kernel
theorem dX2_isNext_1 : decode cX2_isNext 1 = .ok (.getfield 29, 3) := by decide +kernel
theorem dX2_isNext_4 : decode cX2_isNext 4 = .ok (.aload_n 0, 1) := by decide +kernel
theorem dX2_isNext_5 : decode cX2_isNext 5 = .ok (.getfield 24, 3) := by decide +kernel
theorem dX2_isNext_8 : decode cX2_isNext 8 = .ok (.if_icmp .ge 20, 3) := by decide +kernel
theorem dX2_isNext_11 : decode cX2_isNext 11 = .ok (.aload_n 0, 1) := by decide +kernel
theorem dX2_isNext_12 : decode cX2_isNext 12 = .ok (.getfield 21, 3) := by decide +kernel
theorem dX2_isNext_15 : decode cX2_isNext 15 = .ok (.aload_n 0, 1) := by decide +kernel
theorem dX2_isNext_16 : decode cX2_isNext 16 = .ok (.getfield 29, 3) := by decide +kernel
theorem dX2_isNext_19 : decode cX2_isNext 19 = .ok (.iaload, 1) := by decide +kernel
theorem dX2_isNext_20 : decode cX2_isNext 20 = .ok (.iload_n 1, 1) := by decide +kernel
theorem dX2_isNext_21 : decode cX2_isNext 21 = .ok (.if_icmp .ne 7, 3) := by decide +kernel
theorem dX2_isNext_24 : decode cX2_isNext 24 = .ok (.iconst 1, 1) := by decide +kernel
theorem dX2_isNext_25 : decode cX2_isNext 25 = .ok (.goto 4, 3) := by decide +kernel
theorem dX2_isNext_28 : decode cX2_isNext 28 = .ok (.iconst 0, 1) := by decide +kernel
theorem dX2_isNext_29 : decode cX2_isNext 29 = .ok (.ireturn, 1) := by decide +kernel
theorem dX2_takeClause_0 : decode cX2_takeClause 0 = .ok (.aload_n 0, 1) := by decide +kernel
theorem dX2_takeClause_1 : decode cX2_takeClause 1 = .ok (.getfield 29, 3) := by decide +kernel
theorem dX2_takeClause_4 : decode cX2_takeClause 4 = .ok (.istore_n 1, 1) := by decide +kernel
theorem dX2_takeClause_5 : decode cX2_takeClause 5 = .ok (.aload_n 0, 1) := by decide +kernel
theorem dX2_takeClause_6 : decode cX2_takeClause 6 = .ok (.invokevirtual 48, 3) := by decide +kernel
theorem dX2_takeClause_9 : decode cX2_takeClause 9 = .ok (.istore_n 2, 1) := by decide +kernel
theorem dX2_takeClause_10 : decode cX2_takeClause 10 = .ok (.iload_n 2, 1) := by decide +kernel
theorem dX2_takeClause_11 : decode cX2_takeClause 11 = .ok (.bipush 20, 2) := by decide +kernel
theorem dX2_takeClause_13 : decode cX2_takeClause 13 = .ok (.if_icmp .ge 12, 3) := by decide +kernel
theorem dX2_takeClause_16 : decode cX2_takeClause 16 = .ok (.aload_n 0, 1) := by decide +kernel
theorem dX2_takeClause_17 : decode cX2_takeClause 17 = .ok (.iconst 1, 1) := by decide +kernel
theorem dX2_takeClause_18 : decode cX2_takeClause 18 = .ok (.iload_n 1, 1) := by decide +kernel
theorem dX2_takeClause_19 : decode cX2_takeClause 19 = .ok (.invokevirtual 52, 3) := by decide +kernel
theorem dX2_takeClause_22 : decode cX2_takeClause 22 = .ok (.goto 52, 3) := by decide +kernel
theorem dX2_takeClause_25 : decode cX2_takeClause 25 = .ok (.aload_n 0, 1) := by decide +kernel
theorem dX2_takeClause_26 : decode cX2_takeClause 26 = .ok (.getfield 32, 3) := by decide +kernel
theorem dX2_takeClause_29 : decode cX2_takeClause 29 = .ok (.bipush 12, 2) := by decide +kernel
theorem dX2_takeClause_31 : decode cX2_takeClause 31 = .ok (.if_icmp .lt 12, 3) := by decide +kernel
theorem dX2_takeClause_34 : decode cX2_takeClause 34 = .ok (.aload_n 0, 1) := by decide +kernel
theorem dX2_takeClause_35 : decode cX2_takeClause 35 = .ok (.iconst 4, 1) := by decide +kernel
theorem dX2_takeClause_36 : decode cX2_takeClause 36 = .ok (.iload_n 1, 1) := by decide +kernel
theorem dX2_takeClause_37 : decode cX2_takeClause 37 = .ok (.invokevirtual 52, 3) := by decide +kernel
theorem dX2_takeClause_40 : decode cX2_takeClause 40 = .ok (.goto 34, 3) := by decide +kernel
theorem dX2_takeClause_43 : decode cX2_takeClause 43 = .ok (.iload_n 2, 1) := by decide +kernel
theorem dX2_takeClause_44 : decode cX2_takeClause 44 = .ok (.bipush 25, 2) := by decide +kernel
theorem dX2_takeClause_46 : decode cX2_takeClause 46 = .ok (.if_icmp .ne 10, 3) := by decide +kernel
theorem dX2_takeClause_49 : decode cX2_takeClause 49 = .ok (.aload_n 0, 1) := by decide +kernel
theorem dX2_takeClause_50 : decode cX2_takeClause 50 = .ok (.invokevirtual 56, 3) := by decide +kernel
theorem dX2_takeClause_53 : decode cX2_takeClause 53 = .ok (.goto 21, 3) := by decide +kernel
theorem dX2_takeClause_56 : decode cX2_takeClause 56 = .ok (.aload_n 0, 1) := by decide +kernel
theorem dX2_takeClause_57 : decode cX2_takeClause 57 = .ok (.getfield 11, 3) := by decide +kernel
theorem dX2_takeClause_60 : decode cX2_takeClause 60 = .ok (.iload_n 2, 1) := by decide +kernel
theorem dX2_takeClause_61 : decode cX2_takeClause 61 = .ok (.aload_n 0, 1) := by decide +kernel
theorem dX2_takeClause_62 : decode cX2_takeClause 62 = .ok (.iload_n 2, 1) := by decide +kernel
theorem dX2_takeClause_63 : decode cX2_takeClause 63 = .ok (.invokestatic 59, 3) := by decide +kernel
theorem dX2_takeClause_66 : decode cX2_takeClause 66 = .ok (.iload_n 2, 1) := by decide +kernel
theorem dX2_takeClause_67 : decode cX2_takeClause 67 = .ok (.invokestatic 62, 3) := by decide +kernel
theorem dX2_takeClause_70 : decode cX2_takeClause 70 = .ok (.invokevirtual 65, 3) := by decide +kernel
theorem dX2_takeClause_73 : decode cX2_takeClause 73 = .ok (.iastore, 1) := by decide +kernel
theorem dX2_takeClause_74 : decode cX2_takeClause 74 = .ok (.aload_n 0, 1) := by decide +kernel
theorem dX2_takeClause_75 : decode cX2_takeClause 75 = .ok (.invokevirtual 42, 3) := by decide +kernel
theorem dX2_takeClause_78 : decode cX2_takeClause 78 = .ok (.aload_n 0, 1) := by decide +kernel
theorem dX2_takeClause_79 : decode cX2_takeClause 79 = .ok (.bipush 59, 2) := by decide +kernel
theorem dX2_takeClause_81 : decode cX2_takeClause 81 = .ok (.invokevirtual 69, 3) := by decide +kernel
theorem dX2_takeClause_84 : decode cX2_takeClause 84 = .ok (.ifCond .eq 16, 3) := by decide +kernel
theorem dX2_takeClause_87 : decode cX2_takeClause 87 = .ok (.aload_n 0, 1) := by decide +kernel
theorem dX2_takeClause_88 : decode cX2_takeClause 88 = .ok (.dup, 1) := by decide +kernel
theorem dX2_takeClause_89 : decode cX2_takeClause 89 = .ok (.getfield 29, 3) := by decide +kernel
theorem dX2_takeClause_92 : decode cX2_takeClause 92 = .ok (.iconst 1, 1) := by decide +kernel
theorem dX2_takeClause_93 : decode cX2_takeClause 93 = .ok (.iadd, 1) := by decide +kernel
theorem dX2_takeClause_94 : decode cX2_takeClause 94 = .ok (.putfield 29, 3) := by decide +kernel
theorem dX2_takeClause_97 : decode cX2_takeClause 97 = .ok (.goto 12, 3) := by decide +kernel
theorem dX2_takeClause_100 : decode cX2_takeClause 100 = .ok (.aload_n 0, 1) := by decide +kernel
theorem dX2_takeClause_101 : decode cX2_takeClause 101 = .ok (.iconst 1, 1) := by decide +kernel
theorem dX2_takeClause_102 : decode cX2_takeClause 102 = .ok (.aload_n 0, 1) := by decide +kernel
theorem dX2_takeClause_103 : decode cX2_takeClause 103 = .ok (.getfield 29, 3) := by decide +kernel
theorem dX2_takeClause_106 : decode cX2_takeClause 106 = .ok (.invokevirtual 52, 3) := by decide +kernel
theorem dX2_takeClause_109 : decode cX2_takeClause 109 = .ok (.aload_n 0, 1) := by decide +kernel
theorem dX2_takeClause_110 : decode cX2_takeClause 110 = .ok (.dup, 1) := by decide +kernel
theorem dX2_takeClause_111 : decode cX2_takeClause 111 = .ok (.getfield 32, 3) := by decide +kernel
theorem dX2_takeClause_114 : decode cX2_takeClause 114 = .ok (.iconst 1, 1) := by decide +kernel
theorem dX2_takeClause_115 : decode cX2_takeClause 115 = .ok (.iadd, 1) := by decide +kernel
theorem dX2_takeClause_116 : decode cX2_takeClause 116 = .ok (.putfield 32, 3) := by decide +kernel
theorem dX2_takeClause_119 : decode cX2_takeClause 119 = .ok (.return_, 1) := by decide +kernel
theorem dX2_takeKind_0 : decode cX2_takeKind 0 = .ok (.aload_n 0, 1) := by decide +kernel
theorem dX2_takeKind_1 : decode cX2_takeKind 1 = .ok (.iconst 0, 1) := by decide +kernel
theorem dX2_takeKind_2 : decode cX2_takeKind 2 = .ok (.iconst 3, 1) := by decide +kernel
theorem dX2_takeKind_3 : decode cX2_takeKind 3 = .ok (.invokevirtual 65, 3) := by decide +kernel
theorem dX2_takeKind_6 : decode cX2_takeKind 6 = .ok (.istore_n 1, 1) := by decide +kernel
theorem dX2_takeKind_7 : decode cX2_takeKind 7 = .ok (.iconst 0, 1) := by decide +kernel
theorem dX2_takeKind_8 : decode cX2_takeKind 8 = .ok (.istore_n 2, 1) := by decide +kernel
theorem dX2_takeKind_9 : decode cX2_takeKind 9 = .ok (.iconst 0, 1) := by decide +kernel
theorem dX2_takeKind_10 : decode cX2_takeKind 10 = .ok (.istore_n 3, 1) := by decide +kernel
theorem dX2_takeKind_11 : decode cX2_takeKind 11 = .ok (.iload_n 3, 1) := by decide +kernel
theorem dX2_takeKind_12 : decode cX2_takeKind 12 = .ok (.iconst 5, 1) := by decide +kernel
theorem dX2_takeKind_13 : decode cX2_takeKind 13 = .ok (.if_icmp .gt 123, 3) := by decide +kernel
theorem dX2_takeKind_16 : decode cX2_takeKind 16 = .ok (.aload_n 0, 1) := by decide +kernel
theorem dX2_takeKind_17 : decode cX2_takeKind 17 = .ok (.getfield 35, 3) := by decide +kernel
theorem dX2_takeKind_20 : decode cX2_takeKind 20 = .ok (.ifCond .ne 116, 3) := by decide +kernel
theorem dX2_takeKind_23 : decode cX2_takeKind 23 = .ok (.aload_n 0, 1) := by decide +kernel
theorem dX2_takeKind_24 : decode cX2_takeKind 24 = .ok (.invokevirtual 42, 3) := by decide +kernel
theorem dX2_takeKind_27 : decode cX2_takeKind 27 = .ok (.iload_n 3, 1) := by decide +kernel
theorem dX2_takeKind_28 : decode cX2_takeKind 28 = .ok (.ifCond .le 13, 3) := by decide +kernel
theorem dX2_takeKind_31 : decode cX2_takeKind 31 = .ok (.aload_n 0, 1) := by decide +kernel
theorem dX2_takeKind_32 : decode cX2_takeKind 32 = .ok (.bipush 59, 2) := by decide +kernel
theorem dX2_takeKind_34 : decode cX2_takeKind 34 = .ok (.invokevirtual 69, 3) := by decide +kernel
theorem dX2_takeKind_37 : decode cX2_takeKind 37 = .ok (.ifCond .eq 4, 3) := by decide +kernel
theorem dX2_takeKind_40 : decode cX2_takeKind 40 = .ok (.return_, 1) := by decide +kernel
theorem dX2_takeKind_41 : decode cX2_takeKind 41 = .ok (.aload_n 0, 1) := by decide +kernel
theorem dX2_takeKind_42 : decode cX2_takeKind 42 = .ok (.getfield 29, 3) := by decide +kernel
theorem dX2_takeKind_45 : decode cX2_takeKind 45 = .ok (.istore 4, 2) := by decide +kernel
theorem dX2_takeKind_47 : decode cX2_takeKind 47 = .ok (.aload_n 0, 1) := by decide +kernel
theorem dX2_takeKind_48 : decode cX2_takeKind 48 = .ok (.invokevirtual 48, 3) := by decide +kernel
theorem dX2_takeKind_51 : decode cX2_takeKind 51 = .ok (.istore 5, 2) := by decide +kernel
theorem dX2_takeKind_53 : decode cX2_takeKind 53 = .ok (.iload 5, 2) := by decide +kernel
theorem dX2_takeKind_55 : decode cX2_takeKind 55 = .ok (.ifCond .lt 9, 3) := by decide +kernel
theorem dX2_takeKind_58 : decode cX2_takeKind 58 = .ok (.iload 5, 2) := by decide +kernel
theorem dX2_takeKind_60 : decode cX2_takeKind 60 = .ok (.iconst 5, 1) := by decide +kernel
theorem dX2_takeKind_61 : decode cX2_takeKind 61 = .ok (.if_icmp .lt 13, 3) := by decide +kernel
theorem dX2_takeKind_64 : decode cX2_takeKind 64 = .ok (.aload_n 0, 1) := by decide +kernel
theorem dX2_takeKind_65 : decode cX2_takeKind 65 = .ok (.iconst 1, 1) := by decide +kernel
theorem dX2_takeKind_66 : decode cX2_takeKind 66 = .ok (.iload 4, 2) := by decide +kernel
theorem dX2_takeKind_68 : decode cX2_takeKind 68 = .ok (.invokevirtual 52, 3) := by decide +kernel
theorem dX2_takeKind_71 : decode cX2_takeKind 71 = .ok (.goto 48, 3) := by decide +kernel
theorem dX2_takeKind_74 : decode cX2_takeKind 74 = .ok (.iload_n 2, 1) := by decide +kernel
theorem dX2_takeKind_75 : decode cX2_takeKind 75 = .ok (.iload 5, 2) := by decide +kernel
theorem dX2_takeKind_77 : decode cX2_takeKind 77 = .ok (.ishr, 1) := by decide +kernel
theorem dX2_takeKind_78 : decode cX2_takeKind 78 = .ok (.iconst 1, 1) := by decide +kernel
theorem dX2_takeKind_79 : decode cX2_takeKind 79 = .ok (.iand, 1) := by decide +kernel
theorem dX2_takeKind_80 : decode cX2_takeKind 80 = .ok (.iconst 1, 1) := by decide +kernel
theorem dX2_takeKind_81 : decode cX2_takeKind 81 = .ok (.if_icmp .ne 13, 3) := by decide +kernel
theorem dX2_takeKind_84 : decode cX2_takeKind 84 = .ok (.aload_n 0, 1) := by decide +kernel
theorem dX2_takeKind_85 : decode cX2_takeKind 85 = .ok (.iconst 3, 1) := by decide +kernel
theorem dX2_takeKind_86 : decode cX2_takeKind 86 = .ok (.iload 4, 2) := by decide +kernel
theorem dX2_takeKind_88 : decode cX2_takeKind 88 = .ok (.invokevirtual 52, 3) := by decide +kernel
theorem dX2_takeKind_91 : decode cX2_takeKind 91 = .ok (.goto 28, 3) := by decide +kernel
theorem dX2_takeKind_94 : decode cX2_takeKind 94 = .ok (.aload_n 0, 1) := by decide +kernel
theorem dX2_takeKind_95 : decode cX2_takeKind 95 = .ok (.getfield 11, 3) := by decide +kernel
theorem dX2_takeKind_98 : decode cX2_takeKind 98 = .ok (.iload_n 1, 1) := by decide +kernel
theorem dX2_takeKind_99 : decode cX2_takeKind 99 = .ok (.iconst 5, 1) := by decide +kernel
theorem dX2_takeKind_100 : decode cX2_takeKind 100 = .ok (.imul, 1) := by decide +kernel
theorem dX2_takeKind_101 : decode cX2_takeKind 101 = .ok (.iload 5, 2) := by decide +kernel
theorem dX2_takeKind_103 : decode cX2_takeKind 103 = .ok (.iadd, 1) := by decide +kernel
theorem dX2_takeKind_104 : decode cX2_takeKind 104 = .ok (.aload_n 0, 1) := by decide +kernel
theorem dX2_takeKind_105 : decode cX2_takeKind 105 = .ok (.iload 5, 2) := by decide +kernel
theorem dX2_takeKind_107 : decode cX2_takeKind 107 = .ok (.invokestatic 59, 3) := by decide +kernel
theorem dX2_takeKind_110 : decode cX2_takeKind 110 = .ok (.iload 5, 2) := by decide +kernel
theorem dX2_takeKind_112 : decode cX2_takeKind 112 = .ok (.invokestatic 62, 3) := by decide +kernel
theorem dX2_takeKind_115 : decode cX2_takeKind 115 = .ok (.invokevirtual 65, 3) := by decide +kernel
theorem dX2_takeKind_118 : decode cX2_takeKind 118 = .ok (.iastore, 1) := by decide +kernel
theorem dX2_takeKind_119 : decode cX2_takeKind 119 = .ok (.iload_n 2, 1) := by decide +kernel
theorem dX2_takeKind_120 : decode cX2_takeKind 120 = .ok (.iconst 1, 1) := by decide +kernel
theorem dX2_takeKind_121 : decode cX2_takeKind 121 = .ok (.iconst 0, 1) := by decide +kernel
theorem dX2_takeKind_122 : decode cX2_takeKind 122 = .ok (.iload 5, 2) := by decide +kernel
theorem dX2_takeKind_124 : decode cX2_takeKind 124 = .ok (.invokestatic 73, 3) := by decide +kernel
theorem dX2_takeKind_127 : decode cX2_takeKind 127 = .ok (.ishl, 1) := by decide +kernel
theorem dX2_takeKind_128 : decode cX2_takeKind 128 = .ok (.ior, 1) := by decide +kernel
theorem dX2_takeKind_129 : decode cX2_takeKind 129 = .ok (.istore_n 2, 1) := by decide +kernel
theorem dX2_takeKind_130 : decode cX2_takeKind 130 = .ok (.iinc 3 1, 3) := by decide +kernel
theorem dX2_takeKind_133 : decode cX2_takeKind 133 = .ok (.goto (-122), 3) := by decide +kernel
theorem dX2_takeKind_136 : decode cX2_takeKind 136 = .ok (.return_, 1) := by decide +kernel
theorem dX2_takeNumber_0 : decode cX2_takeNumber 0 = .ok (.aload_n 0, 1) := by decide +kernel
theorem dX2_takeNumber_1 : decode cX2_takeNumber 1 = .ok (.invokevirtual 42, 3) := by decide +kernel
theorem dX2_takeNumber_4 : decode cX2_takeNumber 4 = .ok (.aload_n 0, 1) := by decide +kernel
theorem dX2_takeNumber_5 : decode cX2_takeNumber 5 = .ok (.getfield 29, 3) := by decide +kernel
theorem dX2_takeNumber_8 : decode cX2_takeNumber 8 = .ok (.istore_n 3, 1) := by decide +kernel
theorem dX2_takeNumber_9 : decode cX2_takeNumber 9 = .ok (.iconst 0, 1) := by decide +kernel
theorem dX2_takeNumber_10 : decode cX2_takeNumber 10 = .ok (.istore 4, 2) := by decide +kernel
theorem dX2_takeNumber_12 : decode cX2_takeNumber 12 = .ok (.aload_n 0, 1) := by decide +kernel
theorem dX2_takeNumber_13 : decode cX2_takeNumber 13 = .ok (.getfield 29, 3) := by decide +kernel
theorem dX2_takeNumber_16 : decode cX2_takeNumber 16 = .ok (.aload_n 0, 1) := by decide +kernel
theorem dX2_takeNumber_17 : decode cX2_takeNumber 17 = .ok (.getfield 24, 3) := by decide +kernel
theorem dX2_takeNumber_20 : decode cX2_takeNumber 20 = .ok (.if_icmp .ge 74, 3) := by decide +kernel
theorem dX2_takeNumber_23 : decode cX2_takeNumber 23 = .ok (.aload_n 0, 1) := by decide +kernel
theorem dX2_takeNumber_24 : decode cX2_takeNumber 24 = .ok (.getfield 21, 3) := by decide +kernel
theorem dX2_takeNumber_27 : decode cX2_takeNumber 27 = .ok (.aload_n 0, 1) := by decide +kernel
theorem dX2_takeNumber_28 : decode cX2_takeNumber 28 = .ok (.getfield 29, 3) := by decide +kernel
theorem dX2_takeNumber_31 : decode cX2_takeNumber 31 = .ok (.iaload, 1) := by decide +kernel
theorem dX2_takeNumber_32 : decode cX2_takeNumber 32 = .ok (.bipush 48, 2) := by decide +kernel
theorem dX2_takeNumber_34 : decode cX2_takeNumber 34 = .ok (.if_icmp .lt 60, 3) := by decide +kernel
theorem dX2_takeNumber_37 : decode cX2_takeNumber 37 = .ok (.aload_n 0, 1) := by decide +kernel
theorem dX2_takeNumber_38 : decode cX2_takeNumber 38 = .ok (.getfield 21, 3) := by decide +kernel
theorem dX2_takeNumber_41 : decode cX2_takeNumber 41 = .ok (.aload_n 0, 1) := by decide +kernel
theorem dX2_takeNumber_42 : decode cX2_takeNumber 42 = .ok (.getfield 29, 3) := by decide +kernel
theorem dX2_takeNumber_45 : decode cX2_takeNumber 45 = .ok (.iaload, 1) := by decide +kernel
theorem dX2_takeNumber_46 : decode cX2_takeNumber 46 = .ok (.bipush 57, 2) := by decide +kernel
theorem dX2_takeNumber_48 : decode cX2_takeNumber 48 = .ok (.if_icmp .gt 46, 3) := by decide +kernel
theorem dX2_takeNumber_51 : decode cX2_takeNumber 51 = .ok (.aload_n 0, 1) := by decide +kernel
theorem dX2_takeNumber_52 : decode cX2_takeNumber 52 = .ok (.getfield 29, 3) := by decide +kernel
theorem dX2_takeNumber_55 : decode cX2_takeNumber 55 = .ok (.iload_n 3, 1) := by decide +kernel
theorem dX2_takeNumber_56 : decode cX2_takeNumber 56 = .ok (.isub, 1) := by decide +kernel
theorem dX2_takeNumber_57 : decode cX2_takeNumber 57 = .ok (.iconst 4, 1) := by decide +kernel
theorem dX2_takeNumber_58 : decode cX2_takeNumber 58 = .ok (.if_icmp .ge 23, 3) := by decide +kernel
theorem dX2_takeNumber_61 : decode cX2_takeNumber 61 = .ok (.iload 4, 2) := by decide +kernel
theorem dX2_takeNumber_63 : decode cX2_takeNumber 63 = .ok (.bipush 10, 2) := by decide +kernel
theorem dX2_takeNumber_65 : decode cX2_takeNumber 65 = .ok (.imul, 1) := by decide +kernel
theorem dX2_takeNumber_66 : decode cX2_takeNumber 66 = .ok (.aload_n 0, 1) := by decide +kernel
theorem dX2_takeNumber_67 : decode cX2_takeNumber 67 = .ok (.getfield 21, 3) := by decide +kernel
theorem dX2_takeNumber_70 : decode cX2_takeNumber 70 = .ok (.aload_n 0, 1) := by decide +kernel
theorem dX2_takeNumber_71 : decode cX2_takeNumber 71 = .ok (.getfield 29, 3) := by decide +kernel
theorem dX2_takeNumber_74 : decode cX2_takeNumber 74 = .ok (.iaload, 1) := by decide +kernel
theorem dX2_takeNumber_75 : decode cX2_takeNumber 75 = .ok (.iadd, 1) := by decide +kernel
theorem dX2_takeNumber_76 : decode cX2_takeNumber 76 = .ok (.bipush 48, 2) := by decide +kernel
theorem dX2_takeNumber_78 : decode cX2_takeNumber 78 = .ok (.isub, 1) := by decide +kernel
theorem dX2_takeNumber_79 : decode cX2_takeNumber 79 = .ok (.istore 4, 2) := by decide +kernel
theorem dX2_takeNumber_81 : decode cX2_takeNumber 81 = .ok (.aload_n 0, 1) := by decide +kernel
theorem dX2_takeNumber_82 : decode cX2_takeNumber 82 = .ok (.dup, 1) := by decide +kernel
theorem dX2_takeNumber_83 : decode cX2_takeNumber 83 = .ok (.getfield 29, 3) := by decide +kernel
theorem dX2_takeNumber_86 : decode cX2_takeNumber 86 = .ok (.iconst 1, 1) := by decide +kernel
theorem dX2_takeNumber_87 : decode cX2_takeNumber 87 = .ok (.iadd, 1) := by decide +kernel
theorem dX2_takeNumber_88 : decode cX2_takeNumber 88 = .ok (.putfield 29, 3) := by decide +kernel
theorem dX2_takeNumber_91 : decode cX2_takeNumber 91 = .ok (.goto (-79), 3) := by decide +kernel
theorem dX2_takeNumber_94 : decode cX2_takeNumber 94 = .ok (.aload_n 0, 1) := by decide +kernel
theorem dX2_takeNumber_95 : decode cX2_takeNumber 95 = .ok (.getfield 29, 3) := by decide +kernel
theorem dX2_takeNumber_98 : decode cX2_takeNumber 98 = .ok (.iload_n 3, 1) := by decide +kernel
theorem dX2_takeNumber_99 : decode cX2_takeNumber 99 = .ok (.if_icmp .ne 12, 3) := by decide +kernel
theorem dX2_takeNumber_102 : decode cX2_takeNumber 102 = .ok (.aload_n 0, 1) := by decide +kernel
theorem dX2_takeNumber_103 : decode cX2_takeNumber 103 = .ok (.iconst 1, 1) := by decide +kernel
theorem dX2_takeNumber_104 : decode cX2_takeNumber 104 = .ok (.iload_n 3, 1) := by decide +kernel
theorem dX2_takeNumber_105 : decode cX2_takeNumber 105 = .ok (.invokevirtual 52, 3) := by decide +kernel
theorem dX2_takeNumber_108 : decode cX2_takeNumber 108 = .ok (.goto 29, 3) := by decide +kernel
theorem dX2_takeNumber_111 : decode cX2_takeNumber 111 = .ok (.aload_n 0, 1) := by decide +kernel
theorem dX2_takeNumber_112 : decode cX2_takeNumber 112 = .ok (.getfield 29, 3) := by decide +kernel
theorem dX2_takeNumber_115 : decode cX2_takeNumber 115 = .ok (.iload_n 3, 1) := by decide +kernel
theorem dX2_takeNumber_116 : decode cX2_takeNumber 116 = .ok (.isub, 1) := by decide +kernel
theorem dX2_takeNumber_117 : decode cX2_takeNumber 117 = .ok (.iconst 3, 1) := by decide +kernel
theorem dX2_takeNumber_118 : decode cX2_takeNumber 118 = .ok (.if_icmp .gt 13, 3) := by decide +kernel
theorem dX2_takeNumber_121 : decode cX2_takeNumber 121 = .ok (.iload 4, 2) := by decide +kernel
theorem dX2_takeNumber_123 : decode cX2_takeNumber 123 = .ok (.iload_n 1, 1) := by decide +kernel
theorem dX2_takeNumber_124 : decode cX2_takeNumber 124 = .ok (.iload_n 2, 1) := by decide +kernel
theorem dX2_takeNumber_125 : decode cX2_takeNumber 125 = .ok (.invokestatic 78, 3) := by decide +kernel
theorem dX2_takeNumber_128 : decode cX2_takeNumber 128 = .ok (.ifCond .eq 9, 3) := by decide +kernel
theorem dX2_takeNumber_131 : decode cX2_takeNumber 131 = .ok (.aload_n 0, 1) := by decide +kernel
theorem dX2_takeNumber_132 : decode cX2_takeNumber 132 = .ok (.iconst 2, 1) := by decide +kernel
theorem dX2_takeNumber_133 : decode cX2_takeNumber 133 = .ok (.iload_n 3, 1) := by decide +kernel
theorem dX2_takeNumber_134 : decode cX2_takeNumber 134 = .ok (.invokevirtual 52, 3) := by decide +kernel
theorem dX2_takeNumber_137 : decode cX2_takeNumber 137 = .ok (.aload_n 0, 1) := by decide +kernel
theorem dX2_takeNumber_138 : decode cX2_takeNumber 138 = .ok (.getfield 35, 3) := by decide +kernel
theorem dX2_takeNumber_141 : decode cX2_takeNumber 141 = .ok (.ifCond .ne 8, 3) := by decide +kernel
theorem dX2_takeNumber_144 : decode cX2_takeNumber 144 = .ok (.iload 4, 2) := by decide +kernel
theorem dX2_takeNumber_146 : decode cX2_takeNumber 146 = .ok (.goto 4, 3) := by decide +kernel
theorem dX2_takeNumber_149 : decode cX2_takeNumber 149 = .ok (.iload_n 1, 1) := by decide +kernel
theorem dX2_takeNumber_150 : decode cX2_takeNumber 150 = .ok (.ireturn, 1) := by decide +kernel
theorem dX2_takeWord_0 : decode cX2_takeWord 0 = .ok (.aload_n 0, 1) := by decide +kernel
theorem dX2_takeWord_1 : decode cX2_takeWord 1 = .ok (.getfield 29, 3) := by decide +kernel
theorem dX2_takeWord_4 : decode cX2_takeWord 4 = .ok (.istore_n 1, 1) := by decide +kernel
theorem dX2_takeWord_5 : decode cX2_takeWord 5 = .ok (.aload_n 0, 1) := by decide +kernel
theorem dX2_takeWord_6 : decode cX2_takeWord 6 = .ok (.getfield 29, 3) := by decide +kernel
theorem dX2_takeWord_9 : decode cX2_takeWord 9 = .ok (.aload_n 0, 1) := by decide +kernel
theorem dX2_takeWord_10 : decode cX2_takeWord 10 = .ok (.getfield 24, 3) := by decide +kernel
theorem dX2_takeWord_13 : decode cX2_takeWord 13 = .ok (.if_icmp .ge 44, 3) := by decide +kernel
theorem dX2_takeWord_16 : decode cX2_takeWord 16 = .ok (.aload_n 0, 1) := by decide +kernel
theorem dX2_takeWord_17 : decode cX2_takeWord 17 = .ok (.getfield 21, 3) := by decide +kernel
theorem dX2_takeWord_20 : decode cX2_takeWord 20 = .ok (.aload_n 0, 1) := by decide +kernel
theorem dX2_takeWord_21 : decode cX2_takeWord 21 = .ok (.getfield 29, 3) := by decide +kernel
theorem dX2_takeWord_24 : decode cX2_takeWord 24 = .ok (.iaload, 1) := by decide +kernel
theorem dX2_takeWord_25 : decode cX2_takeWord 25 = .ok (.bipush 97, 2) := by decide +kernel
theorem dX2_takeWord_27 : decode cX2_takeWord 27 = .ok (.if_icmp .lt 30, 3) := by decide +kernel
theorem dX2_takeWord_30 : decode cX2_takeWord 30 = .ok (.aload_n 0, 1) := by decide +kernel
theorem dX2_takeWord_31 : decode cX2_takeWord 31 = .ok (.getfield 21, 3) := by decide +kernel
theorem dX2_takeWord_34 : decode cX2_takeWord 34 = .ok (.aload_n 0, 1) := by decide +kernel
theorem dX2_takeWord_35 : decode cX2_takeWord 35 = .ok (.getfield 29, 3) := by decide +kernel
theorem dX2_takeWord_38 : decode cX2_takeWord 38 = .ok (.iaload, 1) := by decide +kernel
theorem dX2_takeWord_39 : decode cX2_takeWord 39 = .ok (.bipush 122, 2) := by decide +kernel
theorem dX2_takeWord_41 : decode cX2_takeWord 41 = .ok (.if_icmp .gt 16, 3) := by decide +kernel
theorem dX2_takeWord_44 : decode cX2_takeWord 44 = .ok (.aload_n 0, 1) := by decide +kernel
theorem dX2_takeWord_45 : decode cX2_takeWord 45 = .ok (.dup, 1) := by decide +kernel
theorem dX2_takeWord_46 : decode cX2_takeWord 46 = .ok (.getfield 29, 3) := by decide +kernel
theorem dX2_takeWord_49 : decode cX2_takeWord 49 = .ok (.iconst 1, 1) := by decide +kernel
theorem dX2_takeWord_50 : decode cX2_takeWord 50 = .ok (.iadd, 1) := by decide +kernel
theorem dX2_takeWord_51 : decode cX2_takeWord 51 = .ok (.putfield 29, 3) := by decide +kernel
theorem dX2_takeWord_54 : decode cX2_takeWord 54 = .ok (.goto (-49), 3) := by decide +kernel
theorem dX2_takeWord_57 : decode cX2_takeWord 57 = .ok (.iconst 0, 1) := by decide +kernel
theorem dX2_takeWord_58 : decode cX2_takeWord 58 = .ok (.istore_n 2, 1) := by decide +kernel
theorem dX2_takeWord_59 : decode cX2_takeWord 59 = .ok (.iload_n 2, 1) := by decide +kernel
theorem dX2_takeWord_60 : decode cX2_takeWord 60 = .ok (.bipush 25, 2) := by decide +kernel
theorem dX2_takeWord_62 : decode cX2_takeWord 62 = .ok (.if_icmp .gt 27, 3) := by decide +kernel
theorem dX2_takeWord_65 : decode cX2_takeWord 65 = .ok (.aload_n 0, 1) := by decide +kernel
theorem dX2_takeWord_66 : decode cX2_takeWord 66 = .ok (.iload_n 1, 1) := by decide +kernel
theorem dX2_takeWord_67 : decode cX2_takeWord 67 = .ok (.aload_n 0, 1) := by decide +kernel
theorem dX2_takeWord_68 : decode cX2_takeWord 68 = .ok (.getfield 29, 3) := by decide +kernel
theorem dX2_takeWord_71 : decode cX2_takeWord 71 = .ok (.iload_n 2, 1) := by decide +kernel
theorem dX2_takeWord_72 : decode cX2_takeWord 72 = .ok (.invokestatic 82, 3) := by decide +kernel
theorem dX2_takeWord_75 : decode cX2_takeWord 75 = .ok (.invokevirtual 86, 3) := by decide +kernel
theorem dX2_takeWord_78 : decode cX2_takeWord 78 = .ok (.ifCond .eq 5, 3) := by decide +kernel
theorem dX2_takeWord_81 : decode cX2_takeWord 81 = .ok (.iload_n 2, 1) := by decide +kernel
theorem dX2_takeWord_82 : decode cX2_takeWord 82 = .ok (.ireturn, 1) := by decide +kernel
theorem dX2_takeWord_83 : decode cX2_takeWord 83 = .ok (.iinc 2 1, 3) := by decide +kernel
theorem dX2_takeWord_86 : decode cX2_takeWord 86 = .ok (.goto (-27), 3) := by decide +kernel
theorem dX2_takeWord_89 : decode cX2_takeWord 89 = .ok (.iconst (-1), 1) := by decide +kernel
theorem dX2_takeWord_90 : decode cX2_takeWord 90 = .ok (.ireturn, 1) := by decide +kernel
theorem dX2_isSpelt_0 : decode cX2_isSpelt 0 = .ok (.aload_n 3, 1) := by decide +kernel
theorem dX2_isSpelt_1 : decode cX2_isSpelt 1 = .ok (.invokevirtual 90, 3) := by decide +kernel
theorem dX2_isSpelt_4 : decode cX2_isSpelt 4 = .ok (.ifCond .ne 13, 3) := by decide +kernel
theorem dX2_isSpelt_7 : decode cX2_isSpelt 7 = .ok (.aload_n 3, 1) := by decide +kernel
theorem dX2_isSpelt_8 : decode cX2_isSpelt 8 = .ok (.invokevirtual 96, 3) := by decide +kernel
theorem dX2_isSpelt_11 : decode cX2_isSpelt 11 = .ok (.iload_n 2, 1) := by decide +kernel
theorem dX2_isSpelt_12 : decode cX2_isSpelt 12 = .ok (.iload_n 1, 1) := by decide +kernel
theorem dX2_isSpelt_13 : decode cX2_isSpelt 13 = .ok (.isub, 1) := by decide +kernel
theorem dX2_isSpelt_14 : decode cX2_isSpelt 14 = .ok (.if_icmp .eq 5, 3) := by decide +kernel
theorem dX2_isSpelt_17 : decode cX2_isSpelt 17 = .ok (.iconst 0, 1) := by decide +kernel
theorem dX2_isSpelt_18 : decode cX2_isSpelt 18 = .ok (.ireturn, 1) := by decide +kernel
theorem dX2_isSpelt_19 : decode cX2_isSpelt 19 = .ok (.iconst 0, 1) := by decide +kernel
theorem dX2_isSpelt_20 : decode cX2_isSpelt 20 = .ok (.istore 4, 2) := by decide +kernel
theorem dX2_isSpelt_22 : decode cX2_isSpelt 22 = .ok (.iload 4, 2) := by decide +kernel
theorem dX2_isSpelt_24 : decode cX2_isSpelt 24 = .ok (.aload_n 3, 1) := by decide +kernel
theorem dX2_isSpelt_25 : decode cX2_isSpelt 25 = .ok (.invokevirtual 96, 3) := by decide +kernel
theorem dX2_isSpelt_28 : decode cX2_isSpelt 28 = .ok (.if_icmp .ge 29, 3) := by decide +kernel
theorem dX2_isSpelt_31 : decode cX2_isSpelt 31 = .ok (.aload_n 0, 1) := by decide +kernel
theorem dX2_isSpelt_32 : decode cX2_isSpelt 32 = .ok (.getfield 21, 3) := by decide +kernel
theorem dX2_isSpelt_35 : decode cX2_isSpelt 35 = .ok (.iload_n 1, 1) := by decide +kernel
theorem dX2_isSpelt_36 : decode cX2_isSpelt 36 = .ok (.iload 4, 2) := by decide +kernel
theorem dX2_isSpelt_38 : decode cX2_isSpelt 38 = .ok (.iadd, 1) := by decide +kernel
theorem dX2_isSpelt_39 : decode cX2_isSpelt 39 = .ok (.iaload, 1) := by decide +kernel
theorem dX2_isSpelt_40 : decode cX2_isSpelt 40 = .ok (.aload_n 3, 1) := by decide +kernel
theorem dX2_isSpelt_41 : decode cX2_isSpelt 41 = .ok (.iload 4, 2) := by decide +kernel
theorem dX2_isSpelt_43 : decode cX2_isSpelt 43 = .ok (.invokevirtual 98, 3) := by decide +kernel
theorem dX2_isSpelt_46 : decode cX2_isSpelt 46 = .ok (.if_icmp .eq 5, 3) := by decide +kernel
theorem dX2_isSpelt_49 : decode cX2_isSpelt 49 = .ok (.iconst 0, 1) := by decide +kernel
theorem dX2_isSpelt_50 : decode cX2_isSpelt 50 = .ok (.ireturn, 1) := by decide +kernel
theorem dX2_isSpelt_51 : decode cX2_isSpelt 51 = .ok (.iinc 4 1, 3) := by decide +kernel
theorem dX2_isSpelt_54 : decode cX2_isSpelt 54 = .ok (.goto (-32), 3) := by decide +kernel
theorem dX2_isSpelt_57 : decode cX2_isSpelt 57 = .ok (.iconst 1, 1) := by decide +kernel
theorem dX2_isSpelt_58 : decode cX2_isSpelt 58 = .ok (.ireturn, 1) := by decide +kernel
theorem dX2_spelling_0 : decode cX2_spelling 0 = .ok (.iload_n 0, 1) := by decide +kernel
theorem dX2_spelling_1 : decode cX2_spelling 1 = .ok (.tableswitch 152 0 25 #[119, 122, 125, 128, 131, 152, 152, 152, 152, 152, 152, 152, 152, 152, 152, 152, 152, 152, 152, 152, 134, 137, 140, 143, 146, 149], 119) := by decide +kernel
theorem dX2_spelling_120 : decode cX2_spelling 120 = .ok (.ldc 102, 2) := by decide +kernel
theorem dX2_spelling_122 : decode cX2_spelling 122 = .ok (.areturn, 1) := by decide +kernel
theorem dX2_spelling_123 : decode cX2_spelling 123 = .ok (.ldc 104, 2) := by decide +kernel
theorem dX2_spelling_125 : decode cX2_spelling 125 = .ok (.areturn, 1) := by decide +kernel
theorem dX2_spelling_126 : decode cX2_spelling 126 = .ok (.ldc 106, 2) := by decide +kernel
theorem dX2_spelling_128 : decode cX2_spelling 128 = .ok (.areturn, 1) := by decide +kernel
theorem dX2_spelling_129 : decode cX2_spelling 129 = .ok (.ldc 108, 2) := by decide +kernel
theorem dX2_spelling_131 : decode cX2_spelling 131 = .ok (.areturn, 1) := by decide +kernel
theorem dX2_spelling_132 : decode cX2_spelling 132 = .ok (.ldc 110, 2) := by decide +kernel
theorem dX2_spelling_134 : decode cX2_spelling 134 = .ok (.areturn, 1) := by decide +kernel
theorem dX2_spelling_135 : decode cX2_spelling 135 = .ok (.ldc 112, 2) := by decide +kernel
theorem dX2_spelling_137 : decode cX2_spelling 137 = .ok (.areturn, 1) := by decide +kernel
theorem dX2_spelling_138 : decode cX2_spelling 138 = .ok (.ldc 114, 2) := by decide +kernel
theorem dX2_spelling_140 : decode cX2_spelling 140 = .ok (.areturn, 1) := by decide +kernel
theorem dX2_spelling_141 : decode cX2_spelling 141 = .ok (.ldc 116, 2) := by decide +kernel
theorem dX2_spelling_143 : decode cX2_spelling 143 = .ok (.areturn, 1) := by decide +kernel
theorem dX2_spelling_144 : decode cX2_spelling 144 = .ok (.ldc 118, 2) := by decide +kernel
theorem dX2_spelling_146 : decode cX2_spelling 146 = .ok (.areturn, 1) := by decide +kernel
theorem dX2_spelling_147 : decode cX2_spelling 147 = .ok (.ldc 120, 2) := by decide +kernel
theorem dX2_spelling_149 : decode cX2_spelling 149 = .ok (.areturn, 1) := by decide +kernel
theorem dX2_spelling_150 : decode cX2_spelling 150 = .ok (.ldc 122, 2) := by decide +kernel
theorem dX2_spelling_152 : decode cX2_spelling 152 = .ok (.areturn, 1) := by decide +kernel
theorem dX2_spelling_153 : decode cX2_spelling 153 = .ok (.ldc 124, 2) := by decide +kernel
theorem dX2_spelling_155 : decode cX2_spelling 155 = .ok (.areturn, 1) := by decide +kernel
theorem dX3_init_0 : decode cX3_init 0 = .ok (.aload_n 0, 1) := by decide +kernel
theorem dX3_init_1 : decode cX3_init 1 = .ok (.invokespecial 1, 3) := by decide +kernel
theorem dX3_init_4 : decode cX3_init 4 = .ok (.aload_n 0, 1) := by decide +kernel
theorem dX3_init_5 : decode cX3_init 5 = .ok (.bipush 25, 2) := by decide +kernel
theorem dX3_init_7 : decode cX3_init 7 = .ok (.newarray .int, 2) := by decide +kernel
theorem dX3_init_9 : decode cX3_init 9 = .ok (.putfield 9, 3) := by decide +kernel
theorem dX3_init_12 : decode cX3_init 12 = .ok (.iconst 0, 1) := by decide +kernel
theorem dX3_init_13 : decode cX3_init 13 = .ok (.istore_n 1, 1) := by decide +kernel
theorem dX3_init_14 : decode cX3_init 14 = .ok (.iload_n 1, 1) := by decide +kernel
theorem dX3_init_15 : decode cX3_init 15 = .ok (.bipush 25, 2) := by decide +kernel
theorem dX3_init_17 : decode cX3_init 17 = .ok (.if_icmp .ge 19, 3) := by decide +kernel
theorem dX3_init_20 : decode cX3_init 20 = .ok (.aload_n 0, 1) := by decide +kernel
theorem dX3_init_21 : decode cX3_init 21 = .ok (.getfield 9, 3) := by decide +kernel
theorem dX3_init_24 : decode cX3_init 24 = .ok (.iload_n 1, 1) := by decide +kernel
theorem dX3_init_25 : decode cX3_init 25 = .ok (.iload_n 1, 1) := by decide +kernel
theorem dX3_init_26 : decode cX3_init 26 = .ok (.invokestatic 13, 3) := by decide +kernel
theorem dX3_init_29 : decode cX3_init 29 = .ok (.iastore, 1) := by decide +kernel
theorem dX3_init_30 : decode cX3_init 30 = .ok (.iinc 1 1, 3) := by decide +kernel
theorem dX3_init_33 : decode cX3_init 33 = .ok (.goto (-19), 3) := by decide +kernel
theorem dX3_init_36 : decode cX3_init 36 = .ok (.return_, 1) := by decide +kernel
theorem dX3_first_0 : decode cX3_first 0 = .ok (.getstatic 17, 3) := by decide +kernel
theorem dX3_first_3 : decode cX3_first 3 = .ok (.iload_n 0, 1) := by decide +kernel
theorem dX3_first_4 : decode cX3_first 4 = .ok (.invokestatic 20, 3) := by decide +kernel
theorem dX3_first_7 : decode cX3_first 7 = .ok (.iaload, 1) := by decide +kernel
theorem dX3_first_8 : decode cX3_first 8 = .ok (.ireturn, 1) := by decide +kernel
theorem dX3_lowest_0 : decode cX3_lowest 0 = .ok (.getstatic 23, 3) := by decide +kernel
theorem dX3_lowest_3 : decode cX3_lowest 3 = .ok (.iload_n 0, 1) := by decide +kernel
theorem dX3_lowest_4 : decode cX3_lowest 4 = .ok (.invokestatic 20, 3) := by decide +kernel
theorem dX3_lowest_7 : decode cX3_lowest 7 = .ok (.iaload, 1) := by decide +kernel
theorem dX3_lowest_8 : decode cX3_lowest 8 = .ok (.ireturn, 1) := by decide +kernel
theorem dX3_highest_0 : decode cX3_highest 0 = .ok (.getstatic 26, 3) := by decide +kernel
theorem dX3_highest_3 : decode cX3_highest 3 = .ok (.iload_n 0, 1) := by decide +kernel
theorem dX3_highest_4 : decode cX3_highest 4 = .ok (.invokestatic 20, 3) := by decide +kernel
theorem dX3_highest_7 : decode cX3_highest 7 = .ok (.iaload, 1) := by decide +kernel
theorem dX3_highest_8 : decode cX3_highest 8 = .ok (.ireturn, 1) := by decide +kernel
theorem dX3_entry_0 : decode cX3_entry 0 = .ok (.iload_n 0, 1) := by decide +kernel
theorem dX3_entry_1 : decode cX3_entry 1 = .ok (.bipush 20, 2) := by decide +kernel
theorem dX3_entry_3 : decode cX3_entry 3 = .ok (.if_icmp .ge 9, 3) := by decide +kernel
theorem dX3_entry_6 : decode cX3_entry 6 = .ok (.iload_n 0, 1) := by decide +kernel
theorem dX3_entry_7 : decode cX3_entry 7 = .ok (.iconst 5, 1) := by decide +kernel
theorem dX3_entry_8 : decode cX3_entry 8 = .ok (.irem, 1) := by decide +kernel
theorem dX3_entry_9 : decode cX3_entry 9 = .ok (.goto 9, 3) := by decide +kernel
theorem dX3_entry_12 : decode cX3_entry 12 = .ok (.iload_n 0, 1) := by decide +kernel
theorem dX3_entry_13 : decode cX3_entry 13 = .ok (.bipush 20, 2) := by decide +kernel
theorem dX3_entry_15 : decode cX3_entry 15 = .ok (.isub, 1) := by decide +kernel
theorem dX3_entry_16 : decode cX3_entry 16 = .ok (.iconst 5, 1) := by decide +kernel
theorem dX3_entry_17 : decode cX3_entry 17 = .ok (.iadd, 1) := by decide +kernel
theorem dX3_entry_18 : decode cX3_entry 18 = .ok (.ireturn, 1) := by decide +kernel
theorem dX3_become_0 : decode cX3_become 0 = .ok (.aload_n 1, 1) := by decide +kernel
theorem dX3_become_1 : decode cX3_become 1 = .ok (.iconst 0, 1) := by decide +kernel
theorem dX3_become_2 : decode cX3_become 2 = .ok (.aload_n 0, 1) := by decide +kernel
theorem dX3_become_3 : decode cX3_become 3 = .ok (.getfield 9, 3) := by decide +kernel
theorem dX3_become_6 : decode cX3_become 6 = .ok (.iconst 0, 1) := by decide +kernel
theorem dX3_become_7 : decode cX3_become 7 = .ok (.bipush 25, 2) := by decide +kernel
theorem dX3_become_9 : decode cX3_become 9 = .ok (.invokestatic 29, 3) := by decide +kernel
theorem dX3_become_12 : decode cX3_become 12 = .ok (.return_, 1) := by decide +kernel
theorem dX3_dry_0 : decode cX3_dry 0 = .ok (.aload_n 0, 1) := by decide +kernel
theorem dX3_dry_1 : decode cX3_dry 1 = .ok (.getfield 9, 3) := by decide +kernel
theorem dX3_dry_4 : decode cX3_dry 4 = .ok (.bipush 20, 2) := by decide +kernel
theorem dX3_dry_6 : decode cX3_dry 6 = .ok (.iaload, 1) := by decide +kernel
theorem dX3_dry_7 : decode cX3_dry 7 = .ok (.ireturn, 1) := by decide +kernel
theorem dX3_unitWeight_0 : decode cX3_unitWeight 0 = .ok (.iload_n 1, 1) := by decide +kernel
theorem dX3_unitWeight_1 : decode cX3_unitWeight 1 = .ok (.ifCond .eq 13, 3) := by decide +kernel
theorem dX3_unitWeight_4 : decode cX3_unitWeight 4 = .ok (.aload_n 0, 1) := by decide +kernel
theorem dX3_unitWeight_5 : decode cX3_unitWeight 5 = .ok (.getfield 9, 3) := by decide +kernel
theorem dX3_unitWeight_8 : decode cX3_unitWeight 8 = .ok (.bipush 21, 2) := by decide +kernel
theorem dX3_unitWeight_10 : decode cX3_unitWeight 10 = .ok (.iaload, 1) := by decide +kernel
theorem dX3_unitWeight_11 : decode cX3_unitWeight 11 = .ok (.goto 10, 3) := by decide +kernel
theorem dX3_unitWeight_14 : decode cX3_unitWeight 14 = .ok (.aload_n 0, 1) := by decide +kernel
theorem dX3_unitWeight_15 : decode cX3_unitWeight 15 = .ok (.getfield 9, 3) := by decide +kernel
theorem dX3_unitWeight_18 : decode cX3_unitWeight 18 = .ok (.bipush 20, 2) := by decide +kernel
theorem dX3_unitWeight_20 : decode cX3_unitWeight 20 = .ok (.iaload, 1) := by decide +kernel
theorem dX3_unitWeight_21 : decode cX3_unitWeight 21 = .ok (.ireturn, 1) := by decide +kernel
theorem dX3_flow_0 : decode cX3_flow 0 = .ok (.aload_n 0, 1) := by decide +kernel
theorem dX3_flow_1 : decode cX3_flow 1 = .ok (.getfield 9, 3) := by decide +kernel
theorem dX3_flow_4 : decode cX3_flow 4 = .ok (.bipush 22, 2) := by decide +kernel
theorem dX3_flow_6 : decode cX3_flow 6 = .ok (.iaload, 1) := by decide +kernel
theorem dX3_flow_7 : decode cX3_flow 7 = .ok (.ireturn, 1) := by decide +kernel
theorem dX3_mark_0 : decode cX3_mark 0 = .ok (.aload_n 0, 1) := by decide +kernel
theorem dX3_mark_1 : decode cX3_mark 1 = .ok (.getfield 9, 3) := by decide +kernel
theorem dX3_mark_4 : decode cX3_mark 4 = .ok (.bipush 23, 2) := by decide +kernel
theorem dX3_mark_6 : decode cX3_mark 6 = .ok (.iaload, 1) := by decide +kernel
theorem dX3_mark_7 : decode cX3_mark 7 = .ok (.ireturn, 1) := by decide +kernel
theorem dX3_after_0 : decode cX3_after 0 = .ok (.aload_n 0, 1) := by decide +kernel
theorem dX3_after_1 : decode cX3_after 1 = .ok (.getfield 9, 3) := by decide +kernel
theorem dX3_after_4 : decode cX3_after 4 = .ok (.bipush 24, 2) := by decide +kernel
theorem dX3_after_6 : decode cX3_after 6 = .ok (.iaload, 1) := by decide +kernel
theorem dX3_after_7 : decode cX3_after 7 = .ok (.ireturn, 1) := by decide +kernel
theorem dX4_init_0 : decode cX4_init 0 = .ok (.aload_n 0, 1) := by decide +kernel
theorem dX4_init_1 : decode cX4_init 1 = .ok (.invokespecial 3, 3) := by decide +kernel
theorem dX4_init_4 : decode cX4_init 4 = .ok (.aload_n 0, 1) := by decide +kernel
theorem dX4_init_5 : decode cX4_init 5 = .ok (.bipush 6, 2) := by decide +kernel
theorem dX4_init_7 : decode cX4_init 7 = .ok (.newarray .int, 2) := by decide +kernel
theorem dX4_init_9 : decode cX4_init 9 = .ok (.putfield 9, 3) := by decide +kernel
theorem dX4_init_12 : decode cX4_init 12 = .ok (.aload_n 0, 1) := by decide +kernel
theorem dX4_init_13 : decode cX4_init 13 = .ok (.bipush 6, 2) := by decide +kernel
theorem dX4_init_15 : decode cX4_init 15 = .ok (.newarray .int, 2) := by decide +kernel
theorem dX4_init_17 : decode cX4_init 17 = .ok (.putfield 15, 3) := by decide +kernel
theorem dX4_init_20 : decode cX4_init 20 = .ok (.aload_n 0, 1) := by decide +kernel
theorem dX4_init_21 : decode cX4_init 21 = .ok (.sipush 180, 3) := by decide +kernel
theorem dX4_init_24 : decode cX4_init 24 = .ok (.newarray .int, 2) := by decide +kernel
theorem dX4_init_26 : decode cX4_init 26 = .ok (.putfield 18, 3) := by decide +kernel
theorem dX4_init_29 : decode cX4_init 29 = .ok (.return_, 1) := by decide +kernel
theorem dX4_hasShake_0 : decode cX4_hasShake 0 = .ok (.iload_n 1, 1) := by decide +kernel
theorem dX4_hasShake_1 : decode cX4_hasShake 1 = .ok (.ifCond .lt 15, 3) := by decide +kernel
theorem dX4_hasShake_4 : decode cX4_hasShake 4 = .ok (.iload_n 1, 1) := by decide +kernel
theorem dX4_hasShake_5 : decode cX4_hasShake 5 = .ok (.aload_n 0, 1) := by decide +kernel
theorem dX4_hasShake_6 : decode cX4_hasShake 6 = .ok (.getfield 21, 3) := by decide +kernel
theorem dX4_hasShake_9 : decode cX4_hasShake 9 = .ok (.if_icmp .ge 7, 3) := by decide +kernel
theorem dX4_hasShake_12 : decode cX4_hasShake 12 = .ok (.iconst 1, 1) := by decide +kernel
theorem dX4_hasShake_13 : decode cX4_hasShake 13 = .ok (.goto 4, 3) := by decide +kernel
theorem dX4_hasShake_16 : decode cX4_hasShake 16 = .ok (.iconst 0, 1) := by decide +kernel
theorem dX4_hasShake_17 : decode cX4_hasShake 17 = .ok (.ireturn, 1) := by decide +kernel
theorem dX4_addShake_0 : decode cX4_addShake 0 = .ok (.aload_n 0, 1) := by decide +kernel
theorem dX4_addShake_1 : decode cX4_addShake 1 = .ok (.getfield 9, 3) := by decide +kernel
theorem dX4_addShake_4 : decode cX4_addShake 4 = .ok (.aload_n 0, 1) := by decide +kernel
theorem dX4_addShake_5 : decode cX4_addShake 5 = .ok (.getfield 21, 3) := by decide +kernel
theorem dX4_addShake_8 : decode cX4_addShake 8 = .ok (.iload_n 1, 1) := by decide +kernel
theorem dX4_addShake_9 : decode cX4_addShake 9 = .ok (.iastore, 1) := by decide +kernel
theorem dX4_addShake_10 : decode cX4_addShake 10 = .ok (.aload_n 0, 1) := by decide +kernel
theorem dX4_addShake_11 : decode cX4_addShake 11 = .ok (.dup, 1) := by decide +kernel
theorem dX4_addShake_12 : decode cX4_addShake 12 = .ok (.getfield 21, 3) := by decide +kernel
theorem dX4_addShake_15 : decode cX4_addShake 15 = .ok (.iconst 1, 1) := by decide +kernel
theorem dX4_addShake_16 : decode cX4_addShake 16 = .ok (.iadd, 1) := by decide +kernel
theorem dX4_addShake_17 : decode cX4_addShake 17 = .ok (.putfield 21, 3) := by decide +kernel
theorem dX4_addShake_20 : decode cX4_addShake 20 = .ok (.aload_n 0, 1) := by decide +kernel
theorem dX4_addShake_21 : decode cX4_addShake 21 = .ok (.getfield 21, 3) := by decide +kernel
theorem dX4_addShake_24 : decode cX4_addShake 24 = .ok (.iconst 1, 1) := by decide +kernel
theorem dX4_addShake_25 : decode cX4_addShake 25 = .ok (.isub, 1) := by decide +kernel
theorem dX4_addShake_26 : decode cX4_addShake 26 = .ok (.ireturn, 1) := by decide +kernel
theorem dX4_addBeat_0 : decode cX4_addBeat 0 = .ok (.aload_n 0, 1) := by decide +kernel
theorem dX4_addBeat_1 : decode cX4_addBeat 1 = .ok (.getfield 18, 3) := by decide +kernel
theorem dX4_addBeat_4 : decode cX4_addBeat 4 = .ok (.iload_n 1, 1) := by decide +kernel
theorem dX4_addBeat_5 : decode cX4_addBeat 5 = .ok (.bipush 30, 2) := by decide +kernel
theorem dX4_addBeat_7 : decode cX4_addBeat 7 = .ok (.imul, 1) := by decide +kernel
theorem dX4_addBeat_8 : decode cX4_addBeat 8 = .ok (.aload_n 0, 1) := by decide +kernel
theorem dX4_addBeat_9 : decode cX4_addBeat 9 = .ok (.getfield 15, 3) := by decide +kernel
theorem dX4_addBeat_12 : decode cX4_addBeat 12 = .ok (.iload_n 1, 1) := by decide +kernel
theorem dX4_addBeat_13 : decode cX4_addBeat 13 = .ok (.iaload, 1) := by decide +kernel
theorem dX4_addBeat_14 : decode cX4_addBeat 14 = .ok (.iadd, 1) := by decide +kernel
theorem dX4_addBeat_15 : decode cX4_addBeat 15 = .ok (.iload_n 2, 1) := by decide +kernel
theorem dX4_addBeat_16 : decode cX4_addBeat 16 = .ok (.iastore, 1) := by decide +kernel
theorem dX4_addBeat_17 : decode cX4_addBeat 17 = .ok (.aload_n 0, 1) := by decide +kernel
theorem dX4_addBeat_18 : decode cX4_addBeat 18 = .ok (.getfield 15, 3) := by decide +kernel
theorem dX4_addBeat_21 : decode cX4_addBeat 21 = .ok (.iload_n 1, 1) := by decide +kernel
theorem dX4_addBeat_22 : decode cX4_addBeat 22 = .ok (.dup2, 1) := by decide +kernel
theorem dX4_addBeat_23 : decode cX4_addBeat 23 = .ok (.iaload, 1) := by decide +kernel
theorem dX4_addBeat_24 : decode cX4_addBeat 24 = .ok (.iconst 1, 1) := by decide +kernel
theorem dX4_addBeat_25 : decode cX4_addBeat 25 = .ok (.iadd, 1) := by decide +kernel
theorem dX4_addBeat_26 : decode cX4_addBeat 26 = .ok (.iastore, 1) := by decide +kernel
theorem dX4_addBeat_27 : decode cX4_addBeat 27 = .ok (.aload_n 0, 1) := by decide +kernel
theorem dX4_addBeat_28 : decode cX4_addBeat 28 = .ok (.getfield 15, 3) := by decide +kernel
theorem dX4_addBeat_31 : decode cX4_addBeat 31 = .ok (.iload_n 1, 1) := by decide +kernel
theorem dX4_addBeat_32 : decode cX4_addBeat 32 = .ok (.iaload, 1) := by decide +kernel
theorem dX4_addBeat_33 : decode cX4_addBeat 33 = .ok (.ireturn, 1) := by decide +kernel
theorem dX5_init_0 : decode cX5_init 0 = .ok (.aload_n 0, 1) := by decide +kernel
theorem dX5_init_1 : decode cX5_init 1 = .ok (.invokespecial 3, 3) := by decide +kernel
theorem dX5_init_4 : decode cX5_init 4 = .ok (.aload_n 0, 1) := by decide +kernel
theorem dX5_init_5 : decode cX5_init 5 = .ok (.bipush 36, 2) := by decide +kernel
theorem dX5_init_7 : decode cX5_init 7 = .ok (.newarray .int, 2) := by decide +kernel
theorem dX5_init_9 : decode cX5_init 9 = .ok (.putfield 9, 3) := by decide +kernel
theorem dX5_init_12 : decode cX5_init 12 = .ok (.return_, 1) := by decide +kernel
theorem dX5_begin_0 : decode cX5_begin 0 = .ok (.iload_n 3, 1) := by decide +kernel
theorem dX5_begin_1 : decode cX5_begin 1 = .ok (.istore 5, 2) := by decide +kernel
theorem dX5_begin_3 : decode cX5_begin 3 = .ok (.iload 5, 2) := by decide +kernel
theorem dX5_begin_5 : decode cX5_begin 5 = .ok (.iload 4, 2) := by decide +kernel
theorem dX5_begin_7 : decode cX5_begin 7 = .ok (.if_icmp .gt 59, 3) := by decide +kernel
theorem dX5_begin_10 : decode cX5_begin 10 = .ok (.aload_n 1, 1) := by decide +kernel
theorem dX5_begin_11 : decode cX5_begin 11 = .ok (.iload 5, 2) := by decide +kernel
theorem dX5_begin_13 : decode cX5_begin 13 = .ok (.iload_n 2, 1) := by decide +kernel
theorem dX5_begin_14 : decode cX5_begin 14 = .ok (.invokevirtual 15, 3) := by decide +kernel
theorem dX5_begin_17 : decode cX5_begin 17 = .ok (.iconst 0, 1) := by decide +kernel
theorem dX5_begin_18 : decode cX5_begin 18 = .ok (.istore 6, 2) := by decide +kernel
theorem dX5_begin_20 : decode cX5_begin 20 = .ok (.iload 6, 2) := by decide +kernel
theorem dX5_begin_22 : decode cX5_begin 22 = .ok (.aload_n 1, 1) := by decide +kernel
theorem dX5_begin_23 : decode cX5_begin 23 = .ok (.getfield 21, 3) := by decide +kernel
theorem dX5_begin_26 : decode cX5_begin 26 = .ok (.getfield 25, 3) := by decide +kernel
theorem dX5_begin_29 : decode cX5_begin 29 = .ok (.iload 5, 2) := by decide +kernel
theorem dX5_begin_31 : decode cX5_begin 31 = .ok (.iaload, 1) := by decide +kernel
theorem dX5_begin_32 : decode cX5_begin 32 = .ok (.if_icmp .ge 28, 3) := by decide +kernel
theorem dX5_begin_35 : decode cX5_begin 35 = .ok (.aload_n 0, 1) := by decide +kernel
theorem dX5_begin_36 : decode cX5_begin 36 = .ok (.getfield 9, 3) := by decide +kernel
theorem dX5_begin_39 : decode cX5_begin 39 = .ok (.iload 5, 2) := by decide +kernel
theorem dX5_begin_41 : decode cX5_begin 41 = .ok (.bipush 6, 2) := by decide +kernel
theorem dX5_begin_43 : decode cX5_begin 43 = .ok (.imul, 1) := by decide +kernel
theorem dX5_begin_44 : decode cX5_begin 44 = .ok (.iload 6, 2) := by decide +kernel
theorem dX5_begin_46 : decode cX5_begin 46 = .ok (.iadd, 1) := by decide +kernel
theorem dX5_begin_47 : decode cX5_begin 47 = .ok (.aload_n 1, 1) := by decide +kernel
theorem dX5_begin_48 : decode cX5_begin 48 = .ok (.iload 6, 2) := by decide +kernel
theorem dX5_begin_50 : decode cX5_begin 50 = .ok (.invokevirtual 30, 3) := by decide +kernel
theorem dX5_begin_53 : decode cX5_begin 53 = .ok (.iastore, 1) := by decide +kernel
theorem dX5_begin_54 : decode cX5_begin 54 = .ok (.iinc 6 1, 3) := by decide +kernel
theorem dX5_begin_57 : decode cX5_begin 57 = .ok (.goto (-37), 3) := by decide +kernel
theorem dX5_begin_60 : decode cX5_begin 60 = .ok (.iinc 5 1, 3) := by decide +kernel
theorem dX5_begin_63 : decode cX5_begin 63 = .ok (.goto (-60), 3) := by decide +kernel
theorem dX5_begin_66 : decode cX5_begin 66 = .ok (.return_, 1) := by decide +kernel
theorem dX5_weigh_0 : decode cX5_weigh 0 = .ok (.aload_n 0, 1) := by decide +kernel
theorem dX5_weigh_1 : decode cX5_weigh 1 = .ok (.lconst 0, 1) := by decide +kernel
theorem dX5_weigh_2 : decode cX5_weigh 2 = .ok (.putfield 34, 3) := by decide +kernel
theorem dX5_weigh_5 : decode cX5_weigh 5 = .ok (.iload_n 2, 1) := by decide +kernel
theorem dX5_weigh_6 : decode cX5_weigh 6 = .ok (.iload_n 3, 1) := by decide +kernel
theorem dX5_weigh_7 : decode cX5_weigh 7 = .ok (.invokestatic 38, 3) := by decide +kernel
theorem dX5_weigh_10 : decode cX5_weigh 10 = .ok (.istore 5, 2) := by decide +kernel
theorem dX5_weigh_12 : decode cX5_weigh 12 = .ok (.iload 5, 2) := by decide +kernel
theorem dX5_weigh_14 : decode cX5_weigh 14 = .ok (.iload_n 2, 1) := by decide +kernel
theorem dX5_weigh_15 : decode cX5_weigh 15 = .ok (.iload_n 3, 1) := by decide +kernel
theorem dX5_weigh_16 : decode cX5_weigh 16 = .ok (.invokestatic 44, 3) := by decide +kernel
theorem dX5_weigh_19 : decode cX5_weigh 19 = .ok (.if_icmp .gt 53, 3) := by decide +kernel
theorem dX5_weigh_22 : decode cX5_weigh 22 = .ok (.aload_n 1, 1) := by decide +kernel
theorem dX5_weigh_23 : decode cX5_weigh 23 = .ok (.getfield 21, 3) := by decide +kernel
theorem dX5_weigh_26 : decode cX5_weigh 26 = .ok (.iload 5, 2) := by decide +kernel
theorem dX5_weigh_28 : decode cX5_weigh 28 = .ok (.iload 4, 2) := by decide +kernel
theorem dX5_weigh_30 : decode cX5_weigh 30 = .ok (.invokevirtual 47, 3) := by decide +kernel
theorem dX5_weigh_33 : decode cX5_weigh 33 = .ok (.istore 6, 2) := by decide +kernel
theorem dX5_weigh_35 : decode cX5_weigh 35 = .ok (.iload 6, 2) := by decide +kernel
theorem dX5_weigh_37 : decode cX5_weigh 37 = .ok (.iconst (-1), 1) := by decide +kernel
theorem dX5_weigh_38 : decode cX5_weigh 38 = .ok (.if_icmp .ne 5, 3) := by decide +kernel
theorem dX5_weigh_41 : decode cX5_weigh 41 = .ok (.iconst 0, 1) := by decide +kernel
theorem dX5_weigh_42 : decode cX5_weigh 42 = .ok (.ireturn, 1) := by decide +kernel
theorem dX5_weigh_43 : decode cX5_weigh 43 = .ok (.aload_n 0, 1) := by decide +kernel
theorem dX5_weigh_44 : decode cX5_weigh 44 = .ok (.dup, 1) := by decide +kernel
theorem dX5_weigh_45 : decode cX5_weigh 45 = .ok (.getfield 34, 3) := by decide +kernel
theorem dX5_weigh_48 : decode cX5_weigh 48 = .ok (.aload_n 0, 1) := by decide +kernel
theorem dX5_weigh_49 : decode cX5_weigh 49 = .ok (.getfield 9, 3) := by decide +kernel
theorem dX5_weigh_52 : decode cX5_weigh 52 = .ok (.iload 5, 2) := by decide +kernel
theorem dX5_weigh_54 : decode cX5_weigh 54 = .ok (.bipush 6, 2) := by decide +kernel
theorem dX5_weigh_56 : decode cX5_weigh 56 = .ok (.imul, 1) := by decide +kernel
theorem dX5_weigh_57 : decode cX5_weigh 57 = .ok (.iload 6, 2) := by decide +kernel
theorem dX5_weigh_59 : decode cX5_weigh 59 = .ok (.iadd, 1) := by decide +kernel
theorem dX5_weigh_60 : decode cX5_weigh 60 = .ok (.iaload, 1) := by decide +kernel
theorem dX5_weigh_61 : decode cX5_weigh 61 = .ok (.i2l, 1) := by decide +kernel
theorem dX5_weigh_62 : decode cX5_weigh 62 = .ok (.ladd, 1) := by decide +kernel
theorem dX5_weigh_63 : decode cX5_weigh 63 = .ok (.putfield 34, 3) := by decide +kernel
theorem dX5_weigh_66 : decode cX5_weigh 66 = .ok (.iinc 5 1, 3) := by decide +kernel
theorem dX5_weigh_69 : decode cX5_weigh 69 = .ok (.goto (-57), 3) := by decide +kernel
theorem dX5_weigh_72 : decode cX5_weigh 72 = .ok (.aload_n 0, 1) := by decide +kernel
theorem dX5_weigh_73 : decode cX5_weigh 73 = .ok (.aload_n 1, 1) := by decide +kernel
theorem dX5_weigh_74 : decode cX5_weigh 74 = .ok (.getfield 21, 3) := by decide +kernel
theorem dX5_weigh_77 : decode cX5_weigh 77 = .ok (.iload_n 2, 1) := by decide +kernel
theorem dX5_weigh_78 : decode cX5_weigh 78 = .ok (.iload 4, 2) := by decide +kernel
theorem dX5_weigh_80 : decode cX5_weigh 80 = .ok (.aload_n 1, 1) := by decide +kernel
theorem dX5_weigh_81 : decode cX5_weigh 81 = .ok (.getfield 50, 3) := by decide +kernel
theorem dX5_weigh_84 : decode cX5_weigh 84 = .ok (.invokevirtual 54, 3) := by decide +kernel
theorem dX5_weigh_87 : decode cX5_weigh 87 = .ok (.aload_n 1, 1) := by decide +kernel
theorem dX5_weigh_88 : decode cX5_weigh 88 = .ok (.getfield 21, 3) := by decide +kernel
theorem dX5_weigh_91 : decode cX5_weigh 91 = .ok (.iload_n 3, 1) := by decide +kernel
theorem dX5_weigh_92 : decode cX5_weigh 92 = .ok (.iload 4, 2) := by decide +kernel
theorem dX5_weigh_94 : decode cX5_weigh 94 = .ok (.aload_n 1, 1) := by decide +kernel
theorem dX5_weigh_95 : decode cX5_weigh 95 = .ok (.getfield 50, 3) := by decide +kernel
theorem dX5_weigh_98 : decode cX5_weigh 98 = .ok (.invokevirtual 54, 3) := by decide +kernel
theorem dX5_weigh_101 : decode cX5_weigh 101 = .ok (.isub, 1) := by decide +kernel
theorem dX5_weigh_102 : decode cX5_weigh 102 = .ok (.i2l, 1) := by decide +kernel
theorem dX5_weigh_103 : decode cX5_weigh 103 = .ok (.putfield 58, 3) := by decide +kernel
theorem dX5_weigh_106 : decode cX5_weigh 106 = .ok (.aload_n 0, 1) := by decide +kernel
theorem dX5_weigh_107 : decode cX5_weigh 107 = .ok (.getfield 58, 3) := by decide +kernel
theorem dX5_weigh_110 : decode cX5_weigh 110 = .ok (.lconst 0, 1) := by decide +kernel
theorem dX5_weigh_111 : decode cX5_weigh 111 = .ok (.lcmp, 1) := by decide +kernel
theorem dX5_weigh_112 : decode cX5_weigh 112 = .ok (.ifCond .le 7, 3) := by decide +kernel
theorem dX5_weigh_115 : decode cX5_weigh 115 = .ok (.iconst 1, 1) := by decide +kernel
theorem dX5_weigh_116 : decode cX5_weigh 116 = .ok (.goto 4, 3) := by decide +kernel
theorem dX5_weigh_119 : decode cX5_weigh 119 = .ok (.iconst 0, 1) := by decide +kernel
theorem dX5_weigh_120 : decode cX5_weigh 120 = .ok (.ireturn, 1) := by decide +kernel
theorem dX5_findLeast_0 : decode cX5_findLeast 0 = .ok (.aload_n 0, 1) := by decide +kernel
theorem dX5_findLeast_1 : decode cX5_findLeast 1 = .ok (.iconst (-1), 1) := by decide +kernel
theorem dX5_findLeast_2 : decode cX5_findLeast 2 = .ok (.putfield 61, 3) := by decide +kernel
theorem dX5_findLeast_5 : decode cX5_findLeast 5 = .ok (.iconst 0, 1) := by decide +kernel
theorem dX5_findLeast_6 : decode cX5_findLeast 6 = .ok (.istore_n 2, 1) := by decide +kernel
theorem dX5_findLeast_7 : decode cX5_findLeast 7 = .ok (.iload_n 2, 1) := by decide +kernel
theorem dX5_findLeast_8 : decode cX5_findLeast 8 = .ok (.bipush 6, 2) := by decide +kernel
theorem dX5_findLeast_10 : decode cX5_findLeast 10 = .ok (.if_icmp .ge 35, 3) := by decide +kernel
theorem dX5_findLeast_13 : decode cX5_findLeast 13 = .ok (.iconst 0, 1) := by decide +kernel
theorem dX5_findLeast_14 : decode cX5_findLeast 14 = .ok (.istore_n 3, 1) := by decide +kernel
theorem dX5_findLeast_15 : decode cX5_findLeast 15 = .ok (.iload_n 3, 1) := by decide +kernel
theorem dX5_findLeast_16 : decode cX5_findLeast 16 = .ok (.bipush 6, 2) := by decide +kernel
theorem dX5_findLeast_18 : decode cX5_findLeast 18 = .ok (.if_icmp .ge 21, 3) := by decide +kernel
theorem dX5_findLeast_21 : decode cX5_findLeast 21 = .ok (.iload_n 2, 1) := by decide +kernel
theorem dX5_findLeast_22 : decode cX5_findLeast 22 = .ok (.iload_n 3, 1) := by decide +kernel
theorem dX5_findLeast_23 : decode cX5_findLeast 23 = .ok (.if_icmp .eq 10, 3) := by decide +kernel
theorem dX5_findLeast_26 : decode cX5_findLeast 26 = .ok (.aload_n 0, 1) := by decide +kernel
theorem dX5_findLeast_27 : decode cX5_findLeast 27 = .ok (.aload_n 1, 1) := by decide +kernel
theorem dX5_findLeast_28 : decode cX5_findLeast 28 = .ok (.iload_n 2, 1) := by decide +kernel
theorem dX5_findLeast_29 : decode cX5_findLeast 29 = .ok (.iload_n 3, 1) := by decide +kernel
theorem dX5_findLeast_30 : decode cX5_findLeast 30 = .ok (.invokevirtual 65, 3) := by decide +kernel
theorem dX5_findLeast_33 : decode cX5_findLeast 33 = .ok (.iinc 3 1, 3) := by decide +kernel
theorem dX5_findLeast_36 : decode cX5_findLeast 36 = .ok (.goto (-21), 3) := by decide +kernel
theorem dX5_findLeast_39 : decode cX5_findLeast 39 = .ok (.iinc 2 1, 3) := by decide +kernel
theorem dX5_findLeast_42 : decode cX5_findLeast 42 = .ok (.goto (-35), 3) := by decide +kernel
theorem dX5_findLeast_45 : decode cX5_findLeast 45 = .ok (.return_, 1) := by decide +kernel
theorem dX5_findLeastBetween_0 : decode cX5_findLeastBetween 0 = .ok (.iconst 0, 1) := by decide +kernel
theorem dX5_findLeastBetween_1 : decode cX5_findLeastBetween 1 = .ok (.istore 4, 2) := by decide +kernel
theorem dX5_findLeastBetween_3 : decode cX5_findLeastBetween 3 = .ok (.iload 4, 2) := by decide +kernel
theorem dX5_findLeastBetween_5 : decode cX5_findLeastBetween 5 = .ok (.aload_n 1, 1) := by decide +kernel
theorem dX5_findLeastBetween_6 : decode cX5_findLeastBetween 6 = .ok (.getfield 21, 3) := by decide +kernel
theorem dX5_findLeastBetween_9 : decode cX5_findLeastBetween 9 = .ok (.getfield 25, 3) := by decide +kernel
theorem dX5_findLeastBetween_12 : decode cX5_findLeastBetween 12 = .ok (.iload_n 2, 1) := by decide +kernel
theorem dX5_findLeastBetween_13 : decode cX5_findLeastBetween 13 = .ok (.iaload, 1) := by decide +kernel
theorem dX5_findLeastBetween_14 : decode cX5_findLeastBetween 14 = .ok (.if_icmp .ge 97, 3) := by decide +kernel
theorem dX5_findLeastBetween_17 : decode cX5_findLeastBetween 17 = .ok (.aload_n 0, 1) := by decide +kernel
theorem dX5_findLeastBetween_18 : decode cX5_findLeastBetween 18 = .ok (.aload_n 1, 1) := by decide +kernel
theorem dX5_findLeastBetween_19 : decode cX5_findLeastBetween 19 = .ok (.iload_n 2, 1) := by decide +kernel
theorem dX5_findLeastBetween_20 : decode cX5_findLeastBetween 20 = .ok (.iload_n 3, 1) := by decide +kernel
theorem dX5_findLeastBetween_21 : decode cX5_findLeastBetween 21 = .ok (.aload_n 1, 1) := by decide +kernel
theorem dX5_findLeastBetween_22 : decode cX5_findLeastBetween 22 = .ok (.getfield 21, 3) := by decide +kernel
theorem dX5_findLeastBetween_25 : decode cX5_findLeastBetween 25 = .ok (.iload_n 2, 1) := by decide +kernel
theorem dX5_findLeastBetween_26 : decode cX5_findLeastBetween 26 = .ok (.iload 4, 2) := by decide +kernel
theorem dX5_findLeastBetween_28 : decode cX5_findLeastBetween 28 = .ok (.invokevirtual 69, 3) := by decide +kernel
theorem dX5_findLeastBetween_31 : decode cX5_findLeastBetween 31 = .ok (.invokevirtual 72, 3) := by decide +kernel
theorem dX5_findLeastBetween_34 : decode cX5_findLeastBetween 34 = .ok (.ifCond .ne 6, 3) := by decide +kernel
theorem dX5_findLeastBetween_37 : decode cX5_findLeastBetween 37 = .ok (.goto 68, 3) := by decide +kernel
theorem dX5_findLeastBetween_40 : decode cX5_findLeastBetween 40 = .ok (.aload_n 0, 1) := by decide +kernel
theorem dX5_findLeastBetween_41 : decode cX5_findLeastBetween 41 = .ok (.getfield 61, 3) := by decide +kernel
theorem dX5_findLeastBetween_44 : decode cX5_findLeastBetween 44 = .ok (.iconst (-1), 1) := by decide +kernel
theorem dX5_findLeastBetween_45 : decode cX5_findLeastBetween 45 = .ok (.if_icmp .eq 28, 3) := by decide +kernel
theorem dX5_findLeastBetween_48 : decode cX5_findLeastBetween 48 = .ok (.aload_n 0, 1) := by decide +kernel
theorem dX5_findLeastBetween_49 : decode cX5_findLeastBetween 49 = .ok (.getfield 34, 3) := by decide +kernel
theorem dX5_findLeastBetween_52 : decode cX5_findLeastBetween 52 = .ok (.aload_n 0, 1) := by decide +kernel
theorem dX5_findLeastBetween_53 : decode cX5_findLeastBetween 53 = .ok (.getfield 76, 3) := by decide +kernel
theorem dX5_findLeastBetween_56 : decode cX5_findLeastBetween 56 = .ok (.lmul, 1) := by decide +kernel
theorem dX5_findLeastBetween_57 : decode cX5_findLeastBetween 57 = .ok (.aload_n 0, 1) := by decide +kernel
theorem dX5_findLeastBetween_58 : decode cX5_findLeastBetween 58 = .ok (.getfield 79, 3) := by decide +kernel
theorem dX5_findLeastBetween_61 : decode cX5_findLeastBetween 61 = .ok (.aload_n 0, 1) := by decide +kernel
theorem dX5_findLeastBetween_62 : decode cX5_findLeastBetween 62 = .ok (.getfield 58, 3) := by decide +kernel
theorem dX5_findLeastBetween_65 : decode cX5_findLeastBetween 65 = .ok (.lmul, 1) := by decide +kernel
theorem dX5_findLeastBetween_66 : decode cX5_findLeastBetween 66 = .ok (.lcmp, 1) := by decide +kernel
theorem dX5_findLeastBetween_67 : decode cX5_findLeastBetween 67 = .ok (.ifCond .lt 6, 3) := by decide +kernel
theorem dX5_findLeastBetween_70 : decode cX5_findLeastBetween 70 = .ok (.goto 35, 3) := by decide +kernel
theorem dX5_findLeastBetween_73 : decode cX5_findLeastBetween 73 = .ok (.aload_n 0, 1) := by decide +kernel
theorem dX5_findLeastBetween_74 : decode cX5_findLeastBetween 74 = .ok (.iload_n 2, 1) := by decide +kernel
theorem dX5_findLeastBetween_75 : decode cX5_findLeastBetween 75 = .ok (.putfield 61, 3) := by decide +kernel
theorem dX5_findLeastBetween_78 : decode cX5_findLeastBetween 78 = .ok (.aload_n 0, 1) := by decide +kernel
theorem dX5_findLeastBetween_79 : decode cX5_findLeastBetween 79 = .ok (.iload_n 3, 1) := by decide +kernel
theorem dX5_findLeastBetween_80 : decode cX5_findLeastBetween 80 = .ok (.putfield 82, 3) := by decide +kernel
theorem dX5_findLeastBetween_83 : decode cX5_findLeastBetween 83 = .ok (.aload_n 0, 1) := by decide +kernel
theorem dX5_findLeastBetween_84 : decode cX5_findLeastBetween 84 = .ok (.iload 4, 2) := by decide +kernel
theorem dX5_findLeastBetween_86 : decode cX5_findLeastBetween 86 = .ok (.putfield 85, 3) := by decide +kernel
theorem dX5_findLeastBetween_89 : decode cX5_findLeastBetween 89 = .ok (.aload_n 0, 1) := by decide +kernel
theorem dX5_findLeastBetween_90 : decode cX5_findLeastBetween 90 = .ok (.aload_n 0, 1) := by decide +kernel
theorem dX5_findLeastBetween_91 : decode cX5_findLeastBetween 91 = .ok (.getfield 34, 3) := by decide +kernel
theorem dX5_findLeastBetween_94 : decode cX5_findLeastBetween 94 = .ok (.putfield 79, 3) := by decide +kernel
theorem dX5_findLeastBetween_97 : decode cX5_findLeastBetween 97 = .ok (.aload_n 0, 1) := by decide +kernel
theorem dX5_findLeastBetween_98 : decode cX5_findLeastBetween 98 = .ok (.aload_n 0, 1) := by decide +kernel
theorem dX5_findLeastBetween_99 : decode cX5_findLeastBetween 99 = .ok (.getfield 58, 3) := by decide +kernel
theorem dX5_findLeastBetween_102 : decode cX5_findLeastBetween 102 = .ok (.putfield 76, 3) := by decide +kernel
theorem dX5_findLeastBetween_105 : decode cX5_findLeastBetween 105 = .ok (.iinc 4 1, 3) := by decide +kernel
theorem dX5_findLeastBetween_108 : decode cX5_findLeastBetween 108 = .ok (.goto (-105), 3) := by decide +kernel
theorem dX5_findLeastBetween_111 : decode cX5_findLeastBetween 111 = .ok (.return_, 1) := by decide +kernel
theorem dX6_init_0 : decode cX6_init 0 = .ok (.aload_n 0, 1) := by decide +kernel
theorem dX6_init_1 : decode cX6_init 1 = .ok (.invokespecial 1, 3) := by decide +kernel
theorem dX6_init_4 : decode cX6_init 4 = .ok (.return_, 1) := by decide +kernel
theorem dX6_begin_0 : decode cX6_begin 0 = .ok (.aload_n 0, 1) := by decide +kernel
theorem dX6_begin_1 : decode cX6_begin 1 = .ok (.iload_n 1, 1) := by decide +kernel
theorem dX6_begin_2 : decode cX6_begin 2 = .ok (.putfield 7, 3) := by decide +kernel
theorem dX6_begin_5 : decode cX6_begin 5 = .ok (.aload_n 0, 1) := by decide +kernel
theorem dX6_begin_6 : decode cX6_begin 6 = .ok (.iconst 0, 1) := by decide +kernel
theorem dX6_begin_7 : decode cX6_begin 7 = .ok (.putfield 13, 3) := by decide +kernel
theorem dX6_begin_10 : decode cX6_begin 10 = .ok (.aload_n 0, 1) := by decide +kernel
theorem dX6_begin_11 : decode cX6_begin 11 = .ok (.iconst 0, 1) := by decide +kernel
theorem dX6_begin_12 : decode cX6_begin 12 = .ok (.putfield 16, 3) := by decide +kernel
theorem dX6_begin_15 : decode cX6_begin 15 = .ok (.aload_n 0, 1) := by decide +kernel
theorem dX6_begin_16 : decode cX6_begin 16 = .ok (.lconst 0, 1) := by decide +kernel
theorem dX6_begin_17 : decode cX6_begin 17 = .ok (.putfield 19, 3) := by decide +kernel
theorem dX6_begin_20 : decode cX6_begin 20 = .ok (.aload_n 0, 1) := by decide +kernel
theorem dX6_begin_21 : decode cX6_begin 21 = .ok (.lconst 0, 1) := by decide +kernel
theorem dX6_begin_22 : decode cX6_begin 22 = .ok (.putfield 23, 3) := by decide +kernel
theorem dX6_begin_25 : decode cX6_begin 25 = .ok (.return_, 1) := by decide +kernel
theorem dX6_add_0 : decode cX6_add 0 = .ok (.aload_n 0, 1) := by decide +kernel
theorem dX6_add_1 : decode cX6_add 1 = .ok (.aload_n 0, 1) := by decide +kernel
theorem dX6_add_2 : decode cX6_add 2 = .ok (.getfield 13, 3) := by decide +kernel
theorem dX6_add_5 : decode cX6_add 5 = .ok (.ifCond .ne 7, 3) := by decide +kernel
theorem dX6_add_8 : decode cX6_add 8 = .ok (.iload_n 1, 1) := by decide +kernel
theorem dX6_add_9 : decode cX6_add 9 = .ok (.goto 11, 3) := by decide +kernel
theorem dX6_add_12 : decode cX6_add 12 = .ok (.aload_n 0, 1) := by decide +kernel
theorem dX6_add_13 : decode cX6_add 13 = .ok (.getfield 26, 3) := by decide +kernel
theorem dX6_add_16 : decode cX6_add 16 = .ok (.iload_n 1, 1) := by decide +kernel
theorem dX6_add_17 : decode cX6_add 17 = .ok (.invokestatic 29, 3) := by decide +kernel
theorem dX6_add_20 : decode cX6_add 20 = .ok (.putfield 26, 3) := by decide +kernel
theorem dX6_add_23 : decode cX6_add 23 = .ok (.aload_n 0, 1) := by decide +kernel
theorem dX6_add_24 : decode cX6_add 24 = .ok (.aload_n 0, 1) := by decide +kernel
theorem dX6_add_25 : decode cX6_add 25 = .ok (.getfield 13, 3) := by decide +kernel
theorem dX6_add_28 : decode cX6_add 28 = .ok (.ifCond .ne 7, 3) := by decide +kernel
theorem dX6_add_31 : decode cX6_add 31 = .ok (.iload_n 1, 1) := by decide +kernel
theorem dX6_add_32 : decode cX6_add 32 = .ok (.goto 11, 3) := by decide +kernel
theorem dX6_add_35 : decode cX6_add 35 = .ok (.aload_n 0, 1) := by decide +kernel
theorem dX6_add_36 : decode cX6_add 36 = .ok (.getfield 35, 3) := by decide +kernel
theorem dX6_add_39 : decode cX6_add 39 = .ok (.iload_n 1, 1) := by decide +kernel
theorem dX6_add_40 : decode cX6_add 40 = .ok (.invokestatic 38, 3) := by decide +kernel
theorem dX6_add_43 : decode cX6_add 43 = .ok (.putfield 35, 3) := by decide +kernel
theorem dX6_add_46 : decode cX6_add 46 = .ok (.aload_n 0, 1) := by decide +kernel
theorem dX6_add_47 : decode cX6_add 47 = .ok (.dup, 1) := by decide +kernel
theorem dX6_add_48 : decode cX6_add 48 = .ok (.getfield 13, 3) := by decide +kernel
theorem dX6_add_51 : decode cX6_add 51 = .ok (.iconst 1, 1) := by decide +kernel
theorem dX6_add_52 : decode cX6_add 52 = .ok (.iadd, 1) := by decide +kernel
theorem dX6_add_53 : decode cX6_add 53 = .ok (.putfield 13, 3) := by decide +kernel
theorem dX6_add_56 : decode cX6_add 56 = .ok (.aload_n 0, 1) := by decide +kernel
theorem dX6_add_57 : decode cX6_add 57 = .ok (.dup, 1) := by decide +kernel
theorem dX6_add_58 : decode cX6_add 58 = .ok (.getfield 19, 3) := by decide +kernel
theorem dX6_add_61 : decode cX6_add 61 = .ok (.iload_n 2, 1) := by decide +kernel
theorem dX6_add_62 : decode cX6_add 62 = .ok (.i2l, 1) := by decide +kernel
theorem dX6_add_63 : decode cX6_add 63 = .ok (.ladd, 1) := by decide +kernel
theorem dX6_add_64 : decode cX6_add 64 = .ok (.putfield 19, 3) := by decide +kernel
theorem dX6_add_67 : decode cX6_add 67 = .ok (.iload_n 1, 1) := by decide +kernel
theorem dX6_add_68 : decode cX6_add 68 = .ok (.aload_n 0, 1) := by decide +kernel
theorem dX6_add_69 : decode cX6_add 69 = .ok (.getfield 7, 3) := by decide +kernel
theorem dX6_add_72 : decode cX6_add 72 = .ok (.if_icmp .ge 4, 3) := by decide +kernel
theorem dX6_add_75 : decode cX6_add 75 = .ok (.return_, 1) := by decide +kernel
theorem dX6_add_76 : decode cX6_add 76 = .ok (.aload_n 0, 1) := by decide +kernel
theorem dX6_add_77 : decode cX6_add 77 = .ok (.aload_n 0, 1) := by decide +kernel
theorem dX6_add_78 : decode cX6_add 78 = .ok (.getfield 16, 3) := by decide +kernel
theorem dX6_add_81 : decode cX6_add 81 = .ok (.ifCond .ne 7, 3) := by decide +kernel
theorem dX6_add_84 : decode cX6_add 84 = .ok (.iload_n 1, 1) := by decide +kernel
theorem dX6_add_85 : decode cX6_add 85 = .ok (.goto 11, 3) := by decide +kernel
theorem dX6_add_88 : decode cX6_add 88 = .ok (.aload_n 0, 1) := by decide +kernel
theorem dX6_add_89 : decode cX6_add 89 = .ok (.getfield 41, 3) := by decide +kernel
theorem dX6_add_92 : decode cX6_add 92 = .ok (.iload_n 1, 1) := by decide +kernel
theorem dX6_add_93 : decode cX6_add 93 = .ok (.invokestatic 29, 3) := by decide +kernel
theorem dX6_add_96 : decode cX6_add 96 = .ok (.putfield 41, 3) := by decide +kernel
theorem dX6_add_99 : decode cX6_add 99 = .ok (.aload_n 0, 1) := by decide +kernel
theorem dX6_add_100 : decode cX6_add 100 = .ok (.dup, 1) := by decide +kernel
theorem dX6_add_101 : decode cX6_add 101 = .ok (.getfield 16, 3) := by decide +kernel
theorem dX6_add_104 : decode cX6_add 104 = .ok (.iconst 1, 1) := by decide +kernel
theorem dX6_add_105 : decode cX6_add 105 = .ok (.iadd, 1) := by decide +kernel
theorem dX6_add_106 : decode cX6_add 106 = .ok (.putfield 16, 3) := by decide +kernel
theorem dX6_add_109 : decode cX6_add 109 = .ok (.aload_n 0, 1) := by decide +kernel
theorem dX6_add_110 : decode cX6_add 110 = .ok (.dup, 1) := by decide +kernel
theorem dX6_add_111 : decode cX6_add 111 = .ok (.getfield 23, 3) := by decide +kernel
theorem dX6_add_114 : decode cX6_add 114 = .ok (.iload_n 2, 1) := by decide +kernel
theorem dX6_add_115 : decode cX6_add 115 = .ok (.i2l, 1) := by decide +kernel
theorem dX6_add_116 : decode cX6_add 116 = .ok (.ladd, 1) := by decide +kernel
theorem dX6_add_117 : decode cX6_add 117 = .ok (.putfield 23, 3) := by decide +kernel
theorem dX6_add_120 : decode cX6_add 120 = .ok (.return_, 1) := by decide +kernel
theorem dX6_fraction_0 : decode cX6_fraction 0 = .ok (.aload_n 0, 1) := by decide +kernel
theorem dX6_fraction_1 : decode cX6_fraction 1 = .ok (.getfield 23, 3) := by decide +kernel
theorem dX6_fraction_4 : decode cX6_fraction 4 = .ok (.aload_n 0, 1) := by decide +kernel
theorem dX6_fraction_5 : decode cX6_fraction 5 = .ok (.getfield 19, 3) := by decide +kernel
theorem dX6_fraction_8 : decode cX6_fraction 8 = .ok (.iload_n 1, 1) := by decide +kernel
theorem dX6_fraction_9 : decode cX6_fraction 9 = .ok (.invokestatic 44, 3) := by decide +kernel
theorem dX6_fraction_12 : decode cX6_fraction 12 = .ok (.lreturn, 1) := by decide +kernel
theorem dX7_init_0 : decode cX7_init 0 = .ok (.aload_n 0, 1) := by decide +kernel
theorem dX7_init_1 : decode cX7_init 1 = .ok (.invokespecial 3, 3) := by decide +kernel
theorem dX7_init_4 : decode cX7_init 4 = .ok (.aload_n 0, 1) := by decide +kernel
theorem dX7_init_5 : decode cX7_init 5 = .ok (.bipush 8, 2) := by decide +kernel
theorem dX7_init_7 : decode cX7_init 7 = .ok (.newarray .int, 2) := by decide +kernel
theorem dX7_init_9 : decode cX7_init 9 = .ok (.putfield 9, 3) := by decide +kernel
theorem dX7_init_12 : decode cX7_init 12 = .ok (.aload_n 0, 1) := by decide +kernel
theorem dX7_init_13 : decode cX7_init 13 = .ok (.bipush 8, 2) := by decide +kernel
theorem dX7_init_15 : decode cX7_init 15 = .ok (.newarray .int, 2) := by decide +kernel
theorem dX7_init_17 : decode cX7_init 17 = .ok (.putfield 15, 3) := by decide +kernel
theorem dX7_init_20 : decode cX7_init 20 = .ok (.aload_n 0, 1) := by decide +kernel
theorem dX7_init_21 : decode cX7_init 21 = .ok (.bipush 8, 2) := by decide +kernel
theorem dX7_init_23 : decode cX7_init 23 = .ok (.newarray .int, 2) := by decide +kernel
theorem dX7_init_25 : decode cX7_init 25 = .ok (.putfield 18, 3) := by decide +kernel
theorem dX7_init_28 : decode cX7_init 28 = .ok (.aload_n 0, 1) := by decide +kernel
theorem dX7_init_29 : decode cX7_init 29 = .ok (.bipush 8, 2) := by decide +kernel
theorem dX7_init_31 : decode cX7_init 31 = .ok (.newarray .int, 2) := by decide +kernel
theorem dX7_init_33 : decode cX7_init 33 = .ok (.putfield 21, 3) := by decide +kernel
theorem dX7_init_36 : decode cX7_init 36 = .ok (.return_, 1) := by decide +kernel
theorem dX7_hasTank_0 : decode cX7_hasTank 0 = .ok (.iload_n 1, 1) := by decide +kernel
theorem dX7_hasTank_1 : decode cX7_hasTank 1 = .ok (.ifCond .lt 15, 3) := by decide +kernel
theorem dX7_hasTank_4 : decode cX7_hasTank 4 = .ok (.iload_n 1, 1) := by decide +kernel
theorem dX7_hasTank_5 : decode cX7_hasTank 5 = .ok (.aload_n 0, 1) := by decide +kernel
theorem dX7_hasTank_6 : decode cX7_hasTank 6 = .ok (.getfield 24, 3) := by decide +kernel
theorem dX7_hasTank_9 : decode cX7_hasTank 9 = .ok (.if_icmp .ge 7, 3) := by decide +kernel
theorem dX7_hasTank_12 : decode cX7_hasTank 12 = .ok (.iconst 1, 1) := by decide +kernel
theorem dX7_hasTank_13 : decode cX7_hasTank 13 = .ok (.goto 4, 3) := by decide +kernel
theorem dX7_hasTank_16 : decode cX7_hasTank 16 = .ok (.iconst 0, 1) := by decide +kernel
theorem dX7_hasTank_17 : decode cX7_hasTank 17 = .ok (.ireturn, 1) := by decide +kernel
theorem dX7_addTank_0 : decode cX7_addTank 0 = .ok (.aload_n 0, 1) := by decide +kernel
theorem dX7_addTank_1 : decode cX7_addTank 1 = .ok (.getfield 9, 3) := by decide +kernel
theorem dX7_addTank_4 : decode cX7_addTank 4 = .ok (.aload_n 0, 1) := by decide +kernel
theorem dX7_addTank_5 : decode cX7_addTank 5 = .ok (.getfield 24, 3) := by decide +kernel
theorem dX7_addTank_8 : decode cX7_addTank 8 = .ok (.iload_n 1, 1) := by decide +kernel
theorem dX7_addTank_9 : decode cX7_addTank 9 = .ok (.iastore, 1) := by decide +kernel
theorem dX7_addTank_10 : decode cX7_addTank 10 = .ok (.aload_n 0, 1) := by decide +kernel
theorem dX7_addTank_11 : decode cX7_addTank 11 = .ok (.getfield 15, 3) := by decide +kernel
theorem dX7_addTank_14 : decode cX7_addTank 14 = .ok (.aload_n 0, 1) := by decide +kernel
theorem dX7_addTank_15 : decode cX7_addTank 15 = .ok (.getfield 24, 3) := by decide +kernel
theorem dX7_addTank_18 : decode cX7_addTank 18 = .ok (.iload_n 2, 1) := by decide +kernel
theorem dX7_addTank_19 : decode cX7_addTank 19 = .ok (.iastore, 1) := by decide +kernel
theorem dX7_addTank_20 : decode cX7_addTank 20 = .ok (.aload_n 0, 1) := by decide +kernel
theorem dX7_addTank_21 : decode cX7_addTank 21 = .ok (.getfield 18, 3) := by decide +kernel
theorem dX7_addTank_24 : decode cX7_addTank 24 = .ok (.aload_n 0, 1) := by decide +kernel
theorem dX7_addTank_25 : decode cX7_addTank 25 = .ok (.getfield 24, 3) := by decide +kernel
theorem dX7_addTank_28 : decode cX7_addTank 28 = .ok (.iload_n 3, 1) := by decide +kernel
theorem dX7_addTank_29 : decode cX7_addTank 29 = .ok (.iastore, 1) := by decide +kernel
theorem dX7_addTank_30 : decode cX7_addTank 30 = .ok (.aload_n 0, 1) := by decide +kernel
theorem dX7_addTank_31 : decode cX7_addTank 31 = .ok (.getfield 21, 3) := by decide +kernel
theorem dX7_addTank_34 : decode cX7_addTank 34 = .ok (.aload_n 0, 1) := by decide +kernel
theorem dX7_addTank_35 : decode cX7_addTank 35 = .ok (.getfield 24, 3) := by decide +kernel
theorem dX7_addTank_38 : decode cX7_addTank 38 = .ok (.iload 4, 2) := by decide +kernel
theorem dX7_addTank_40 : decode cX7_addTank 40 = .ok (.iastore, 1) := by decide +kernel
theorem dX7_addTank_41 : decode cX7_addTank 41 = .ok (.aload_n 0, 1) := by decide +kernel
theorem dX7_addTank_42 : decode cX7_addTank 42 = .ok (.dup, 1) := by decide +kernel
theorem dX7_addTank_43 : decode cX7_addTank 43 = .ok (.getfield 24, 3) := by decide +kernel
theorem dX7_addTank_46 : decode cX7_addTank 46 = .ok (.iconst 1, 1) := by decide +kernel
theorem dX7_addTank_47 : decode cX7_addTank 47 = .ok (.iadd, 1) := by decide +kernel
theorem dX7_addTank_48 : decode cX7_addTank 48 = .ok (.putfield 24, 3) := by decide +kernel
theorem dX7_addTank_51 : decode cX7_addTank 51 = .ok (.aload_n 0, 1) := by decide +kernel
theorem dX7_addTank_52 : decode cX7_addTank 52 = .ok (.getfield 24, 3) := by decide +kernel
theorem dX7_addTank_55 : decode cX7_addTank 55 = .ok (.iconst 1, 1) := by decide +kernel
theorem dX7_addTank_56 : decode cX7_addTank 56 = .ok (.isub, 1) := by decide +kernel
theorem dX7_addTank_57 : decode cX7_addTank 57 = .ok (.ireturn, 1) := by decide +kernel
theorem dX8_init_0 : decode cX8_init 0 = .ok (.aload_n 0, 1) := by decide +kernel
theorem dX8_init_1 : decode cX8_init 1 = .ok (.invokespecial 3, 3) := by decide +kernel
theorem dX8_init_4 : decode cX8_init 4 = .ok (.aload_n 0, 1) := by decide +kernel
theorem dX8_init_5 : decode cX8_init 5 = .ok (.new 9, 3) := by decide +kernel
theorem dX8_init_8 : decode cX8_init 8 = .ok (.dup, 1) := by decide +kernel
theorem dX8_init_9 : decode cX8_init 9 = .ok (.invokespecial 11, 3) := by decide +kernel
theorem dX8_init_12 : decode cX8_init 12 = .ok (.putfield 12, 3) := by decide +kernel
theorem dX8_init_15 : decode cX8_init 15 = .ok (.aload_n 0, 1) := by decide +kernel
theorem dX8_init_16 : decode cX8_init 16 = .ok (.new 18, 3) := by decide +kernel
theorem dX8_init_19 : decode cX8_init 19 = .ok (.dup, 1) := by decide +kernel
theorem dX8_init_20 : decode cX8_init 20 = .ok (.invokespecial 20, 3) := by decide +kernel
theorem dX8_init_23 : decode cX8_init 23 = .ok (.putfield 21, 3) := by decide +kernel
theorem dX8_init_26 : decode cX8_init 26 = .ok (.aload_n 0, 1) := by decide +kernel
theorem dX8_init_27 : decode cX8_init 27 = .ok (.new 25, 3) := by decide +kernel
theorem dX8_init_30 : decode cX8_init 30 = .ok (.dup, 1) := by decide +kernel
theorem dX8_init_31 : decode cX8_init 31 = .ok (.invokespecial 27, 3) := by decide +kernel
theorem dX8_init_34 : decode cX8_init 34 = .ok (.putfield 28, 3) := by decide +kernel
theorem dX8_init_37 : decode cX8_init 37 = .ok (.aload_n 0, 1) := by decide +kernel
theorem dX8_init_38 : decode cX8_init 38 = .ok (.bipush 6, 2) := by decide +kernel
theorem dX8_init_40 : decode cX8_init 40 = .ok (.newarray .int, 2) := by decide +kernel
theorem dX8_init_42 : decode cX8_init 42 = .ok (.putfield 32, 3) := by decide +kernel
theorem dX8_init_45 : decode cX8_init 45 = .ok (.aload_n 0, 1) := by decide +kernel
theorem dX8_init_46 : decode cX8_init 46 = .ok (.bipush 6, 2) := by decide +kernel
theorem dX8_init_48 : decode cX8_init 48 = .ok (.newarray .int, 2) := by decide +kernel
theorem dX8_init_50 : decode cX8_init 50 = .ok (.putfield 36, 3) := by decide +kernel
theorem dX8_init_53 : decode cX8_init 53 = .ok (.aload_n 0, 1) := by decide +kernel
theorem dX8_init_54 : decode cX8_init 54 = .ok (.bipush 6, 2) := by decide +kernel
theorem dX8_init_56 : decode cX8_init 56 = .ok (.newarray .int, 2) := by decide +kernel
theorem dX8_init_58 : decode cX8_init 58 = .ok (.putfield 39, 3) := by decide +kernel
theorem dX8_init_61 : decode cX8_init 61 = .ok (.aload_n 0, 1) := by decide +kernel
theorem dX8_init_62 : decode cX8_init 62 = .ok (.bipush 6, 2) := by decide +kernel
theorem dX8_init_64 : decode cX8_init 64 = .ok (.newarray .int, 2) := by decide +kernel
theorem dX8_init_66 : decode cX8_init 66 = .ok (.putfield 42, 3) := by decide +kernel
theorem dX8_init_69 : decode cX8_init 69 = .ok (.aload_n 0, 1) := by decide +kernel
theorem dX8_init_70 : decode cX8_init 70 = .ok (.sipush 180, 3) := by decide +kernel
theorem dX8_init_73 : decode cX8_init 73 = .ok (.newarray .int, 2) := by decide +kernel
theorem dX8_init_75 : decode cX8_init 75 = .ok (.putfield 45, 3) := by decide +kernel
theorem dX8_init_78 : decode cX8_init 78 = .ok (.aload_n 0, 1) := by decide +kernel
theorem dX8_init_79 : decode cX8_init 79 = .ok (.sipush 360, 3) := by decide +kernel
theorem dX8_init_82 : decode cX8_init 82 = .ok (.newarray .int, 2) := by decide +kernel
theorem dX8_init_84 : decode cX8_init 84 = .ok (.putfield 48, 3) := by decide +kernel
theorem dX8_init_87 : decode cX8_init 87 = .ok (.return_, 1) := by decide +kernel
theorem dX8_begin_0 : decode cX8_begin 0 = .ok (.aload_n 0, 1) := by decide +kernel
theorem dX8_begin_1 : decode cX8_begin 1 = .ok (.iload_n 1, 1) := by decide +kernel
theorem dX8_begin_2 : decode cX8_begin 2 = .ok (.putfield 51, 3) := by decide +kernel
theorem dX8_begin_5 : decode cX8_begin 5 = .ok (.aload_n 0, 1) := by decide +kernel
theorem dX8_begin_6 : decode cX8_begin 6 = .ok (.aload_n 0, 1) := by decide +kernel
theorem dX8_begin_7 : decode cX8_begin 7 = .ok (.getfield 12, 3) := by decide +kernel
theorem dX8_begin_10 : decode cX8_begin 10 = .ok (.getfield 55, 3) := by decide +kernel
theorem dX8_begin_13 : decode cX8_begin 13 = .ok (.iload_n 1, 1) := by decide +kernel
theorem dX8_begin_14 : decode cX8_begin 14 = .ok (.iaload, 1) := by decide +kernel
theorem dX8_begin_15 : decode cX8_begin 15 = .ok (.putfield 58, 3) := by decide +kernel
theorem dX8_begin_18 : decode cX8_begin 18 = .ok (.aload_n 0, 1) := by decide +kernel
theorem dX8_begin_19 : decode cX8_begin 19 = .ok (.iconst 0, 1) := by decide +kernel
theorem dX8_begin_20 : decode cX8_begin 20 = .ok (.putfield 60, 3) := by decide +kernel
theorem dX8_begin_23 : decode cX8_begin 23 = .ok (.aload_n 0, 1) := by decide +kernel
theorem dX8_begin_24 : decode cX8_begin 24 = .ok (.iconst 0, 1) := by decide +kernel
theorem dX8_begin_25 : decode cX8_begin 25 = .ok (.putfield 63, 3) := by decide +kernel
theorem dX8_begin_28 : decode cX8_begin 28 = .ok (.aload_n 0, 1) := by decide +kernel
theorem dX8_begin_29 : decode cX8_begin 29 = .ok (.aload_n 0, 1) := by decide +kernel
theorem dX8_begin_30 : decode cX8_begin 30 = .ok (.getfield 58, 3) := by decide +kernel
theorem dX8_begin_33 : decode cX8_begin 33 = .ok (.iconst 1, 1) := by decide +kernel
theorem dX8_begin_34 : decode cX8_begin 34 = .ok (.isub, 1) := by decide +kernel
theorem dX8_begin_35 : decode cX8_begin 35 = .ok (.putfield 66, 3) := by decide +kernel
theorem dX8_begin_38 : decode cX8_begin 38 = .ok (.iconst 0, 1) := by decide +kernel
theorem dX8_begin_39 : decode cX8_begin 39 = .ok (.istore_n 2, 1) := by decide +kernel
theorem dX8_begin_40 : decode cX8_begin 40 = .ok (.iload_n 2, 1) := by decide +kernel
theorem dX8_begin_41 : decode cX8_begin 41 = .ok (.aload_n 0, 1) := by decide +kernel
theorem dX8_begin_42 : decode cX8_begin 42 = .ok (.getfield 58, 3) := by decide +kernel
theorem dX8_begin_45 : decode cX8_begin 45 = .ok (.if_icmp .ge 16, 3) := by decide +kernel
theorem dX8_begin_48 : decode cX8_begin 48 = .ok (.aload_n 0, 1) := by decide +kernel
theorem dX8_begin_49 : decode cX8_begin 49 = .ok (.getfield 32, 3) := by decide +kernel
theorem dX8_begin_52 : decode cX8_begin 52 = .ok (.iload_n 2, 1) := by decide +kernel
theorem dX8_begin_53 : decode cX8_begin 53 = .ok (.iconst 0, 1) := by decide +kernel
theorem dX8_begin_54 : decode cX8_begin 54 = .ok (.iastore, 1) := by decide +kernel
theorem dX8_begin_55 : decode cX8_begin 55 = .ok (.iinc 2 1, 3) := by decide +kernel
theorem dX8_begin_58 : decode cX8_begin 58 = .ok (.goto (-18), 3) := by decide +kernel
theorem dX8_begin_61 : decode cX8_begin 61 = .ok (.return_, 1) := by decide +kernel
theorem dX8_under_0 : decode cX8_under 0 = .ok (.aload_n 0, 1) := by decide +kernel
theorem dX8_under_1 : decode cX8_under 1 = .ok (.aload_n 0, 1) := by decide +kernel
theorem dX8_under_2 : decode cX8_under 2 = .ok (.getfield 21, 3) := by decide +kernel
theorem dX8_under_5 : decode cX8_under 5 = .ok (.getfield 69, 3) := by decide +kernel
theorem dX8_under_8 : decode cX8_under 8 = .ok (.iload_n 1, 1) := by decide +kernel
theorem dX8_under_9 : decode cX8_under 9 = .ok (.iaload, 1) := by decide +kernel
theorem dX8_under_10 : decode cX8_under 10 = .ok (.putfield 60, 3) := by decide +kernel
theorem dX8_under_13 : decode cX8_under 13 = .ok (.aload_n 0, 1) := by decide +kernel
theorem dX8_under_14 : decode cX8_under 14 = .ok (.aload_n 0, 1) := by decide +kernel
theorem dX8_under_15 : decode cX8_under 15 = .ok (.getfield 60, 3) := by decide +kernel
theorem dX8_under_18 : decode cX8_under 18 = .ok (.aload_n 0, 1) := by decide +kernel
theorem dX8_under_19 : decode cX8_under 19 = .ok (.getfield 28, 3) := by decide +kernel
theorem dX8_under_22 : decode cX8_under 22 = .ok (.invokevirtual 71, 3) := by decide +kernel
theorem dX8_under_25 : decode cX8_under 25 = .ok (.iadd, 1) := by decide +kernel
theorem dX8_under_26 : decode cX8_under 26 = .ok (.putfield 63, 3) := by decide +kernel
theorem dX8_under_29 : decode cX8_under 29 = .ok (.aload_n 0, 1) := by decide +kernel
theorem dX8_under_30 : decode cX8_under 30 = .ok (.iload_n 2, 1) := by decide +kernel
theorem dX8_under_31 : decode cX8_under 31 = .ok (.putfield 75, 3) := by decide +kernel
theorem dX8_under_34 : decode cX8_under 34 = .ok (.aload_n 0, 1) := by decide +kernel
theorem dX8_under_35 : decode cX8_under 35 = .ok (.iload_n 3, 1) := by decide +kernel
theorem dX8_under_36 : decode cX8_under 36 = .ok (.putfield 78, 3) := by decide +kernel
theorem dX8_under_39 : decode cX8_under 39 = .ok (.aload_n 0, 1) := by decide +kernel
theorem dX8_under_40 : decode cX8_under 40 = .ok (.aload_n 0, 1) := by decide +kernel
theorem dX8_under_41 : decode cX8_under 41 = .ok (.getfield 58, 3) := by decide +kernel
theorem dX8_under_44 : decode cX8_under 44 = .ok (.iconst 1, 1) := by decide +kernel
theorem dX8_under_45 : decode cX8_under 45 = .ok (.isub, 1) := by decide +kernel
theorem dX8_under_46 : decode cX8_under 46 = .ok (.putfield 66, 3) := by decide +kernel
theorem dX8_under_49 : decode cX8_under 49 = .ok (.aload_n 0, 1) := by decide +kernel
theorem dX8_under_50 : decode cX8_under 50 = .ok (.getfield 58, 3) := by decide +kernel
theorem dX8_under_53 : decode cX8_under 53 = .ok (.ifCond .ne 4, 3) := by decide +kernel
theorem dX8_under_56 : decode cX8_under 56 = .ok (.return_, 1) := by decide +kernel
theorem dX8_under_57 : decode cX8_under 57 = .ok (.aload_n 0, 1) := by decide +kernel
theorem dX8_under_58 : decode cX8_under 58 = .ok (.iconst 0, 1) := by decide +kernel
theorem dX8_under_59 : decode cX8_under 59 = .ok (.putfield 81, 3) := by decide +kernel
theorem dX8_under_62 : decode cX8_under 62 = .ok (.iconst 0, 1) := by decide +kernel
theorem dX8_under_63 : decode cX8_under 63 = .ok (.istore 4, 2) := by decide +kernel
theorem dX8_under_65 : decode cX8_under 65 = .ok (.iload 4, 2) := by decide +kernel
theorem dX8_under_67 : decode cX8_under 67 = .ok (.aload_n 0, 1) := by decide +kernel
theorem dX8_under_68 : decode cX8_under 68 = .ok (.getfield 58, 3) := by decide +kernel
theorem dX8_under_71 : decode cX8_under 71 = .ok (.if_icmp .ge 57, 3) := by decide +kernel
theorem dX8_under_74 : decode cX8_under 74 = .ok (.aload_n 0, 1) := by decide +kernel
theorem dX8_under_75 : decode cX8_under 75 = .ok (.getfield 42, 3) := by decide +kernel
theorem dX8_under_78 : decode cX8_under 78 = .ok (.iload 4, 2) := by decide +kernel
theorem dX8_under_80 : decode cX8_under 80 = .ok (.aload_n 0, 1) := by decide +kernel
theorem dX8_under_81 : decode cX8_under 81 = .ok (.getfield 12, 3) := by decide +kernel
theorem dX8_under_84 : decode cX8_under 84 = .ok (.aload_n 0, 1) := by decide +kernel
theorem dX8_under_85 : decode cX8_under 85 = .ok (.getfield 51, 3) := by decide +kernel
theorem dX8_under_88 : decode cX8_under 88 = .ok (.iload 4, 2) := by decide +kernel
theorem dX8_under_90 : decode cX8_under 90 = .ok (.aload_n 0, 1) := by decide +kernel
theorem dX8_under_91 : decode cX8_under 91 = .ok (.getfield 28, 3) := by decide +kernel
theorem dX8_under_94 : decode cX8_under 94 = .ok (.invokevirtual 84, 3) := by decide +kernel
theorem dX8_under_97 : decode cX8_under 97 = .ok (.iastore, 1) := by decide +kernel
theorem dX8_under_98 : decode cX8_under 98 = .ok (.aload_n 0, 1) := by decide +kernel
theorem dX8_under_99 : decode cX8_under 99 = .ok (.getfield 12, 3) := by decide +kernel
theorem dX8_under_102 : decode cX8_under 102 = .ok (.aload_n 0, 1) := by decide +kernel
theorem dX8_under_103 : decode cX8_under 103 = .ok (.getfield 51, 3) := by decide +kernel
theorem dX8_under_106 : decode cX8_under 106 = .ok (.iload 4, 2) := by decide +kernel
theorem dX8_under_108 : decode cX8_under 108 = .ok (.invokevirtual 88, 3) := by decide +kernel
theorem dX8_under_111 : decode cX8_under 111 = .ok (.ifCond .ne 11, 3) := by decide +kernel
theorem dX8_under_114 : decode cX8_under 114 = .ok (.aload_n 0, 1) := by decide +kernel
theorem dX8_under_115 : decode cX8_under 115 = .ok (.iload 4, 2) := by decide +kernel
theorem dX8_under_117 : decode cX8_under 117 = .ok (.iconst 1, 1) := by decide +kernel
theorem dX8_under_118 : decode cX8_under 118 = .ok (.iadd, 1) := by decide +kernel
theorem dX8_under_119 : decode cX8_under 119 = .ok (.putfield 81, 3) := by decide +kernel
theorem dX8_under_122 : decode cX8_under 122 = .ok (.iinc 4 1, 3) := by decide +kernel
theorem dX8_under_125 : decode cX8_under 125 = .ok (.goto (-60), 3) := by decide +kernel
theorem dX8_under_128 : decode cX8_under 128 = .ok (.aload_n 0, 1) := by decide +kernel
theorem dX8_under_129 : decode cX8_under 129 = .ok (.getfield 21, 3) := by decide +kernel
theorem dX8_under_132 : decode cX8_under 132 = .ok (.getfield 92, 3) := by decide +kernel
theorem dX8_under_135 : decode cX8_under 135 = .ok (.iload_n 1, 1) := by decide +kernel
theorem dX8_under_136 : decode cX8_under 136 = .ok (.bipush 30, 2) := by decide +kernel
theorem dX8_under_138 : decode cX8_under 138 = .ok (.imul, 1) := by decide +kernel
theorem dX8_under_139 : decode cX8_under 139 = .ok (.aload_n 0, 1) := by decide +kernel
theorem dX8_under_140 : decode cX8_under 140 = .ok (.getfield 45, 3) := by decide +kernel
theorem dX8_under_143 : decode cX8_under 143 = .ok (.aload_n 0, 1) := by decide +kernel
theorem dX8_under_144 : decode cX8_under 144 = .ok (.getfield 58, 3) := by decide +kernel
theorem dX8_under_147 : decode cX8_under 147 = .ok (.iconst 1, 1) := by decide +kernel
theorem dX8_under_148 : decode cX8_under 148 = .ok (.isub, 1) := by decide +kernel
theorem dX8_under_149 : decode cX8_under 149 = .ok (.bipush 30, 2) := by decide +kernel
theorem dX8_under_151 : decode cX8_under 151 = .ok (.imul, 1) := by decide +kernel
theorem dX8_under_152 : decode cX8_under 152 = .ok (.aload_n 0, 1) := by decide +kernel
theorem dX8_under_153 : decode cX8_under 153 = .ok (.getfield 60, 3) := by decide +kernel
theorem dX8_under_156 : decode cX8_under 156 = .ok (.invokestatic 95, 3) := by decide +kernel
theorem dX8_under_159 : decode cX8_under 159 = .ok (.iconst 0, 1) := by decide +kernel
theorem dX8_under_160 : decode cX8_under 160 = .ok (.istore 4, 2) := by decide +kernel
theorem dX8_under_162 : decode cX8_under 162 = .ok (.iload 4, 2) := by decide +kernel
theorem dX8_under_164 : decode cX8_under 164 = .ok (.aload_n 0, 1) := by decide +kernel
theorem dX8_under_165 : decode cX8_under 165 = .ok (.getfield 63, 3) := by decide +kernel
theorem dX8_under_168 : decode cX8_under 168 = .ok (.if_icmp .ge 27, 3) := by decide +kernel
theorem dX8_under_171 : decode cX8_under 171 = .ok (.aload_n 0, 1) := by decide +kernel
theorem dX8_under_172 : decode cX8_under 172 = .ok (.getfield 48, 3) := by decide +kernel
theorem dX8_under_175 : decode cX8_under 175 = .ok (.aload_n 0, 1) := by decide +kernel
theorem dX8_under_176 : decode cX8_under 176 = .ok (.getfield 58, 3) := by decide +kernel
theorem dX8_under_179 : decode cX8_under 179 = .ok (.iconst 1, 1) := by decide +kernel
theorem dX8_under_180 : decode cX8_under 180 = .ok (.isub, 1) := by decide +kernel
theorem dX8_under_181 : decode cX8_under 181 = .ok (.bipush 60, 2) := by decide +kernel
theorem dX8_under_183 : decode cX8_under 183 = .ok (.imul, 1) := by decide +kernel
theorem dX8_under_184 : decode cX8_under 184 = .ok (.iload 4, 2) := by decide +kernel
theorem dX8_under_186 : decode cX8_under 186 = .ok (.iadd, 1) := by decide +kernel
theorem dX8_under_187 : decode cX8_under 187 = .ok (.iconst 0, 1) := by decide +kernel
theorem dX8_under_188 : decode cX8_under 188 = .ok (.iastore, 1) := by decide +kernel
theorem dX8_under_189 : decode cX8_under 189 = .ok (.iinc 4 1, 3) := by decide +kernel
theorem dX8_under_192 : decode cX8_under 192 = .ok (.goto (-30), 3) := by decide +kernel
theorem dX8_under_195 : decode cX8_under 195 = .ok (.return_, 1) := by decide +kernel
theorem dX8_runFirst_0 : decode cX8_runFirst 0 = .ok (.aload_n 0, 1) := by decide +kernel
theorem dX8_runFirst_1 : decode cX8_runFirst 1 = .ok (.iload_n 1, 1) := by decide +kernel
theorem dX8_runFirst_2 : decode cX8_runFirst 2 = .ok (.invokevirtual 101, 3) := by decide +kernel
theorem dX8_runFirst_5 : decode cX8_runFirst 5 = .ok (.aload_n 0, 1) := by decide +kernel
theorem dX8_runFirst_6 : decode cX8_runFirst 6 = .ok (.iload_n 2, 1) := by decide +kernel
theorem dX8_runFirst_7 : decode cX8_runFirst 7 = .ok (.iconst 0, 1) := by decide +kernel
theorem dX8_runFirst_8 : decode cX8_runFirst 8 = .ok (.iconst 0, 1) := by decide +kernel
theorem dX8_runFirst_9 : decode cX8_runFirst 9 = .ok (.invokevirtual 105, 3) := by decide +kernel
theorem dX8_runFirst_12 : decode cX8_runFirst 12 = .ok (.aload_n 0, 1) := by decide +kernel
theorem dX8_runFirst_13 : decode cX8_runFirst 13 = .ok (.invokevirtual 109, 3) := by decide +kernel
theorem dX8_runFirst_16 : decode cX8_runFirst 16 = .ok (.return_, 1) := by decide +kernel
theorem dX8_advance_0 : decode cX8_advance 0 = .ok (.iconst 0, 1) := by decide +kernel
theorem dX8_advance_1 : decode cX8_advance 1 = .ok (.istore_n 1, 1) := by decide +kernel
theorem dX8_advance_2 : decode cX8_advance 2 = .ok (.iload_n 1, 1) := by decide +kernel
theorem dX8_advance_3 : decode cX8_advance 3 = .ok (.aload_n 0, 1) := by decide +kernel
theorem dX8_advance_4 : decode cX8_advance 4 = .ok (.getfield 58, 3) := by decide +kernel
theorem dX8_advance_7 : decode cX8_advance 7 = .ok (.if_icmp .ge 65, 3) := by decide +kernel
theorem dX8_advance_10 : decode cX8_advance 10 = .ok (.aload_n 0, 1) := by decide +kernel
theorem dX8_advance_11 : decode cX8_advance 11 = .ok (.aload_n 0, 1) := by decide +kernel
theorem dX8_advance_12 : decode cX8_advance 12 = .ok (.getfield 66, 3) := by decide +kernel
theorem dX8_advance_15 : decode cX8_advance 15 = .ok (.iload_n 1, 1) := by decide +kernel
theorem dX8_advance_16 : decode cX8_advance 16 = .ok (.invokestatic 112, 3) := by decide +kernel
theorem dX8_advance_19 : decode cX8_advance 19 = .ok (.putfield 66, 3) := by decide +kernel
theorem dX8_advance_22 : decode cX8_advance 22 = .ok (.aload_n 0, 1) := by decide +kernel
theorem dX8_advance_23 : decode cX8_advance 23 = .ok (.getfield 32, 3) := by decide +kernel
theorem dX8_advance_26 : decode cX8_advance 26 = .ok (.iload_n 1, 1) := by decide +kernel
theorem dX8_advance_27 : decode cX8_advance 27 = .ok (.dup2, 1) := by decide +kernel
theorem dX8_advance_28 : decode cX8_advance 28 = .ok (.iaload, 1) := by decide +kernel
theorem dX8_advance_29 : decode cX8_advance 29 = .ok (.iconst 1, 1) := by decide +kernel
theorem dX8_advance_30 : decode cX8_advance 30 = .ok (.iadd, 1) := by decide +kernel
theorem dX8_advance_31 : decode cX8_advance 31 = .ok (.iastore, 1) := by decide +kernel
theorem dX8_advance_32 : decode cX8_advance 32 = .ok (.aload_n 0, 1) := by decide +kernel
theorem dX8_advance_33 : decode cX8_advance 33 = .ok (.getfield 32, 3) := by decide +kernel
theorem dX8_advance_36 : decode cX8_advance 36 = .ok (.iload_n 1, 1) := by decide +kernel
theorem dX8_advance_37 : decode cX8_advance 37 = .ok (.iaload, 1) := by decide +kernel
theorem dX8_advance_38 : decode cX8_advance 38 = .ok (.aload_n 0, 1) := by decide +kernel
theorem dX8_advance_39 : decode cX8_advance 39 = .ok (.getfield 12, 3) := by decide +kernel
theorem dX8_advance_42 : decode cX8_advance 42 = .ok (.getfield 118, 3) := by decide +kernel
theorem dX8_advance_45 : decode cX8_advance 45 = .ok (.aload_n 0, 1) := by decide +kernel
theorem dX8_advance_46 : decode cX8_advance 46 = .ok (.getfield 51, 3) := by decide +kernel
theorem dX8_advance_49 : decode cX8_advance 49 = .ok (.bipush 6, 2) := by decide +kernel
theorem dX8_advance_51 : decode cX8_advance 51 = .ok (.imul, 1) := by decide +kernel
theorem dX8_advance_52 : decode cX8_advance 52 = .ok (.iload_n 1, 1) := by decide +kernel
theorem dX8_advance_53 : decode cX8_advance 53 = .ok (.iadd, 1) := by decide +kernel
theorem dX8_advance_54 : decode cX8_advance 54 = .ok (.iaload, 1) := by decide +kernel
theorem dX8_advance_55 : decode cX8_advance 55 = .ok (.if_icmp .ge 4, 3) := by decide +kernel
theorem dX8_advance_58 : decode cX8_advance 58 = .ok (.return_, 1) := by decide +kernel
theorem dX8_advance_59 : decode cX8_advance 59 = .ok (.aload_n 0, 1) := by decide +kernel
theorem dX8_advance_60 : decode cX8_advance 60 = .ok (.getfield 32, 3) := by decide +kernel
theorem dX8_advance_63 : decode cX8_advance 63 = .ok (.iload_n 1, 1) := by decide +kernel
theorem dX8_advance_64 : decode cX8_advance 64 = .ok (.iconst 0, 1) := by decide +kernel
theorem dX8_advance_65 : decode cX8_advance 65 = .ok (.iastore, 1) := by decide +kernel
theorem dX8_advance_66 : decode cX8_advance 66 = .ok (.iinc 1 1, 3) := by decide +kernel
theorem dX8_advance_69 : decode cX8_advance 69 = .ok (.goto (-67), 3) := by decide +kernel
theorem dX8_advance_72 : decode cX8_advance 72 = .ok (.return_, 1) := by decide +kernel
theorem dX8_place_0 : decode cX8_place 0 = .ok (.iconst 0, 1) := by decide +kernel
theorem dX8_place_1 : decode cX8_place 1 = .ok (.istore_n 1, 1) := by decide +kernel
theorem dX8_place_2 : decode cX8_place 2 = .ok (.iconst 0, 1) := by decide +kernel
theorem dX8_place_3 : decode cX8_place 3 = .ok (.istore_n 2, 1) := by decide +kernel
theorem dX8_place_4 : decode cX8_place 4 = .ok (.iload_n 2, 1) := by decide +kernel
theorem dX8_place_5 : decode cX8_place 5 = .ok (.aload_n 0, 1) := by decide +kernel
theorem dX8_place_6 : decode cX8_place 6 = .ok (.getfield 58, 3) := by decide +kernel
theorem dX8_place_9 : decode cX8_place 9 = .ok (.if_icmp .ge 36, 3) := by decide +kernel
theorem dX8_place_12 : decode cX8_place 12 = .ok (.iload_n 1, 1) := by decide +kernel
theorem dX8_place_13 : decode cX8_place 13 = .ok (.aload_n 0, 1) := by decide +kernel
theorem dX8_place_14 : decode cX8_place 14 = .ok (.getfield 12, 3) := by decide +kernel
theorem dX8_place_17 : decode cX8_place 17 = .ok (.getfield 118, 3) := by decide +kernel
theorem dX8_place_20 : decode cX8_place 20 = .ok (.aload_n 0, 1) := by decide +kernel
theorem dX8_place_21 : decode cX8_place 21 = .ok (.getfield 51, 3) := by decide +kernel
theorem dX8_place_24 : decode cX8_place 24 = .ok (.bipush 6, 2) := by decide +kernel
theorem dX8_place_26 : decode cX8_place 26 = .ok (.imul, 1) := by decide +kernel
theorem dX8_place_27 : decode cX8_place 27 = .ok (.iload_n 2, 1) := by decide +kernel
theorem dX8_place_28 : decode cX8_place 28 = .ok (.iadd, 1) := by decide +kernel
theorem dX8_place_29 : decode cX8_place 29 = .ok (.iaload, 1) := by decide +kernel
theorem dX8_place_30 : decode cX8_place 30 = .ok (.imul, 1) := by decide +kernel
theorem dX8_place_31 : decode cX8_place 31 = .ok (.aload_n 0, 1) := by decide +kernel
theorem dX8_place_32 : decode cX8_place 32 = .ok (.getfield 32, 3) := by decide +kernel
theorem dX8_place_35 : decode cX8_place 35 = .ok (.iload_n 2, 1) := by decide +kernel
theorem dX8_place_36 : decode cX8_place 36 = .ok (.iaload, 1) := by decide +kernel
theorem dX8_place_37 : decode cX8_place 37 = .ok (.iadd, 1) := by decide +kernel
theorem dX8_place_38 : decode cX8_place 38 = .ok (.istore_n 1, 1) := by decide +kernel
theorem dX8_place_39 : decode cX8_place 39 = .ok (.iinc 2 1, 3) := by decide +kernel
theorem dX8_place_42 : decode cX8_place 42 = .ok (.goto (-38), 3) := by decide +kernel
theorem dX8_place_45 : decode cX8_place 45 = .ok (.iload_n 1, 1) := by decide +kernel
theorem dX8_place_46 : decode cX8_place 46 = .ok (.ireturn, 1) := by decide +kernel
theorem dX8_valueAt_0 : decode cX8_valueAt 0 = .ok (.aload_n 0, 1) := by decide +kernel
theorem dX8_valueAt_1 : decode cX8_valueAt 1 = .ok (.getfield 12, 3) := by decide +kernel
theorem dX8_valueAt_4 : decode cX8_valueAt 4 = .ok (.getfield 121, 3) := by decide +kernel
theorem dX8_valueAt_7 : decode cX8_valueAt 7 = .ok (.aload_n 0, 1) := by decide +kernel
theorem dX8_valueAt_8 : decode cX8_valueAt 8 = .ok (.getfield 51, 3) := by decide +kernel
theorem dX8_valueAt_11 : decode cX8_valueAt 11 = .ok (.bipush 6, 2) := by decide +kernel
theorem dX8_valueAt_13 : decode cX8_valueAt 13 = .ok (.imul, 1) := by decide +kernel
theorem dX8_valueAt_14 : decode cX8_valueAt 14 = .ok (.iload_n 1, 1) := by decide +kernel
theorem dX8_valueAt_15 : decode cX8_valueAt 15 = .ok (.iadd, 1) := by decide +kernel
theorem dX8_valueAt_16 : decode cX8_valueAt 16 = .ok (.iconst 3, 1) := by decide +kernel
theorem dX8_valueAt_17 : decode cX8_valueAt 17 = .ok (.imul, 1) := by decide +kernel
theorem dX8_valueAt_18 : decode cX8_valueAt 18 = .ok (.aload_n 0, 1) := by decide +kernel
theorem dX8_valueAt_19 : decode cX8_valueAt 19 = .ok (.getfield 32, 3) := by decide +kernel
theorem dX8_valueAt_22 : decode cX8_valueAt 22 = .ok (.iload_n 1, 1) := by decide +kernel
theorem dX8_valueAt_23 : decode cX8_valueAt 23 = .ok (.iaload, 1) := by decide +kernel
theorem dX8_valueAt_24 : decode cX8_valueAt 24 = .ok (.iadd, 1) := by decide +kernel
theorem dX8_valueAt_25 : decode cX8_valueAt 25 = .ok (.iaload, 1) := by decide +kernel
theorem dX8_valueAt_26 : decode cX8_valueAt 26 = .ok (.ireturn, 1) := by decide +kernel
theorem dX8_weightNow_0 : decode cX8_weightNow 0 = .ok (.iconst 1, 1) := by decide +kernel
theorem dX8_weightNow_1 : decode cX8_weightNow 1 = .ok (.istore_n 1, 1) := by decide +kernel
theorem dX8_weightNow_2 : decode cX8_weightNow 2 = .ok (.iconst 0, 1) := by decide +kernel
theorem dX8_weightNow_3 : decode cX8_weightNow 3 = .ok (.istore_n 2, 1) := by decide +kernel
theorem dX8_weightNow_4 : decode cX8_weightNow 4 = .ok (.iload_n 2, 1) := by decide +kernel
theorem dX8_weightNow_5 : decode cX8_weightNow 5 = .ok (.aload_n 0, 1) := by decide +kernel
theorem dX8_weightNow_6 : decode cX8_weightNow 6 = .ok (.getfield 58, 3) := by decide +kernel
theorem dX8_weightNow_9 : decode cX8_weightNow 9 = .ok (.if_icmp .ge 38, 3) := by decide +kernel
theorem dX8_weightNow_12 : decode cX8_weightNow 12 = .ok (.iload_n 1, 1) := by decide +kernel
theorem dX8_weightNow_13 : decode cX8_weightNow 13 = .ok (.aload_n 0, 1) := by decide +kernel
theorem dX8_weightNow_14 : decode cX8_weightNow 14 = .ok (.getfield 12, 3) := by decide +kernel
theorem dX8_weightNow_17 : decode cX8_weightNow 17 = .ok (.getfield 124, 3) := by decide +kernel
theorem dX8_weightNow_20 : decode cX8_weightNow 20 = .ok (.aload_n 0, 1) := by decide +kernel
theorem dX8_weightNow_21 : decode cX8_weightNow 21 = .ok (.getfield 51, 3) := by decide +kernel
theorem dX8_weightNow_24 : decode cX8_weightNow 24 = .ok (.bipush 6, 2) := by decide +kernel
theorem dX8_weightNow_26 : decode cX8_weightNow 26 = .ok (.imul, 1) := by decide +kernel
theorem dX8_weightNow_27 : decode cX8_weightNow 27 = .ok (.iload_n 2, 1) := by decide +kernel
theorem dX8_weightNow_28 : decode cX8_weightNow 28 = .ok (.iadd, 1) := by decide +kernel
theorem dX8_weightNow_29 : decode cX8_weightNow 29 = .ok (.iconst 3, 1) := by decide +kernel
theorem dX8_weightNow_30 : decode cX8_weightNow 30 = .ok (.imul, 1) := by decide +kernel
theorem dX8_weightNow_31 : decode cX8_weightNow 31 = .ok (.aload_n 0, 1) := by decide +kernel
theorem dX8_weightNow_32 : decode cX8_weightNow 32 = .ok (.getfield 32, 3) := by decide +kernel
theorem dX8_weightNow_35 : decode cX8_weightNow 35 = .ok (.iload_n 2, 1) := by decide +kernel
theorem dX8_weightNow_36 : decode cX8_weightNow 36 = .ok (.iaload, 1) := by decide +kernel
theorem dX8_weightNow_37 : decode cX8_weightNow 37 = .ok (.iadd, 1) := by decide +kernel
theorem dX8_weightNow_38 : decode cX8_weightNow 38 = .ok (.iaload, 1) := by decide +kernel
theorem dX8_weightNow_39 : decode cX8_weightNow 39 = .ok (.imul, 1) := by decide +kernel
theorem dX8_weightNow_40 : decode cX8_weightNow 40 = .ok (.istore_n 1, 1) := by decide +kernel
theorem dX8_weightNow_41 : decode cX8_weightNow 41 = .ok (.iinc 2 1, 3) := by decide +kernel
theorem dX8_weightNow_44 : decode cX8_weightNow 44 = .ok (.goto (-40), 3) := by decide +kernel
theorem dX8_weightNow_47 : decode cX8_weightNow 47 = .ok (.iload_n 1, 1) := by decide +kernel
theorem dX8_weightNow_48 : decode cX8_weightNow 48 = .ok (.ireturn, 1) := by decide +kernel
theorem dX8_play_0 : decode cX8_play 0 = .ok (.aload_n 0, 1) := by decide +kernel
theorem dX8_play_1 : decode cX8_play 1 = .ok (.getfield 66, 3) := by decide +kernel
theorem dX8_play_4 : decode cX8_play 4 = .ok (.istore_n 1, 1) := by decide +kernel
theorem dX8_play_5 : decode cX8_play 5 = .ok (.iload_n 1, 1) := by decide +kernel
theorem dX8_play_6 : decode cX8_play 6 = .ok (.ifCond .lt 36, 3) := by decide +kernel
theorem dX8_play_9 : decode cX8_play 9 = .ok (.aload_n 0, 1) := by decide +kernel
theorem dX8_play_10 : decode cX8_play 10 = .ok (.getfield 36, 3) := by decide +kernel
theorem dX8_play_13 : decode cX8_play 13 = .ok (.iload_n 1, 1) := by decide +kernel
theorem dX8_play_14 : decode cX8_play 14 = .ok (.iconst 0, 1) := by decide +kernel
theorem dX8_play_15 : decode cX8_play 15 = .ok (.iastore, 1) := by decide +kernel
theorem dX8_play_16 : decode cX8_play 16 = .ok (.aload_n 0, 1) := by decide +kernel
theorem dX8_play_17 : decode cX8_play 17 = .ok (.getfield 39, 3) := by decide +kernel
theorem dX8_play_20 : decode cX8_play 20 = .ok (.iload_n 1, 1) := by decide +kernel
theorem dX8_play_21 : decode cX8_play 21 = .ok (.iconst (-1), 1) := by decide +kernel
theorem dX8_play_22 : decode cX8_play 22 = .ok (.iastore, 1) := by decide +kernel
theorem dX8_play_23 : decode cX8_play 23 = .ok (.iload_n 1, 1) := by decide +kernel
theorem dX8_play_24 : decode cX8_play 24 = .ok (.aload_n 0, 1) := by decide +kernel
theorem dX8_play_25 : decode cX8_play 25 = .ok (.getfield 81, 3) := by decide +kernel
theorem dX8_play_28 : decode cX8_play 28 = .ok (.if_icmp .lt 8, 3) := by decide +kernel
theorem dX8_play_31 : decode cX8_play 31 = .ok (.aload_n 0, 1) := by decide +kernel
theorem dX8_play_32 : decode cX8_play 32 = .ok (.iload_n 1, 1) := by decide +kernel
theorem dX8_play_33 : decode cX8_play 33 = .ok (.invokevirtual 127, 3) := by decide +kernel
theorem dX8_play_36 : decode cX8_play 36 = .ok (.iinc 1 (-1), 3) := by decide +kernel
theorem dX8_play_39 : decode cX8_play 39 = .ok (.goto (-34), 3) := by decide +kernel
theorem dX8_play_42 : decode cX8_play 42 = .ok (.aload_n 0, 1) := by decide +kernel
theorem dX8_play_43 : decode cX8_play 43 = .ok (.iconst (-1), 1) := by decide +kernel
theorem dX8_play_44 : decode cX8_play 44 = .ok (.putfield 66, 3) := by decide +kernel
theorem dX8_play_47 : decode cX8_play 47 = .ok (.return_, 1) := by decide +kernel
theorem dX8_ruleOf_0 : decode cX8_ruleOf 0 = .ok (.aload_n 0, 1) := by decide +kernel
theorem dX8_ruleOf_1 : decode cX8_ruleOf 1 = .ok (.getfield 28, 3) := by decide +kernel
theorem dX8_ruleOf_4 : decode cX8_ruleOf 4 = .ok (.getfield 130, 3) := by decide +kernel
theorem dX8_ruleOf_7 : decode cX8_ruleOf 7 = .ok (.aload_n 0, 1) := by decide +kernel
theorem dX8_ruleOf_8 : decode cX8_ruleOf 8 = .ok (.getfield 12, 3) := by decide +kernel
theorem dX8_ruleOf_11 : decode cX8_ruleOf 11 = .ok (.getfield 133, 3) := by decide +kernel
theorem dX8_ruleOf_14 : decode cX8_ruleOf 14 = .ok (.aload_n 0, 1) := by decide +kernel
theorem dX8_ruleOf_15 : decode cX8_ruleOf 15 = .ok (.getfield 51, 3) := by decide +kernel
theorem dX8_ruleOf_18 : decode cX8_ruleOf 18 = .ok (.bipush 6, 2) := by decide +kernel
theorem dX8_ruleOf_20 : decode cX8_ruleOf 20 = .ok (.imul, 1) := by decide +kernel
theorem dX8_ruleOf_21 : decode cX8_ruleOf 21 = .ok (.iload_n 1, 1) := by decide +kernel
theorem dX8_ruleOf_22 : decode cX8_ruleOf 22 = .ok (.iadd, 1) := by decide +kernel
theorem dX8_ruleOf_23 : decode cX8_ruleOf 23 = .ok (.iaload, 1) := by decide +kernel
theorem dX8_ruleOf_24 : decode cX8_ruleOf 24 = .ok (.iconst 5, 1) := by decide +kernel
theorem dX8_ruleOf_25 : decode cX8_ruleOf 25 = .ok (.imul, 1) := by decide +kernel
theorem dX8_ruleOf_26 : decode cX8_ruleOf 26 = .ok (.iload_n 2, 1) := by decide +kernel
theorem dX8_ruleOf_27 : decode cX8_ruleOf 27 = .ok (.iadd, 1) := by decide +kernel
theorem dX8_ruleOf_28 : decode cX8_ruleOf 28 = .ok (.iaload, 1) := by decide +kernel
theorem dX8_ruleOf_29 : decode cX8_ruleOf 29 = .ok (.ireturn, 1) := by decide +kernel
theorem dX8_playWet_0 : decode cX8_playWet 0 = .ok (.aload_n 0, 1) := by decide +kernel
theorem dX8_playWet_1 : decode cX8_playWet 1 = .ok (.iload_n 1, 1) := by decide +kernel
theorem dX8_playWet_2 : decode cX8_playWet 2 = .ok (.iconst 2, 1) := by decide +kernel
theorem dX8_playWet_3 : decode cX8_playWet 3 = .ok (.invokevirtual 136, 3) := by decide +kernel
theorem dX8_playWet_6 : decode cX8_playWet 6 = .ok (.istore_n 2, 1) := by decide +kernel
theorem dX8_playWet_7 : decode cX8_playWet 7 = .ok (.sipush 1000, 3) := by decide +kernel
theorem dX8_playWet_10 : decode cX8_playWet 10 = .ok (.aload_n 0, 1) := by decide +kernel
theorem dX8_playWet_11 : decode cX8_playWet 11 = .ok (.iload_n 1, 1) := by decide +kernel
theorem dX8_playWet_12 : decode cX8_playWet 12 = .ok (.iconst 1, 1) := by decide +kernel
theorem dX8_playWet_13 : decode cX8_playWet 13 = .ok (.invokevirtual 136, 3) := by decide +kernel
theorem dX8_playWet_16 : decode cX8_playWet 16 = .ok (.aload_n 0, 1) := by decide +kernel
theorem dX8_playWet_17 : decode cX8_playWet 17 = .ok (.getfield 75, 3) := by decide +kernel
theorem dX8_playWet_20 : decode cX8_playWet 20 = .ok (.iadd, 1) := by decide +kernel
theorem dX8_playWet_21 : decode cX8_playWet 21 = .ok (.invokestatic 139, 3) := by decide +kernel
theorem dX8_playWet_24 : decode cX8_playWet 24 = .ok (.istore_n 3, 1) := by decide +kernel
theorem dX8_playWet_25 : decode cX8_playWet 25 = .ok (.aload_n 0, 1) := by decide +kernel
theorem dX8_playWet_26 : decode cX8_playWet 26 = .ok (.iload_n 1, 1) := by decide +kernel
theorem dX8_playWet_27 : decode cX8_playWet 27 = .ok (.iconst 0, 1) := by decide +kernel
theorem dX8_playWet_28 : decode cX8_playWet 28 = .ok (.invokevirtual 136, 3) := by decide +kernel
theorem dX8_playWet_31 : decode cX8_playWet 31 = .ok (.iconst 0, 1) := by decide +kernel
theorem dX8_playWet_32 : decode cX8_playWet 32 = .ok (.aload_n 0, 1) := by decide +kernel
theorem dX8_playWet_33 : decode cX8_playWet 33 = .ok (.iload_n 1, 1) := by decide +kernel
theorem dX8_playWet_34 : decode cX8_playWet 34 = .ok (.invokevirtual 142, 3) := by decide +kernel
theorem dX8_playWet_37 : decode cX8_playWet 37 = .ok (.aload_n 0, 1) := by decide +kernel
theorem dX8_playWet_38 : decode cX8_playWet 38 = .ok (.getfield 78, 3) := by decide +kernel
theorem dX8_playWet_41 : decode cX8_playWet 41 = .ok (.isub, 1) := by decide +kernel
theorem dX8_playWet_42 : decode cX8_playWet 42 = .ok (.invokestatic 112, 3) := by decide +kernel
theorem dX8_playWet_45 : decode cX8_playWet 45 = .ok (.imul, 1) := by decide +kernel
theorem dX8_playWet_46 : decode cX8_playWet 46 = .ok (.istore 4, 2) := by decide +kernel
theorem dX8_playWet_48 : decode cX8_playWet 48 = .ok (.bipush 10, 2) := by decide +kernel
theorem dX8_playWet_50 : decode cX8_playWet 50 = .ok (.aload_n 0, 1) := by decide +kernel
theorem dX8_playWet_51 : decode cX8_playWet 51 = .ok (.getfield 42, 3) := by decide +kernel
theorem dX8_playWet_54 : decode cX8_playWet 54 = .ok (.iload_n 1, 1) := by decide +kernel
theorem dX8_playWet_55 : decode cX8_playWet 55 = .ok (.iaload, 1) := by decide +kernel
theorem dX8_playWet_56 : decode cX8_playWet 56 = .ok (.imul, 1) := by decide +kernel
theorem dX8_playWet_57 : decode cX8_playWet 57 = .ok (.istore 5, 2) := by decide +kernel
theorem dX8_playWet_59 : decode cX8_playWet 59 = .ok (.iconst 0, 1) := by decide +kernel
theorem dX8_playWet_60 : decode cX8_playWet 60 = .ok (.istore 6, 2) := by decide +kernel
theorem dX8_playWet_62 : decode cX8_playWet 62 = .ok (.iload 6, 2) := by decide +kernel
theorem dX8_playWet_64 : decode cX8_playWet 64 = .ok (.aload_n 0, 1) := by decide +kernel
theorem dX8_playWet_65 : decode cX8_playWet 65 = .ok (.getfield 63, 3) := by decide +kernel
theorem dX8_playWet_68 : decode cX8_playWet 68 = .ok (.if_icmp .ge 162, 3) := by decide +kernel
theorem dX8_playWet_71 : decode cX8_playWet 71 = .ok (.iload 6, 2) := by decide +kernel
theorem dX8_playWet_73 : decode cX8_playWet 73 = .ok (.aload_n 0, 1) := by decide +kernel
theorem dX8_playWet_74 : decode cX8_playWet 74 = .ok (.getfield 60, 3) := by decide +kernel
theorem dX8_playWet_77 : decode cX8_playWet 77 = .ok (.if_icmp .ge 81, 3) := by decide +kernel
theorem dX8_playWet_80 : decode cX8_playWet 80 = .ok (.aload_n 0, 1) := by decide +kernel
theorem dX8_playWet_81 : decode cX8_playWet 81 = .ok (.getfield 45, 3) := by decide +kernel
theorem dX8_playWet_84 : decode cX8_playWet 84 = .ok (.iload_n 1, 1) := by decide +kernel
theorem dX8_playWet_85 : decode cX8_playWet 85 = .ok (.bipush 30, 2) := by decide +kernel
theorem dX8_playWet_87 : decode cX8_playWet 87 = .ok (.imul, 1) := by decide +kernel
theorem dX8_playWet_88 : decode cX8_playWet 88 = .ok (.iload 6, 2) := by decide +kernel
theorem dX8_playWet_90 : decode cX8_playWet 90 = .ok (.iadd, 1) := by decide +kernel
theorem dX8_playWet_91 : decode cX8_playWet 91 = .ok (.iaload, 1) := by decide +kernel
theorem dX8_playWet_92 : decode cX8_playWet 92 = .ok (.istore 7, 2) := by decide +kernel
theorem dX8_playWet_94 : decode cX8_playWet 94 = .ok (.aload_n 0, 1) := by decide +kernel
theorem dX8_playWet_95 : decode cX8_playWet 95 = .ok (.getfield 39, 3) := by decide +kernel
theorem dX8_playWet_98 : decode cX8_playWet 98 = .ok (.iload_n 1, 1) := by decide +kernel
theorem dX8_playWet_99 : decode cX8_playWet 99 = .ok (.iaload, 1) := by decide +kernel
theorem dX8_playWet_100 : decode cX8_playWet 100 = .ok (.iconst (-1), 1) := by decide +kernel
theorem dX8_playWet_101 : decode cX8_playWet 101 = .ok (.if_icmp .ne 7, 3) := by decide +kernel
theorem dX8_playWet_104 : decode cX8_playWet 104 = .ok (.iload_n 2, 1) := by decide +kernel
theorem dX8_playWet_105 : decode cX8_playWet 105 = .ok (.goto 10, 3) := by decide +kernel
theorem dX8_playWet_108 : decode cX8_playWet 108 = .ok (.aload_n 0, 1) := by decide +kernel
theorem dX8_playWet_109 : decode cX8_playWet 109 = .ok (.getfield 28, 3) := by decide +kernel
theorem dX8_playWet_112 : decode cX8_playWet 112 = .ok (.invokevirtual 146, 3) := by decide +kernel
theorem dX8_playWet_115 : decode cX8_playWet 115 = .ok (.istore 8, 2) := by decide +kernel
theorem dX8_playWet_117 : decode cX8_playWet 117 = .ok (.iload_n 1, 1) := by decide +kernel
theorem dX8_playWet_118 : decode cX8_playWet 118 = .ok (.ifCond .le 25, 3) := by decide +kernel
theorem dX8_playWet_121 : decode cX8_playWet 121 = .ok (.aload_n 0, 1) := by decide +kernel
theorem dX8_playWet_122 : decode cX8_playWet 122 = .ok (.getfield 45, 3) := by decide +kernel
theorem dX8_playWet_125 : decode cX8_playWet 125 = .ok (.iload_n 1, 1) := by decide +kernel
theorem dX8_playWet_126 : decode cX8_playWet 126 = .ok (.iconst 1, 1) := by decide +kernel
theorem dX8_playWet_127 : decode cX8_playWet 127 = .ok (.isub, 1) := by decide +kernel
theorem dX8_playWet_128 : decode cX8_playWet 128 = .ok (.bipush 30, 2) := by decide +kernel
theorem dX8_playWet_130 : decode cX8_playWet 130 = .ok (.imul, 1) := by decide +kernel
theorem dX8_playWet_131 : decode cX8_playWet 131 = .ok (.iload 6, 2) := by decide +kernel
theorem dX8_playWet_133 : decode cX8_playWet 133 = .ok (.iadd, 1) := by decide +kernel
theorem dX8_playWet_134 : decode cX8_playWet 134 = .ok (.iload 7, 2) := by decide +kernel
theorem dX8_playWet_136 : decode cX8_playWet 136 = .ok (.iload 8, 2) := by decide +kernel
theorem dX8_playWet_138 : decode cX8_playWet 138 = .ok (.imul, 1) := by decide +kernel
theorem dX8_playWet_139 : decode cX8_playWet 139 = .ok (.bipush 100, 2) := by decide +kernel
theorem dX8_playWet_141 : decode cX8_playWet 141 = .ok (.idiv, 1) := by decide +kernel
theorem dX8_playWet_142 : decode cX8_playWet 142 = .ok (.iastore, 1) := by decide +kernel
theorem dX8_playWet_143 : decode cX8_playWet 143 = .ok (.aload_n 0, 1) := by decide +kernel
theorem dX8_playWet_144 : decode cX8_playWet 144 = .ok (.iload_n 1, 1) := by decide +kernel
theorem dX8_playWet_145 : decode cX8_playWet 145 = .ok (.iload 6, 2) := by decide +kernel
theorem dX8_playWet_147 : decode cX8_playWet 147 = .ok (.iload 7, 2) := by decide +kernel
theorem dX8_playWet_149 : decode cX8_playWet 149 = .ok (.iload 4, 2) := by decide +kernel
theorem dX8_playWet_151 : decode cX8_playWet 151 = .ok (.imul, 1) := by decide +kernel
theorem dX8_playWet_152 : decode cX8_playWet 152 = .ok (.iload 5, 2) := by decide +kernel
theorem dX8_playWet_154 : decode cX8_playWet 154 = .ok (.idiv, 1) := by decide +kernel
theorem dX8_playWet_155 : decode cX8_playWet 155 = .ok (.invokevirtual 149, 3) := by decide +kernel
theorem dX8_playWet_158 : decode cX8_playWet 158 = .ok (.aload_n 0, 1) := by decide +kernel
theorem dX8_playWet_159 : decode cX8_playWet 159 = .ok (.getfield 36, 3) := by decide +kernel
theorem dX8_playWet_162 : decode cX8_playWet 162 = .ok (.iload_n 1, 1) := by decide +kernel
theorem dX8_playWet_163 : decode cX8_playWet 163 = .ok (.iaload, 1) := by decide +kernel
theorem dX8_playWet_164 : decode cX8_playWet 164 = .ok (.iload_n 3, 1) := by decide +kernel
theorem dX8_playWet_165 : decode cX8_playWet 165 = .ok (.imul, 1) := by decide +kernel
theorem dX8_playWet_166 : decode cX8_playWet 166 = .ok (.sipush 1000, 3) := by decide +kernel
theorem dX8_playWet_169 : decode cX8_playWet 169 = .ok (.idiv, 1) := by decide +kernel
theorem dX8_playWet_170 : decode cX8_playWet 170 = .ok (.istore 7, 2) := by decide +kernel
theorem dX8_playWet_172 : decode cX8_playWet 172 = .ok (.aload_n 0, 1) := by decide +kernel
theorem dX8_playWet_173 : decode cX8_playWet 173 = .ok (.getfield 36, 3) := by decide +kernel
theorem dX8_playWet_176 : decode cX8_playWet 176 = .ok (.iload_n 1, 1) := by decide +kernel
theorem dX8_playWet_177 : decode cX8_playWet 177 = .ok (.dup2, 1) := by decide +kernel
theorem dX8_playWet_178 : decode cX8_playWet 178 = .ok (.iaload, 1) := by decide +kernel
theorem dX8_playWet_179 : decode cX8_playWet 179 = .ok (.iload 7, 2) := by decide +kernel
theorem dX8_playWet_181 : decode cX8_playWet 181 = .ok (.isub, 1) := by decide +kernel
theorem dX8_playWet_182 : decode cX8_playWet 182 = .ok (.iastore, 1) := by decide +kernel
theorem dX8_playWet_183 : decode cX8_playWet 183 = .ok (.aload_n 0, 1) := by decide +kernel
theorem dX8_playWet_184 : decode cX8_playWet 184 = .ok (.iload_n 1, 1) := by decide +kernel
theorem dX8_playWet_185 : decode cX8_playWet 185 = .ok (.iload 6, 2) := by decide +kernel
theorem dX8_playWet_187 : decode cX8_playWet 187 = .ok (.aload_n 0, 1) := by decide +kernel
theorem dX8_playWet_188 : decode cX8_playWet 188 = .ok (.getfield 48, 3) := by decide +kernel
theorem dX8_playWet_191 : decode cX8_playWet 191 = .ok (.iload_n 1, 1) := by decide +kernel
theorem dX8_playWet_192 : decode cX8_playWet 192 = .ok (.bipush 60, 2) := by decide +kernel
theorem dX8_playWet_194 : decode cX8_playWet 194 = .ok (.imul, 1) := by decide +kernel
theorem dX8_playWet_195 : decode cX8_playWet 195 = .ok (.iload 6, 2) := by decide +kernel
theorem dX8_playWet_197 : decode cX8_playWet 197 = .ok (.iadd, 1) := by decide +kernel
theorem dX8_playWet_198 : decode cX8_playWet 198 = .ok (.iaload, 1) := by decide +kernel
theorem dX8_playWet_199 : decode cX8_playWet 199 = .ok (.invokevirtual 149, 3) := by decide +kernel
theorem dX8_playWet_202 : decode cX8_playWet 202 = .ok (.iload_n 1, 1) := by decide +kernel
theorem dX8_playWet_203 : decode cX8_playWet 203 = .ok (.ifCond .le 21, 3) := by decide +kernel
theorem dX8_playWet_206 : decode cX8_playWet 206 = .ok (.aload_n 0, 1) := by decide +kernel
theorem dX8_playWet_207 : decode cX8_playWet 207 = .ok (.getfield 48, 3) := by decide +kernel
theorem dX8_playWet_210 : decode cX8_playWet 210 = .ok (.iload_n 1, 1) := by decide +kernel
theorem dX8_playWet_211 : decode cX8_playWet 211 = .ok (.iconst 1, 1) := by decide +kernel
theorem dX8_playWet_212 : decode cX8_playWet 212 = .ok (.isub, 1) := by decide +kernel
theorem dX8_playWet_213 : decode cX8_playWet 213 = .ok (.bipush 60, 2) := by decide +kernel
theorem dX8_playWet_215 : decode cX8_playWet 215 = .ok (.imul, 1) := by decide +kernel
theorem dX8_playWet_216 : decode cX8_playWet 216 = .ok (.iload 6, 2) := by decide +kernel
theorem dX8_playWet_218 : decode cX8_playWet 218 = .ok (.iadd, 1) := by decide +kernel
theorem dX8_playWet_219 : decode cX8_playWet 219 = .ok (.iload 7, 2) := by decide +kernel
theorem dX8_playWet_221 : decode cX8_playWet 221 = .ok (.iconst 2, 1) := by decide +kernel
theorem dX8_playWet_222 : decode cX8_playWet 222 = .ok (.idiv, 1) := by decide +kernel
theorem dX8_playWet_223 : decode cX8_playWet 223 = .ok (.iastore, 1) := by decide +kernel
theorem dX8_playWet_224 : decode cX8_playWet 224 = .ok (.iinc 6 1, 3) := by decide +kernel
theorem dX8_playWet_227 : decode cX8_playWet 227 = .ok (.goto (-165), 3) := by decide +kernel
theorem dX8_playWet_230 : decode cX8_playWet 230 = .ok (.return_, 1) := by decide +kernel
theorem dX8_gain_0 : decode cX8_gain 0 = .ok (.aload_n 0, 1) := by decide +kernel
theorem dX8_gain_1 : decode cX8_gain 1 = .ok (.getfield 39, 3) := by decide +kernel
theorem dX8_gain_4 : decode cX8_gain 4 = .ok (.iload_n 1, 1) := by decide +kernel
theorem dX8_gain_5 : decode cX8_gain 5 = .ok (.iaload, 1) := by decide +kernel
theorem dX8_gain_6 : decode cX8_gain 6 = .ok (.iconst (-1), 1) := by decide +kernel
theorem dX8_gain_7 : decode cX8_gain 7 = .ok (.if_icmp .eq 4, 3) := by decide +kernel
theorem dX8_gain_10 : decode cX8_gain 10 = .ok (.return_, 1) := by decide +kernel
theorem dX8_gain_11 : decode cX8_gain 11 = .ok (.aload_n 0, 1) := by decide +kernel
theorem dX8_gain_12 : decode cX8_gain 12 = .ok (.getfield 36, 3) := by decide +kernel
theorem dX8_gain_15 : decode cX8_gain 15 = .ok (.iload_n 1, 1) := by decide +kernel
theorem dX8_gain_16 : decode cX8_gain 16 = .ok (.dup2, 1) := by decide +kernel
theorem dX8_gain_17 : decode cX8_gain 17 = .ok (.iaload, 1) := by decide +kernel
theorem dX8_gain_18 : decode cX8_gain 18 = .ok (.iload_n 3, 1) := by decide +kernel
theorem dX8_gain_19 : decode cX8_gain 19 = .ok (.iadd, 1) := by decide +kernel
theorem dX8_gain_20 : decode cX8_gain 20 = .ok (.iastore, 1) := by decide +kernel
theorem dX8_gain_21 : decode cX8_gain 21 = .ok (.aload_n 0, 1) := by decide +kernel
theorem dX8_gain_22 : decode cX8_gain 22 = .ok (.getfield 36, 3) := by decide +kernel
theorem dX8_gain_25 : decode cX8_gain 25 = .ok (.iload_n 1, 1) := by decide +kernel
theorem dX8_gain_26 : decode cX8_gain 26 = .ok (.iaload, 1) := by decide +kernel
theorem dX8_gain_27 : decode cX8_gain 27 = .ok (.sipush 1000, 3) := by decide +kernel
theorem dX8_gain_30 : decode cX8_gain 30 = .ok (.if_icmp .ge 4, 3) := by decide +kernel
theorem dX8_gain_33 : decode cX8_gain 33 = .ok (.return_, 1) := by decide +kernel
theorem dX8_gain_34 : decode cX8_gain 34 = .ok (.aload_n 0, 1) := by decide +kernel
theorem dX8_gain_35 : decode cX8_gain 35 = .ok (.getfield 36, 3) := by decide +kernel
theorem dX8_gain_38 : decode cX8_gain 38 = .ok (.iload_n 1, 1) := by decide +kernel
theorem dX8_gain_39 : decode cX8_gain 39 = .ok (.sipush 1000, 3) := by decide +kernel
theorem dX8_gain_42 : decode cX8_gain 42 = .ok (.iastore, 1) := by decide +kernel
theorem dX8_gain_43 : decode cX8_gain 43 = .ok (.aload_n 0, 1) := by decide +kernel
theorem dX8_gain_44 : decode cX8_gain 44 = .ok (.getfield 39, 3) := by decide +kernel
theorem dX8_gain_47 : decode cX8_gain 47 = .ok (.iload_n 1, 1) := by decide +kernel
theorem dX8_gain_48 : decode cX8_gain 48 = .ok (.iload_n 2, 1) := by decide +kernel
theorem dX8_gain_49 : decode cX8_gain 49 = .ok (.iastore, 1) := by decide +kernel
theorem dX8_gain_50 : decode cX8_gain 50 = .ok (.return_, 1) := by decide +kernel
theorem dX8_someGone_0 : decode cX8_someGone 0 = .ok (.iconst 0, 1) := by decide +kernel
theorem dX8_someGone_1 : decode cX8_someGone 1 = .ok (.istore_n 1, 1) := by decide +kernel
theorem dX8_someGone_2 : decode cX8_someGone 2 = .ok (.iload_n 1, 1) := by decide +kernel
theorem dX8_someGone_3 : decode cX8_someGone 3 = .ok (.aload_n 0, 1) := by decide +kernel
theorem dX8_someGone_4 : decode cX8_someGone 4 = .ok (.getfield 58, 3) := by decide +kernel
theorem dX8_someGone_7 : decode cX8_someGone 7 = .ok (.if_icmp .ge 21, 3) := by decide +kernel
theorem dX8_someGone_10 : decode cX8_someGone 10 = .ok (.aload_n 0, 1) := by decide +kernel
theorem dX8_someGone_11 : decode cX8_someGone 11 = .ok (.getfield 39, 3) := by decide +kernel
theorem dX8_someGone_14 : decode cX8_someGone 14 = .ok (.iload_n 1, 1) := by decide +kernel
theorem dX8_someGone_15 : decode cX8_someGone 15 = .ok (.iaload, 1) := by decide +kernel
theorem dX8_someGone_16 : decode cX8_someGone 16 = .ok (.iconst (-1), 1) := by decide +kernel
theorem dX8_someGone_17 : decode cX8_someGone 17 = .ok (.if_icmp .eq 5, 3) := by decide +kernel
theorem dX8_someGone_20 : decode cX8_someGone 20 = .ok (.iconst 1, 1) := by decide +kernel
theorem dX8_someGone_21 : decode cX8_someGone 21 = .ok (.ireturn, 1) := by decide +kernel
theorem dX8_someGone_22 : decode cX8_someGone 22 = .ok (.iinc 1 1, 3) := by decide +kernel
theorem dX8_someGone_25 : decode cX8_someGone 25 = .ok (.goto (-23), 3) := by decide +kernel
theorem dX8_someGone_28 : decode cX8_someGone 28 = .ok (.iconst 0, 1) := by decide +kernel
theorem dX8_someGone_29 : decode cX8_someGone 29 = .ok (.ireturn, 1) := by decide +kernel
theorem dX8_partOf_0 : decode cX8_partOf 0 = .ok (.aload_n 0, 1) := by decide +kernel
theorem dX8_partOf_1 : decode cX8_partOf 1 = .ok (.getfield 39, 3) := by decide +kernel
theorem dX8_partOf_4 : decode cX8_partOf 4 = .ok (.iload_n 1, 1) := by decide +kernel
theorem dX8_partOf_5 : decode cX8_partOf 5 = .ok (.iaload, 1) := by decide +kernel
theorem dX8_partOf_6 : decode cX8_partOf 6 = .ok (.iconst (-1), 1) := by decide +kernel
theorem dX8_partOf_7 : decode cX8_partOf 7 = .ok (.if_icmp .ne 5, 3) := by decide +kernel
theorem dX8_partOf_10 : decode cX8_partOf 10 = .ok (.iconst 0, 1) := by decide +kernel
theorem dX8_partOf_11 : decode cX8_partOf 11 = .ok (.ireturn, 1) := by decide +kernel
theorem dX8_partOf_12 : decode cX8_partOf 12 = .ok (.aload_n 0, 1) := by decide +kernel
theorem dX8_partOf_13 : decode cX8_partOf 13 = .ok (.getfield 12, 3) := by decide +kernel
theorem dX8_partOf_16 : decode cX8_partOf 16 = .ok (.getfield 152, 3) := by decide +kernel
theorem dX8_partOf_19 : decode cX8_partOf 19 = .ok (.aload_n 0, 1) := by decide +kernel
theorem dX8_partOf_20 : decode cX8_partOf 20 = .ok (.getfield 51, 3) := by decide +kernel
theorem dX8_partOf_23 : decode cX8_partOf 23 = .ok (.bipush 6, 2) := by decide +kernel
theorem dX8_partOf_25 : decode cX8_partOf 25 = .ok (.imul, 1) := by decide +kernel
theorem dX8_partOf_26 : decode cX8_partOf 26 = .ok (.iload_n 1, 1) := by decide +kernel
theorem dX8_partOf_27 : decode cX8_partOf 27 = .ok (.iadd, 1) := by decide +kernel
theorem dX8_partOf_28 : decode cX8_partOf 28 = .ok (.iaload, 1) := by decide +kernel
theorem dX8_partOf_29 : decode cX8_partOf 29 = .ok (.iconst 2, 1) := by decide +kernel
theorem dX8_partOf_30 : decode cX8_partOf 30 = .ok (.iload_n 2, 1) := by decide +kernel
theorem dX8_partOf_31 : decode cX8_partOf 31 = .ok (.imul, 1) := by decide +kernel
theorem dX8_partOf_32 : decode cX8_partOf 32 = .ok (.aload_n 0, 1) := by decide +kernel
theorem dX8_partOf_33 : decode cX8_partOf 33 = .ok (.getfield 12, 3) := by decide +kernel
theorem dX8_partOf_36 : decode cX8_partOf 36 = .ok (.aload_n 0, 1) := by decide +kernel
theorem dX8_partOf_37 : decode cX8_partOf 37 = .ok (.getfield 51, 3) := by decide +kernel
theorem dX8_partOf_40 : decode cX8_partOf 40 = .ok (.iload_n 1, 1) := by decide +kernel
theorem dX8_partOf_41 : decode cX8_partOf 41 = .ok (.invokevirtual 155, 3) := by decide +kernel
theorem dX8_partOf_44 : decode cX8_partOf 44 = .ok (.isub, 1) := by decide +kernel
theorem dX8_partOf_45 : decode cX8_partOf 45 = .ok (.invokestatic 139, 3) := by decide +kernel
theorem dX8_partOf_48 : decode cX8_partOf 48 = .ok (.istore_n 3, 1) := by decide +kernel
theorem dX8_partOf_49 : decode cX8_partOf 49 = .ok (.iconst 0, 1) := by decide +kernel
theorem dX8_partOf_50 : decode cX8_partOf 50 = .ok (.iload_n 3, 1) := by decide +kernel
theorem dX8_partOf_51 : decode cX8_partOf 51 = .ok (.invokestatic 112, 3) := by decide +kernel
theorem dX8_partOf_54 : decode cX8_partOf 54 = .ok (.aload_n 0, 1) := by decide +kernel
theorem dX8_partOf_55 : decode cX8_partOf 55 = .ok (.iload_n 1, 1) := by decide +kernel
theorem dX8_partOf_56 : decode cX8_partOf 56 = .ok (.iconst 3, 1) := by decide +kernel
theorem dX8_partOf_57 : decode cX8_partOf 57 = .ok (.invokevirtual 136, 3) := by decide +kernel
theorem dX8_partOf_60 : decode cX8_partOf 60 = .ok (.imul, 1) := by decide +kernel
theorem dX8_partOf_61 : decode cX8_partOf 61 = .ok (.bipush 100, 2) := by decide +kernel
theorem dX8_partOf_63 : decode cX8_partOf 63 = .ok (.idiv, 1) := by decide +kernel
theorem dX8_partOf_64 : decode cX8_partOf 64 = .ok (.ireturn, 1) := by decide +kernel
theorem dX8_sinkOf_0 : decode cX8_sinkOf 0 = .ok (.iconst 0, 1) := by decide +kernel
theorem dX8_sinkOf_1 : decode cX8_sinkOf 1 = .ok (.istore_n 2, 1) := by decide +kernel
theorem dX8_sinkOf_2 : decode cX8_sinkOf 2 = .ok (.iconst 0, 1) := by decide +kernel
theorem dX8_sinkOf_3 : decode cX8_sinkOf 3 = .ok (.istore_n 3, 1) := by decide +kernel
theorem dX8_sinkOf_4 : decode cX8_sinkOf 4 = .ok (.iload_n 3, 1) := by decide +kernel
theorem dX8_sinkOf_5 : decode cX8_sinkOf 5 = .ok (.aload_n 0, 1) := by decide +kernel
theorem dX8_sinkOf_6 : decode cX8_sinkOf 6 = .ok (.getfield 58, 3) := by decide +kernel
theorem dX8_sinkOf_9 : decode cX8_sinkOf 9 = .ok (.if_icmp .ge 18, 3) := by decide +kernel
theorem dX8_sinkOf_12 : decode cX8_sinkOf 12 = .ok (.iload_n 2, 1) := by decide +kernel
theorem dX8_sinkOf_13 : decode cX8_sinkOf 13 = .ok (.aload_n 0, 1) := by decide +kernel
theorem dX8_sinkOf_14 : decode cX8_sinkOf 14 = .ok (.iload_n 3, 1) := by decide +kernel
theorem dX8_sinkOf_15 : decode cX8_sinkOf 15 = .ok (.iload_n 1, 1) := by decide +kernel
theorem dX8_sinkOf_16 : decode cX8_sinkOf 16 = .ok (.invokevirtual 158, 3) := by decide +kernel
theorem dX8_sinkOf_19 : decode cX8_sinkOf 19 = .ok (.iadd, 1) := by decide +kernel
theorem dX8_sinkOf_20 : decode cX8_sinkOf 20 = .ok (.istore_n 2, 1) := by decide +kernel
theorem dX8_sinkOf_21 : decode cX8_sinkOf 21 = .ok (.iinc 3 1, 3) := by decide +kernel
theorem dX8_sinkOf_24 : decode cX8_sinkOf 24 = .ok (.goto (-20), 3) := by decide +kernel
theorem dX8_sinkOf_27 : decode cX8_sinkOf 27 = .ok (.iload_n 2, 1) := by decide +kernel
theorem dX8_sinkOf_28 : decode cX8_sinkOf 28 = .ok (.ireturn, 1) := by decide +kernel
theorem dX8_greatestPart_0 : decode cX8_greatestPart 0 = .ok (.iconst 0, 1) := by decide +kernel
theorem dX8_greatestPart_1 : decode cX8_greatestPart 1 = .ok (.istore_n 2, 1) := by decide +kernel
theorem dX8_greatestPart_2 : decode cX8_greatestPart 2 = .ok (.iconst 1, 1) := by decide +kernel
theorem dX8_greatestPart_3 : decode cX8_greatestPart 3 = .ok (.istore_n 3, 1) := by decide +kernel
theorem dX8_greatestPart_4 : decode cX8_greatestPart 4 = .ok (.iload_n 3, 1) := by decide +kernel
theorem dX8_greatestPart_5 : decode cX8_greatestPart 5 = .ok (.aload_n 0, 1) := by decide +kernel
theorem dX8_greatestPart_6 : decode cX8_greatestPart 6 = .ok (.getfield 58, 3) := by decide +kernel
theorem dX8_greatestPart_9 : decode cX8_greatestPart 9 = .ok (.if_icmp .ge 26, 3) := by decide +kernel
theorem dX8_greatestPart_12 : decode cX8_greatestPart 12 = .ok (.aload_n 0, 1) := by decide +kernel
theorem dX8_greatestPart_13 : decode cX8_greatestPart 13 = .ok (.iload_n 3, 1) := by decide +kernel
theorem dX8_greatestPart_14 : decode cX8_greatestPart 14 = .ok (.iload_n 1, 1) := by decide +kernel
theorem dX8_greatestPart_15 : decode cX8_greatestPart 15 = .ok (.invokevirtual 158, 3) := by decide +kernel
theorem dX8_greatestPart_18 : decode cX8_greatestPart 18 = .ok (.aload_n 0, 1) := by decide +kernel
theorem dX8_greatestPart_19 : decode cX8_greatestPart 19 = .ok (.iload_n 2, 1) := by decide +kernel
theorem dX8_greatestPart_20 : decode cX8_greatestPart 20 = .ok (.iload_n 1, 1) := by decide +kernel
theorem dX8_greatestPart_21 : decode cX8_greatestPart 21 = .ok (.invokevirtual 158, 3) := by decide +kernel
theorem dX8_greatestPart_24 : decode cX8_greatestPart 24 = .ok (.if_icmp .le 5, 3) := by decide +kernel
theorem dX8_greatestPart_27 : decode cX8_greatestPart 27 = .ok (.iload_n 3, 1) := by decide +kernel
theorem dX8_greatestPart_28 : decode cX8_greatestPart 28 = .ok (.istore_n 2, 1) := by decide +kernel
theorem dX8_greatestPart_29 : decode cX8_greatestPart 29 = .ok (.iinc 3 1, 3) := by decide +kernel
theorem dX8_greatestPart_32 : decode cX8_greatestPart 32 = .ok (.goto (-28), 3) := by decide +kernel
theorem dX8_greatestPart_35 : decode cX8_greatestPart 35 = .ok (.iload_n 2, 1) := by decide +kernel
theorem dX8_greatestPart_36 : decode cX8_greatestPart 36 = .ok (.ireturn, 1) := by decide +kernel
theorem dX8_gripOf_0 : decode cX8_gripOf 0 = .ok (.aload_n 0, 1) := by decide +kernel
theorem dX8_gripOf_1 : decode cX8_gripOf 1 = .ok (.getfield 39, 3) := by decide +kernel
theorem dX8_gripOf_4 : decode cX8_gripOf 4 = .ok (.iload_n 1, 1) := by decide +kernel
theorem dX8_gripOf_5 : decode cX8_gripOf 5 = .ok (.iaload, 1) := by decide +kernel
theorem dX8_gripOf_6 : decode cX8_gripOf 6 = .ok (.iconst (-1), 1) := by decide +kernel
theorem dX8_gripOf_7 : decode cX8_gripOf 7 = .ok (.if_icmp .eq 5, 3) := by decide +kernel
theorem dX8_gripOf_10 : decode cX8_gripOf 10 = .ok (.iconst 0, 1) := by decide +kernel
theorem dX8_gripOf_11 : decode cX8_gripOf 11 = .ok (.ireturn, 1) := by decide +kernel
theorem dX8_gripOf_12 : decode cX8_gripOf 12 = .ok (.aload_n 0, 1) := by decide +kernel
theorem dX8_gripOf_13 : decode cX8_gripOf 13 = .ok (.getfield 42, 3) := by decide +kernel
theorem dX8_gripOf_16 : decode cX8_gripOf 16 = .ok (.iload_n 1, 1) := by decide +kernel
theorem dX8_gripOf_17 : decode cX8_gripOf 17 = .ok (.iaload, 1) := by decide +kernel
theorem dX8_gripOf_18 : decode cX8_gripOf 18 = .ok (.sipush 1000, 3) := by decide +kernel
theorem dX8_gripOf_21 : decode cX8_gripOf 21 = .ok (.aload_n 0, 1) := by decide +kernel
theorem dX8_gripOf_22 : decode cX8_gripOf 22 = .ok (.getfield 36, 3) := by decide +kernel
theorem dX8_gripOf_25 : decode cX8_gripOf 25 = .ok (.iload_n 1, 1) := by decide +kernel
theorem dX8_gripOf_26 : decode cX8_gripOf 26 = .ok (.iaload, 1) := by decide +kernel
theorem dX8_gripOf_27 : decode cX8_gripOf 27 = .ok (.isub, 1) := by decide +kernel
theorem dX8_gripOf_28 : decode cX8_gripOf 28 = .ok (.imul, 1) := by decide +kernel
theorem dX8_gripOf_29 : decode cX8_gripOf 29 = .ok (.sipush 1000, 3) := by decide +kernel
theorem dX8_gripOf_32 : decode cX8_gripOf 32 = .ok (.idiv, 1) := by decide +kernel
theorem dX8_gripOf_33 : decode cX8_gripOf 33 = .ok (.aload_n 0, 1) := by decide +kernel
theorem dX8_gripOf_34 : decode cX8_gripOf 34 = .ok (.iload_n 1, 1) := by decide +kernel
theorem dX8_gripOf_35 : decode cX8_gripOf 35 = .ok (.iconst 4, 1) := by decide +kernel
theorem dX8_gripOf_36 : decode cX8_gripOf 36 = .ok (.invokevirtual 136, 3) := by decide +kernel
theorem dX8_gripOf_39 : decode cX8_gripOf 39 = .ok (.imul, 1) := by decide +kernel
theorem dX8_gripOf_40 : decode cX8_gripOf 40 = .ok (.bipush 100, 2) := by decide +kernel
theorem dX8_gripOf_42 : decode cX8_gripOf 42 = .ok (.idiv, 1) := by decide +kernel
theorem dX8_gripOf_43 : decode cX8_gripOf 43 = .ok (.ireturn, 1) := by decide +kernel
theorem dX9_init_0 : decode cX9_init 0 = .ok (.aload_n 0, 1) := by decide +kernel
theorem dX9_init_1 : decode cX9_init 1 = .ok (.invokespecial 3, 3) := by decide +kernel
theorem dX9_init_4 : decode cX9_init 4 = .ok (.aload_n 0, 1) := by decide +kernel
theorem dX9_init_5 : decode cX9_init 5 = .ok (.bipush 16, 2) := by decide +kernel
theorem dX9_init_7 : decode cX9_init 7 = .ok (.newarray .int, 2) := by decide +kernel
theorem dX9_init_9 : decode cX9_init 9 = .ok (.putfield 9, 3) := by decide +kernel
theorem dX9_init_12 : decode cX9_init 12 = .ok (.aload_n 0, 1) := by decide +kernel
theorem dX9_init_13 : decode cX9_init 13 = .ok (.bipush 16, 2) := by decide +kernel
theorem dX9_init_15 : decode cX9_init 15 = .ok (.newarray .int, 2) := by decide +kernel
theorem dX9_init_17 : decode cX9_init 17 = .ok (.putfield 15, 3) := by decide +kernel
theorem dX9_init_20 : decode cX9_init 20 = .ok (.aload_n 0, 1) := by decide +kernel
theorem dX9_init_21 : decode cX9_init 21 = .ok (.bipush 16, 2) := by decide +kernel
theorem dX9_init_23 : decode cX9_init 23 = .ok (.newarray .int, 2) := by decide +kernel
theorem dX9_init_25 : decode cX9_init 25 = .ok (.putfield 18, 3) := by decide +kernel
theorem dX9_init_28 : decode cX9_init 28 = .ok (.aload_n 0, 1) := by decide +kernel
theorem dX9_init_29 : decode cX9_init 29 = .ok (.bipush 16, 2) := by decide +kernel
theorem dX9_init_31 : decode cX9_init 31 = .ok (.newarray .int, 2) := by decide +kernel
theorem dX9_init_33 : decode cX9_init 33 = .ok (.putfield 21, 3) := by decide +kernel
theorem dX9_init_36 : decode cX9_init 36 = .ok (.aload_n 0, 1) := by decide +kernel
theorem dX9_init_37 : decode cX9_init 37 = .ok (.bipush 16, 2) := by decide +kernel
theorem dX9_init_39 : decode cX9_init 39 = .ok (.newarray .int, 2) := by decide +kernel
theorem dX9_init_41 : decode cX9_init 41 = .ok (.putfield 24, 3) := by decide +kernel
theorem dX9_init_44 : decode cX9_init 44 = .ok (.aload_n 0, 1) := by decide +kernel
theorem dX9_init_45 : decode cX9_init 45 = .ok (.bipush 6, 2) := by decide +kernel
theorem dX9_init_47 : decode cX9_init 47 = .ok (.newarray .int, 2) := by decide +kernel
theorem dX9_init_49 : decode cX9_init 49 = .ok (.putfield 27, 3) := by decide +kernel
theorem dX9_init_52 : decode cX9_init 52 = .ok (.aload_n 0, 1) := by decide +kernel
theorem dX9_init_53 : decode cX9_init 53 = .ok (.sipush 4374, 3) := by decide +kernel
theorem dX9_init_56 : decode cX9_init 56 = .ok (.newarray .int, 2) := by decide +kernel
theorem dX9_init_58 : decode cX9_init 58 = .ok (.putfield 30, 3) := by decide +kernel
theorem dX9_init_61 : decode cX9_init 61 = .ok (.return_, 1) := by decide +kernel
theorem dX9_hasWord_0 : decode cX9_hasWord 0 = .ok (.iload_n 1, 1) := by decide +kernel
theorem dX9_hasWord_1 : decode cX9_hasWord 1 = .ok (.ifCond .lt 15, 3) := by decide +kernel
theorem dX9_hasWord_4 : decode cX9_hasWord 4 = .ok (.iload_n 1, 1) := by decide +kernel
theorem dX9_hasWord_5 : decode cX9_hasWord 5 = .ok (.aload_n 0, 1) := by decide +kernel
theorem dX9_hasWord_6 : decode cX9_hasWord 6 = .ok (.getfield 33, 3) := by decide +kernel
theorem dX9_hasWord_9 : decode cX9_hasWord 9 = .ok (.if_icmp .ge 7, 3) := by decide +kernel
theorem dX9_hasWord_12 : decode cX9_hasWord 12 = .ok (.iconst 1, 1) := by decide +kernel
theorem dX9_hasWord_13 : decode cX9_hasWord 13 = .ok (.goto 4, 3) := by decide +kernel
theorem dX9_hasWord_16 : decode cX9_hasWord 16 = .ok (.iconst 0, 1) := by decide +kernel
theorem dX9_hasWord_17 : decode cX9_hasWord 17 = .ok (.ireturn, 1) := by decide +kernel
theorem dX9_addWord_0 : decode cX9_addWord 0 = .ok (.aload_n 0, 1) := by decide +kernel
theorem dX9_addWord_1 : decode cX9_addWord 1 = .ok (.getfield 9, 3) := by decide +kernel
theorem dX9_addWord_4 : decode cX9_addWord 4 = .ok (.aload_n 0, 1) := by decide +kernel
theorem dX9_addWord_5 : decode cX9_addWord 5 = .ok (.getfield 33, 3) := by decide +kernel
theorem dX9_addWord_8 : decode cX9_addWord 8 = .ok (.iload_n 1, 1) := by decide +kernel
theorem dX9_addWord_9 : decode cX9_addWord 9 = .ok (.iastore, 1) := by decide +kernel
theorem dX9_addWord_10 : decode cX9_addWord 10 = .ok (.aload_n 0, 1) := by decide +kernel
theorem dX9_addWord_11 : decode cX9_addWord 11 = .ok (.getfield 15, 3) := by decide +kernel
theorem dX9_addWord_14 : decode cX9_addWord 14 = .ok (.aload_n 0, 1) := by decide +kernel
theorem dX9_addWord_15 : decode cX9_addWord 15 = .ok (.getfield 33, 3) := by decide +kernel
theorem dX9_addWord_18 : decode cX9_addWord 18 = .ok (.iload_n 2, 1) := by decide +kernel
theorem dX9_addWord_19 : decode cX9_addWord 19 = .ok (.iastore, 1) := by decide +kernel
theorem dX9_addWord_20 : decode cX9_addWord 20 = .ok (.aload_n 0, 1) := by decide +kernel
theorem dX9_addWord_21 : decode cX9_addWord 21 = .ok (.getfield 18, 3) := by decide +kernel
theorem dX9_addWord_24 : decode cX9_addWord 24 = .ok (.aload_n 0, 1) := by decide +kernel
theorem dX9_addWord_25 : decode cX9_addWord 25 = .ok (.getfield 33, 3) := by decide +kernel
theorem dX9_addWord_28 : decode cX9_addWord 28 = .ok (.iload_n 3, 1) := by decide +kernel
theorem dX9_addWord_29 : decode cX9_addWord 29 = .ok (.iastore, 1) := by decide +kernel
theorem dX9_addWord_30 : decode cX9_addWord 30 = .ok (.aload_n 0, 1) := by decide +kernel
theorem dX9_addWord_31 : decode cX9_addWord 31 = .ok (.getfield 21, 3) := by decide +kernel
theorem dX9_addWord_34 : decode cX9_addWord 34 = .ok (.aload_n 0, 1) := by decide +kernel
theorem dX9_addWord_35 : decode cX9_addWord 35 = .ok (.getfield 33, 3) := by decide +kernel
theorem dX9_addWord_38 : decode cX9_addWord 38 = .ok (.iload 4, 2) := by decide +kernel
theorem dX9_addWord_40 : decode cX9_addWord 40 = .ok (.iastore, 1) := by decide +kernel
theorem dX9_addWord_41 : decode cX9_addWord 41 = .ok (.aload_n 0, 1) := by decide +kernel
theorem dX9_addWord_42 : decode cX9_addWord 42 = .ok (.getfield 24, 3) := by decide +kernel
theorem dX9_addWord_45 : decode cX9_addWord 45 = .ok (.aload_n 0, 1) := by decide +kernel
theorem dX9_addWord_46 : decode cX9_addWord 46 = .ok (.getfield 33, 3) := by decide +kernel
theorem dX9_addWord_49 : decode cX9_addWord 49 = .ok (.iload 5, 2) := by decide +kernel
theorem dX9_addWord_51 : decode cX9_addWord 51 = .ok (.iastore, 1) := by decide +kernel
theorem dX9_addWord_52 : decode cX9_addWord 52 = .ok (.aload_n 0, 1) := by decide +kernel
theorem dX9_addWord_53 : decode cX9_addWord 53 = .ok (.dup, 1) := by decide +kernel
theorem dX9_addWord_54 : decode cX9_addWord 54 = .ok (.getfield 33, 3) := by decide +kernel
theorem dX9_addWord_57 : decode cX9_addWord 57 = .ok (.iconst 1, 1) := by decide +kernel
theorem dX9_addWord_58 : decode cX9_addWord 58 = .ok (.iadd, 1) := by decide +kernel
theorem dX9_addWord_59 : decode cX9_addWord 59 = .ok (.putfield 33, 3) := by decide +kernel
theorem dX9_addWord_62 : decode cX9_addWord 62 = .ok (.aload_n 0, 1) := by decide +kernel
theorem dX9_addWord_63 : decode cX9_addWord 63 = .ok (.getfield 33, 3) := by decide +kernel
theorem dX9_addWord_66 : decode cX9_addWord 66 = .ok (.iconst 1, 1) := by decide +kernel
theorem dX9_addWord_67 : decode cX9_addWord 67 = .ok (.isub, 1) := by decide +kernel
theorem dX9_addWord_68 : decode cX9_addWord 68 = .ok (.ireturn, 1) := by decide +kernel
theorem dX9_setOf_0 : decode cX9_setOf 0 = .ok (.iconst 0, 1) := by decide +kernel
theorem dX9_setOf_1 : decode cX9_setOf 1 = .ok (.istore 4, 2) := by decide +kernel
theorem dX9_setOf_3 : decode cX9_setOf 3 = .ok (.iconst 0, 1) := by decide +kernel
theorem dX9_setOf_4 : decode cX9_setOf 4 = .ok (.istore 5, 2) := by decide +kernel
theorem dX9_setOf_6 : decode cX9_setOf 6 = .ok (.iload 5, 2) := by decide +kernel
theorem dX9_setOf_8 : decode cX9_setOf 8 = .ok (.aload_n 0, 1) := by decide +kernel
theorem dX9_setOf_9 : decode cX9_setOf 9 = .ok (.getfield 33, 3) := by decide +kernel
theorem dX9_setOf_12 : decode cX9_setOf 12 = .ok (.if_icmp .ge 51, 3) := by decide +kernel
theorem dX9_setOf_15 : decode cX9_setOf 15 = .ok (.aload_n 0, 1) := by decide +kernel
theorem dX9_setOf_16 : decode cX9_setOf 16 = .ok (.getfield 9, 3) := by decide +kernel
theorem dX9_setOf_19 : decode cX9_setOf 19 = .ok (.iload 5, 2) := by decide +kernel
theorem dX9_setOf_21 : decode cX9_setOf 21 = .ok (.iaload, 1) := by decide +kernel
theorem dX9_setOf_22 : decode cX9_setOf 22 = .ok (.iload_n 1, 1) := by decide +kernel
theorem dX9_setOf_23 : decode cX9_setOf 23 = .ok (.if_icmp .ne 34, 3) := by decide +kernel
theorem dX9_setOf_26 : decode cX9_setOf 26 = .ok (.aload_n 0, 1) := by decide +kernel
theorem dX9_setOf_27 : decode cX9_setOf 27 = .ok (.getfield 15, 3) := by decide +kernel
theorem dX9_setOf_30 : decode cX9_setOf 30 = .ok (.iload 5, 2) := by decide +kernel
theorem dX9_setOf_32 : decode cX9_setOf 32 = .ok (.iaload, 1) := by decide +kernel
theorem dX9_setOf_33 : decode cX9_setOf 33 = .ok (.iload_n 2, 1) := by decide +kernel
theorem dX9_setOf_34 : decode cX9_setOf 34 = .ok (.if_icmp .ne 23, 3) := by decide +kernel
theorem dX9_setOf_37 : decode cX9_setOf 37 = .ok (.aload_n 0, 1) := by decide +kernel
theorem dX9_setOf_38 : decode cX9_setOf 38 = .ok (.getfield 18, 3) := by decide +kernel
theorem dX9_setOf_41 : decode cX9_setOf 41 = .ok (.iload 5, 2) := by decide +kernel
theorem dX9_setOf_43 : decode cX9_setOf 43 = .ok (.iaload, 1) := by decide +kernel
theorem dX9_setOf_44 : decode cX9_setOf 44 = .ok (.iload_n 3, 1) := by decide +kernel
theorem dX9_setOf_45 : decode cX9_setOf 45 = .ok (.if_icmp .ne 12, 3) := by decide +kernel
theorem dX9_setOf_48 : decode cX9_setOf 48 = .ok (.iload 4, 2) := by decide +kernel
theorem dX9_setOf_50 : decode cX9_setOf 50 = .ok (.iconst 1, 1) := by decide +kernel
theorem dX9_setOf_51 : decode cX9_setOf 51 = .ok (.iload 5, 2) := by decide +kernel
theorem dX9_setOf_53 : decode cX9_setOf 53 = .ok (.ishl, 1) := by decide +kernel
theorem dX9_setOf_54 : decode cX9_setOf 54 = .ok (.ior, 1) := by decide +kernel
theorem dX9_setOf_55 : decode cX9_setOf 55 = .ok (.istore 4, 2) := by decide +kernel
theorem dX9_setOf_57 : decode cX9_setOf 57 = .ok (.iinc 5 1, 3) := by decide +kernel
theorem dX9_setOf_60 : decode cX9_setOf 60 = .ok (.goto (-54), 3) := by decide +kernel
theorem dX9_setOf_63 : decode cX9_setOf 63 = .ok (.iload 4, 2) := by decide +kernel
theorem dX9_setOf_65 : decode cX9_setOf 65 = .ok (.ireturn, 1) := by decide +kernel
theorem dX9_forget_0 : decode cX9_forget 0 = .ok (.aload_n 0, 1) := by decide +kernel
theorem dX9_forget_1 : decode cX9_forget 1 = .ok (.iconst 0, 1) := by decide +kernel
theorem dX9_forget_2 : decode cX9_forget 2 = .ok (.putfield 37, 3) := by decide +kernel
theorem dX9_forget_5 : decode cX9_forget 5 = .ok (.return_, 1) := by decide +kernel
theorem dX9_look_0 : decode cX9_look 0 = .ok (.aload_n 0, 1) := by decide +kernel
theorem dX9_look_1 : decode cX9_look 1 = .ok (.getfield 37, 3) := by decide +kernel
theorem dX9_look_4 : decode cX9_look 4 = .ok (.iload_n 2, 1) := by decide +kernel
theorem dX9_look_5 : decode cX9_look 5 = .ok (.ishr, 1) := by decide +kernel
theorem dX9_look_6 : decode cX9_look 6 = .ok (.iconst 1, 1) := by decide +kernel
theorem dX9_look_7 : decode cX9_look 7 = .ok (.iand, 1) := by decide +kernel
theorem dX9_look_8 : decode cX9_look 8 = .ok (.iconst 1, 1) := by decide +kernel
theorem dX9_look_9 : decode cX9_look 9 = .ok (.if_icmp .ne 4, 3) := by decide +kernel
theorem dX9_look_12 : decode cX9_look 12 = .ok (.return_, 1) := by decide +kernel
theorem dX9_look_13 : decode cX9_look 13 = .ok (.aload_n 0, 1) := by decide +kernel
theorem dX9_look_14 : decode cX9_look 14 = .ok (.getfield 27, 3) := by decide +kernel
theorem dX9_look_17 : decode cX9_look 17 = .ok (.iload_n 2, 1) := by decide +kernel
theorem dX9_look_18 : decode cX9_look 18 = .ok (.aload_n 1, 1) := by decide +kernel
theorem dX9_look_19 : decode cX9_look 19 = .ok (.getfield 40, 3) := by decide +kernel
theorem dX9_look_22 : decode cX9_look 22 = .ok (.iload_n 2, 1) := by decide +kernel
theorem dX9_look_23 : decode cX9_look 23 = .ok (.invokevirtual 46, 3) := by decide +kernel
theorem dX9_look_26 : decode cX9_look 26 = .ok (.iastore, 1) := by decide +kernel
theorem dX9_look_27 : decode cX9_look 27 = .ok (.iconst 0, 1) := by decide +kernel
theorem dX9_look_28 : decode cX9_look 28 = .ok (.istore_n 3, 1) := by decide +kernel
theorem dX9_look_29 : decode cX9_look 29 = .ok (.iload_n 3, 1) := by decide +kernel
theorem dX9_look_30 : decode cX9_look 30 = .ok (.aload_n 0, 1) := by decide +kernel
theorem dX9_look_31 : decode cX9_look 31 = .ok (.getfield 27, 3) := by decide +kernel
theorem dX9_look_34 : decode cX9_look 34 = .ok (.iload_n 2, 1) := by decide +kernel
theorem dX9_look_35 : decode cX9_look 35 = .ok (.iaload, 1) := by decide +kernel
theorem dX9_look_36 : decode cX9_look 36 = .ok (.if_icmp .ge 22, 3) := by decide +kernel
theorem dX9_look_39 : decode cX9_look 39 = .ok (.aload_n 0, 1) := by decide +kernel
theorem dX9_look_40 : decode cX9_look 40 = .ok (.getfield 30, 3) := by decide +kernel
theorem dX9_look_43 : decode cX9_look 43 = .ok (.iload_n 2, 1) := by decide +kernel
theorem dX9_look_44 : decode cX9_look 44 = .ok (.sipush 729, 3) := by decide +kernel
theorem dX9_look_47 : decode cX9_look 47 = .ok (.imul, 1) := by decide +kernel
theorem dX9_look_48 : decode cX9_look 48 = .ok (.iload_n 3, 1) := by decide +kernel
theorem dX9_look_49 : decode cX9_look 49 = .ok (.iadd, 1) := by decide +kernel
theorem dX9_look_50 : decode cX9_look 50 = .ok (.iconst 0, 1) := by decide +kernel
theorem dX9_look_51 : decode cX9_look 51 = .ok (.iastore, 1) := by decide +kernel
theorem dX9_look_52 : decode cX9_look 52 = .ok (.iinc 3 1, 3) := by decide +kernel
theorem dX9_look_55 : decode cX9_look 55 = .ok (.goto (-26), 3) := by decide +kernel
theorem dX9_look_58 : decode cX9_look 58 = .ok (.iconst 0, 1) := by decide +kernel
theorem dX9_look_59 : decode cX9_look 59 = .ok (.istore_n 3, 1) := by decide +kernel
theorem dX9_look_60 : decode cX9_look 60 = .ok (.iload_n 3, 1) := by decide +kernel
theorem dX9_look_61 : decode cX9_look 61 = .ok (.aload_n 0, 1) := by decide +kernel
theorem dX9_look_62 : decode cX9_look 62 = .ok (.getfield 33, 3) := by decide +kernel
theorem dX9_look_65 : decode cX9_look 65 = .ok (.if_icmp .ge 36, 3) := by decide +kernel
theorem dX9_look_68 : decode cX9_look 68 = .ok (.aload_n 0, 1) := by decide +kernel
theorem dX9_look_69 : decode cX9_look 69 = .ok (.getfield 9, 3) := by decide +kernel
theorem dX9_look_72 : decode cX9_look 72 = .ok (.iload_n 3, 1) := by decide +kernel
theorem dX9_look_73 : decode cX9_look 73 = .ok (.iaload, 1) := by decide +kernel
theorem dX9_look_74 : decode cX9_look 74 = .ok (.iload_n 2, 1) := by decide +kernel
theorem dX9_look_75 : decode cX9_look 75 = .ok (.if_icmp .ne 20, 3) := by decide +kernel
theorem dX9_look_78 : decode cX9_look 78 = .ok (.aload_n 0, 1) := by decide +kernel
theorem dX9_look_79 : decode cX9_look 79 = .ok (.getfield 15, 3) := by decide +kernel
theorem dX9_look_82 : decode cX9_look 82 = .ok (.iload_n 3, 1) := by decide +kernel
theorem dX9_look_83 : decode cX9_look 83 = .ok (.iaload, 1) := by decide +kernel
theorem dX9_look_84 : decode cX9_look 84 = .ok (.iconst 2, 1) := by decide +kernel
theorem dX9_look_85 : decode cX9_look 85 = .ok (.if_icmp .ne 10, 3) := by decide +kernel
theorem dX9_look_88 : decode cX9_look 88 = .ok (.aload_n 0, 1) := by decide +kernel
theorem dX9_look_89 : decode cX9_look 89 = .ok (.aload_n 1, 1) := by decide +kernel
theorem dX9_look_90 : decode cX9_look 90 = .ok (.iload_n 2, 1) := by decide +kernel
theorem dX9_look_91 : decode cX9_look 91 = .ok (.iload_n 3, 1) := by decide +kernel
theorem dX9_look_92 : decode cX9_look 92 = .ok (.invokevirtual 52, 3) := by decide +kernel
theorem dX9_look_95 : decode cX9_look 95 = .ok (.iinc 3 1, 3) := by decide +kernel
theorem dX9_look_98 : decode cX9_look 98 = .ok (.goto (-38), 3) := by decide +kernel
theorem dX9_look_101 : decode cX9_look 101 = .ok (.iconst 0, 1) := by decide +kernel
theorem dX9_look_102 : decode cX9_look 102 = .ok (.istore_n 3, 1) := by decide +kernel
theorem dX9_look_103 : decode cX9_look 103 = .ok (.iload_n 3, 1) := by decide +kernel
theorem dX9_look_104 : decode cX9_look 104 = .ok (.aload_n 1, 1) := by decide +kernel
theorem dX9_look_105 : decode cX9_look 105 = .ok (.getfield 56, 3) := by decide +kernel
theorem dX9_look_108 : decode cX9_look 108 = .ok (.getfield 60, 3) := by decide +kernel
theorem dX9_look_111 : decode cX9_look 111 = .ok (.if_icmp .ge 59, 3) := by decide +kernel
theorem dX9_look_114 : decode cX9_look 114 = .ok (.aload_n 0, 1) := by decide +kernel
theorem dX9_look_115 : decode cX9_look 115 = .ok (.iload_n 2, 1) := by decide +kernel
theorem dX9_look_116 : decode cX9_look 116 = .ok (.iconst 0, 1) := by decide +kernel
theorem dX9_look_117 : decode cX9_look 117 = .ok (.iload_n 3, 1) := by decide +kernel
theorem dX9_look_118 : decode cX9_look 118 = .ok (.invokevirtual 63, 3) := by decide +kernel
theorem dX9_look_121 : decode cX9_look 121 = .ok (.istore 4, 2) := by decide +kernel
theorem dX9_look_123 : decode cX9_look 123 = .ok (.aload_n 0, 1) := by decide +kernel
theorem dX9_look_124 : decode cX9_look 124 = .ok (.iload_n 2, 1) := by decide +kernel
theorem dX9_look_125 : decode cX9_look 125 = .ok (.iconst 1, 1) := by decide +kernel
theorem dX9_look_126 : decode cX9_look 126 = .ok (.iload_n 3, 1) := by decide +kernel
theorem dX9_look_127 : decode cX9_look 127 = .ok (.invokevirtual 63, 3) := by decide +kernel
theorem dX9_look_130 : decode cX9_look 130 = .ok (.istore 5, 2) := by decide +kernel
theorem dX9_look_132 : decode cX9_look 132 = .ok (.iload 4, 2) := by decide +kernel
theorem dX9_look_134 : decode cX9_look 134 = .ok (.ifCond .ne 8, 3) := by decide +kernel
theorem dX9_look_137 : decode cX9_look 137 = .ok (.iload 5, 2) := by decide +kernel
theorem dX9_look_139 : decode cX9_look 139 = .ok (.ifCond .eq 25, 3) := by decide +kernel
theorem dX9_look_142 : decode cX9_look 142 = .ok (.aload_n 1, 1) := by decide +kernel
theorem dX9_look_143 : decode cX9_look 143 = .ok (.iload_n 2, 1) := by decide +kernel
theorem dX9_look_144 : decode cX9_look 144 = .ok (.invokevirtual 67, 3) := by decide +kernel
theorem dX9_look_147 : decode cX9_look 147 = .ok (.aload_n 1, 1) := by decide +kernel
theorem dX9_look_148 : decode cX9_look 148 = .ok (.iload_n 3, 1) := by decide +kernel
theorem dX9_look_149 : decode cX9_look 149 = .ok (.iconst 0, 1) := by decide +kernel
theorem dX9_look_150 : decode cX9_look 150 = .ok (.iconst 0, 1) := by decide +kernel
theorem dX9_look_151 : decode cX9_look 151 = .ok (.invokevirtual 71, 3) := by decide +kernel
theorem dX9_look_154 : decode cX9_look 154 = .ok (.aload_n 0, 1) := by decide +kernel
theorem dX9_look_155 : decode cX9_look 155 = .ok (.aload_n 1, 1) := by decide +kernel
theorem dX9_look_156 : decode cX9_look 156 = .ok (.iload_n 2, 1) := by decide +kernel
theorem dX9_look_157 : decode cX9_look 157 = .ok (.iload 4, 2) := by decide +kernel
theorem dX9_look_159 : decode cX9_look 159 = .ok (.iload 5, 2) := by decide +kernel
theorem dX9_look_161 : decode cX9_look 161 = .ok (.invokevirtual 75, 3) := by decide +kernel
theorem dX9_look_164 : decode cX9_look 164 = .ok (.iinc 3 1, 3) := by decide +kernel
theorem dX9_look_167 : decode cX9_look 167 = .ok (.goto (-64), 3) := by decide +kernel
theorem dX9_look_170 : decode cX9_look 170 = .ok (.aload_n 0, 1) := by decide +kernel
theorem dX9_look_171 : decode cX9_look 171 = .ok (.dup, 1) := by decide +kernel
theorem dX9_look_172 : decode cX9_look 172 = .ok (.getfield 37, 3) := by decide +kernel
theorem dX9_look_175 : decode cX9_look 175 = .ok (.iconst 1, 1) := by decide +kernel
theorem dX9_look_176 : decode cX9_look 176 = .ok (.iload_n 2, 1) := by decide +kernel
theorem dX9_look_177 : decode cX9_look 177 = .ok (.ishl, 1) := by decide +kernel
theorem dX9_look_178 : decode cX9_look 178 = .ok (.ior, 1) := by decide +kernel
theorem dX9_look_179 : decode cX9_look 179 = .ok (.putfield 37, 3) := by decide +kernel
theorem dX9_look_182 : decode cX9_look 182 = .ok (.return_, 1) := by decide +kernel
theorem dX9_lookBySounding_0 : decode cX9_lookBySounding 0 = .ok (.aload_n 1, 1) := by decide +kernel
theorem dX9_lookBySounding_1 : decode cX9_lookBySounding 1 = .ok (.iload_n 2, 1) := by decide +kernel
theorem dX9_lookBySounding_2 : decode cX9_lookBySounding 2 = .ok (.invokevirtual 67, 3) := by decide +kernel
theorem dX9_lookBySounding_5 : decode cX9_lookBySounding 5 = .ok (.iconst 0, 1) := by decide +kernel
theorem dX9_lookBySounding_6 : decode cX9_lookBySounding 6 = .ok (.istore 4, 2) := by decide +kernel
theorem dX9_lookBySounding_8 : decode cX9_lookBySounding 8 = .ok (.iload 4, 2) := by decide +kernel
theorem dX9_lookBySounding_10 : decode cX9_lookBySounding 10 = .ok (.aload_n 0, 1) := by decide +kernel
theorem dX9_lookBySounding_11 : decode cX9_lookBySounding 11 = .ok (.getfield 27, 3) := by decide +kernel
theorem dX9_lookBySounding_14 : decode cX9_lookBySounding 14 = .ok (.iload_n 2, 1) := by decide +kernel
theorem dX9_lookBySounding_15 : decode cX9_lookBySounding 15 = .ok (.iaload, 1) := by decide +kernel
theorem dX9_lookBySounding_16 : decode cX9_lookBySounding 16 = .ok (.if_icmp .ge 62, 3) := by decide +kernel
theorem dX9_lookBySounding_19 : decode cX9_lookBySounding 19 = .ok (.aload_n 1, 1) := by decide +kernel
theorem dX9_lookBySounding_20 : decode cX9_lookBySounding 20 = .ok (.aload_n 0, 1) := by decide +kernel
theorem dX9_lookBySounding_21 : decode cX9_lookBySounding 21 = .ok (.getfield 18, 3) := by decide +kernel
theorem dX9_lookBySounding_24 : decode cX9_lookBySounding 24 = .ok (.iload_n 3, 1) := by decide +kernel
theorem dX9_lookBySounding_25 : decode cX9_lookBySounding 25 = .ok (.iaload, 1) := by decide +kernel
theorem dX9_lookBySounding_26 : decode cX9_lookBySounding 26 = .ok (.invokevirtual 79, 3) := by decide +kernel
theorem dX9_lookBySounding_29 : decode cX9_lookBySounding 29 = .ok (.aload_n 0, 1) := by decide +kernel
theorem dX9_lookBySounding_30 : decode cX9_lookBySounding 30 = .ok (.getfield 21, 3) := by decide +kernel
theorem dX9_lookBySounding_33 : decode cX9_lookBySounding 33 = .ok (.iload_n 3, 1) := by decide +kernel
theorem dX9_lookBySounding_34 : decode cX9_lookBySounding 34 = .ok (.iaload, 1) := by decide +kernel
theorem dX9_lookBySounding_35 : decode cX9_lookBySounding 35 = .ok (.aload_n 0, 1) := by decide +kernel
theorem dX9_lookBySounding_36 : decode cX9_lookBySounding 36 = .ok (.getfield 24, 3) := by decide +kernel
theorem dX9_lookBySounding_39 : decode cX9_lookBySounding 39 = .ok (.iload_n 3, 1) := by decide +kernel
theorem dX9_lookBySounding_40 : decode cX9_lookBySounding 40 = .ok (.iaload, 1) := by decide +kernel
theorem dX9_lookBySounding_41 : decode cX9_lookBySounding 41 = .ok (.invokestatic 82, 3) := by decide +kernel
theorem dX9_lookBySounding_44 : decode cX9_lookBySounding 44 = .ok (.ifCond .eq 24, 3) := by decide +kernel
theorem dX9_lookBySounding_47 : decode cX9_lookBySounding 47 = .ok (.aload_n 0, 1) := by decide +kernel
theorem dX9_lookBySounding_48 : decode cX9_lookBySounding 48 = .ok (.getfield 30, 3) := by decide +kernel
theorem dX9_lookBySounding_51 : decode cX9_lookBySounding 51 = .ok (.iload_n 2, 1) := by decide +kernel
theorem dX9_lookBySounding_52 : decode cX9_lookBySounding 52 = .ok (.sipush 729, 3) := by decide +kernel
theorem dX9_lookBySounding_55 : decode cX9_lookBySounding 55 = .ok (.imul, 1) := by decide +kernel
theorem dX9_lookBySounding_56 : decode cX9_lookBySounding 56 = .ok (.aload_n 1, 1) := by decide +kernel
theorem dX9_lookBySounding_57 : decode cX9_lookBySounding 57 = .ok (.invokevirtual 86, 3) := by decide +kernel
theorem dX9_lookBySounding_60 : decode cX9_lookBySounding 60 = .ok (.iadd, 1) := by decide +kernel
theorem dX9_lookBySounding_61 : decode cX9_lookBySounding 61 = .ok (.dup2, 1) := by decide +kernel
theorem dX9_lookBySounding_62 : decode cX9_lookBySounding 62 = .ok (.iaload, 1) := by decide +kernel
theorem dX9_lookBySounding_63 : decode cX9_lookBySounding 63 = .ok (.iconst 1, 1) := by decide +kernel
theorem dX9_lookBySounding_64 : decode cX9_lookBySounding 64 = .ok (.iload_n 3, 1) := by decide +kernel
theorem dX9_lookBySounding_65 : decode cX9_lookBySounding 65 = .ok (.ishl, 1) := by decide +kernel
theorem dX9_lookBySounding_66 : decode cX9_lookBySounding 66 = .ok (.ior, 1) := by decide +kernel
theorem dX9_lookBySounding_67 : decode cX9_lookBySounding 67 = .ok (.iastore, 1) := by decide +kernel
theorem dX9_lookBySounding_68 : decode cX9_lookBySounding 68 = .ok (.aload_n 1, 1) := by decide +kernel
theorem dX9_lookBySounding_69 : decode cX9_lookBySounding 69 = .ok (.invokevirtual 90, 3) := by decide +kernel
theorem dX9_lookBySounding_72 : decode cX9_lookBySounding 72 = .ok (.iinc 4 1, 3) := by decide +kernel
theorem dX9_lookBySounding_75 : decode cX9_lookBySounding 75 = .ok (.goto (-67), 3) := by decide +kernel
theorem dX9_lookBySounding_78 : decode cX9_lookBySounding 78 = .ok (.return_, 1) := by decide +kernel
theorem dX9_lookByRuns_0 : decode cX9_lookByRuns 0 = .ok (.iconst 0, 1) := by decide +kernel
theorem dX9_lookByRuns_1 : decode cX9_lookByRuns 1 = .ok (.istore 5, 2) := by decide +kernel
theorem dX9_lookByRuns_3 : decode cX9_lookByRuns 3 = .ok (.iload 5, 2) := by decide +kernel
theorem dX9_lookByRuns_5 : decode cX9_lookByRuns 5 = .ok (.aload_n 0, 1) := by decide +kernel
theorem dX9_lookByRuns_6 : decode cX9_lookByRuns 6 = .ok (.getfield 27, 3) := by decide +kernel
theorem dX9_lookByRuns_9 : decode cX9_lookByRuns 9 = .ok (.iload_n 2, 1) := by decide +kernel
theorem dX9_lookByRuns_10 : decode cX9_lookByRuns 10 = .ok (.iaload, 1) := by decide +kernel
theorem dX9_lookByRuns_11 : decode cX9_lookByRuns 11 = .ok (.if_icmp .ge 48, 3) := by decide +kernel
theorem dX9_lookByRuns_14 : decode cX9_lookByRuns 14 = .ok (.aload_n 1, 1) := by decide +kernel
theorem dX9_lookByRuns_15 : decode cX9_lookByRuns 15 = .ok (.invokevirtual 93, 3) := by decide +kernel
theorem dX9_lookByRuns_18 : decode cX9_lookByRuns 18 = .ok (.aload_n 0, 1) := by decide +kernel
theorem dX9_lookByRuns_19 : decode cX9_lookByRuns 19 = .ok (.getfield 30, 3) := by decide +kernel
theorem dX9_lookByRuns_22 : decode cX9_lookByRuns 22 = .ok (.iload_n 2, 1) := by decide +kernel
theorem dX9_lookByRuns_23 : decode cX9_lookByRuns 23 = .ok (.sipush 729, 3) := by decide +kernel
theorem dX9_lookByRuns_26 : decode cX9_lookByRuns 26 = .ok (.imul, 1) := by decide +kernel
theorem dX9_lookByRuns_27 : decode cX9_lookByRuns 27 = .ok (.aload_n 1, 1) := by decide +kernel
theorem dX9_lookByRuns_28 : decode cX9_lookByRuns 28 = .ok (.invokevirtual 86, 3) := by decide +kernel
theorem dX9_lookByRuns_31 : decode cX9_lookByRuns 31 = .ok (.iadd, 1) := by decide +kernel
theorem dX9_lookByRuns_32 : decode cX9_lookByRuns 32 = .ok (.dup2, 1) := by decide +kernel
theorem dX9_lookByRuns_33 : decode cX9_lookByRuns 33 = .ok (.iaload, 1) := by decide +kernel
theorem dX9_lookByRuns_34 : decode cX9_lookByRuns 34 = .ok (.aload_n 1, 1) := by decide +kernel
theorem dX9_lookByRuns_35 : decode cX9_lookByRuns 35 = .ok (.invokevirtual 96, 3) := by decide +kernel
theorem dX9_lookByRuns_38 : decode cX9_lookByRuns 38 = .ok (.ifCond .eq 7, 3) := by decide +kernel
theorem dX9_lookByRuns_41 : decode cX9_lookByRuns 41 = .ok (.iload_n 3, 1) := by decide +kernel
theorem dX9_lookByRuns_42 : decode cX9_lookByRuns 42 = .ok (.goto 5, 3) := by decide +kernel
theorem dX9_lookByRuns_45 : decode cX9_lookByRuns 45 = .ok (.iload 4, 2) := by decide +kernel
theorem dX9_lookByRuns_47 : decode cX9_lookByRuns 47 = .ok (.ior, 1) := by decide +kernel
theorem dX9_lookByRuns_48 : decode cX9_lookByRuns 48 = .ok (.iastore, 1) := by decide +kernel
theorem dX9_lookByRuns_49 : decode cX9_lookByRuns 49 = .ok (.aload_n 1, 1) := by decide +kernel
theorem dX9_lookByRuns_50 : decode cX9_lookByRuns 50 = .ok (.invokevirtual 90, 3) := by decide +kernel
theorem dX9_lookByRuns_53 : decode cX9_lookByRuns 53 = .ok (.iinc 5 1, 3) := by decide +kernel
theorem dX9_lookByRuns_56 : decode cX9_lookByRuns 56 = .ok (.goto (-53), 3) := by decide +kernel
theorem dX9_lookByRuns_59 : decode cX9_lookByRuns 59 = .ok (.return_, 1) := by decide +kernel
theorem dX9_keep_0 : decode cX9_keep 0 = .ok (.aload_n 0, 1) := by decide +kernel
theorem dX9_keep_1 : decode cX9_keep 1 = .ok (.getfield 30, 3) := by decide +kernel
theorem dX9_keep_4 : decode cX9_keep 4 = .ok (.iload_n 1, 1) := by decide +kernel
theorem dX9_keep_5 : decode cX9_keep 5 = .ok (.sipush 729, 3) := by decide +kernel
theorem dX9_keep_8 : decode cX9_keep 8 = .ok (.imul, 1) := by decide +kernel
theorem dX9_keep_9 : decode cX9_keep 9 = .ok (.iload_n 2, 1) := by decide +kernel
theorem dX9_keep_10 : decode cX9_keep 10 = .ok (.iadd, 1) := by decide +kernel
theorem dX9_keep_11 : decode cX9_keep 11 = .ok (.iaload, 1) := by decide +kernel
theorem dX9_keep_12 : decode cX9_keep 12 = .ok (.aload_n 0, 1) := by decide +kernel
theorem dX9_keep_13 : decode cX9_keep 13 = .ok (.getfield 100, 3) := by decide +kernel
theorem dX9_keep_16 : decode cX9_keep 16 = .ok (.iconst (-1), 1) := by decide +kernel
theorem dX9_keep_17 : decode cX9_keep 17 = .ok (.ixor, 1) := by decide +kernel
theorem dX9_keep_18 : decode cX9_keep 18 = .ok (.iand, 1) := by decide +kernel
theorem dX9_keep_19 : decode cX9_keep 19 = .ok (.ifCond .ne 7, 3) := by decide +kernel
theorem dX9_keep_22 : decode cX9_keep 22 = .ok (.iconst 1, 1) := by decide +kernel
theorem dX9_keep_23 : decode cX9_keep 23 = .ok (.goto 4, 3) := by decide +kernel
theorem dX9_keep_26 : decode cX9_keep 26 = .ok (.iconst 0, 1) := by decide +kernel
theorem dX9_keep_27 : decode cX9_keep 27 = .ok (.ireturn, 1) := by decide +kernel
theorem dX9_countKept_0 : decode cX9_countKept 0 = .ok (.iconst 0, 1) := by decide +kernel
theorem dX9_countKept_1 : decode cX9_countKept 1 = .ok (.istore_n 2, 1) := by decide +kernel
theorem dX9_countKept_2 : decode cX9_countKept 2 = .ok (.iconst 0, 1) := by decide +kernel
theorem dX9_countKept_3 : decode cX9_countKept 3 = .ok (.istore_n 3, 1) := by decide +kernel
theorem dX9_countKept_4 : decode cX9_countKept 4 = .ok (.iload_n 3, 1) := by decide +kernel
theorem dX9_countKept_5 : decode cX9_countKept 5 = .ok (.aload_n 0, 1) := by decide +kernel
theorem dX9_countKept_6 : decode cX9_countKept 6 = .ok (.getfield 27, 3) := by decide +kernel
theorem dX9_countKept_9 : decode cX9_countKept 9 = .ok (.iload_n 1, 1) := by decide +kernel
theorem dX9_countKept_10 : decode cX9_countKept 10 = .ok (.iaload, 1) := by decide +kernel
theorem dX9_countKept_11 : decode cX9_countKept 11 = .ok (.if_icmp .ge 21, 3) := by decide +kernel
theorem dX9_countKept_14 : decode cX9_countKept 14 = .ok (.aload_n 0, 1) := by decide +kernel
theorem dX9_countKept_15 : decode cX9_countKept 15 = .ok (.iload_n 1, 1) := by decide +kernel
theorem dX9_countKept_16 : decode cX9_countKept 16 = .ok (.iload_n 3, 1) := by decide +kernel
theorem dX9_countKept_17 : decode cX9_countKept 17 = .ok (.invokevirtual 103, 3) := by decide +kernel
theorem dX9_countKept_20 : decode cX9_countKept 20 = .ok (.ifCond .eq 6, 3) := by decide +kernel
theorem dX9_countKept_23 : decode cX9_countKept 23 = .ok (.iinc 2 1, 3) := by decide +kernel
theorem dX9_countKept_26 : decode cX9_countKept 26 = .ok (.iinc 3 1, 3) := by decide +kernel
theorem dX9_countKept_29 : decode cX9_countKept 29 = .ok (.goto (-25), 3) := by decide +kernel
theorem dX9_countKept_32 : decode cX9_countKept 32 = .ok (.iload_n 2, 1) := by decide +kernel
theorem dX9_countKept_33 : decode cX9_countKept 33 = .ok (.ireturn, 1) := by decide +kernel
theorem dX9_firstKept_0 : decode cX9_firstKept 0 = .ok (.iconst 0, 1) := by decide +kernel
theorem dX9_firstKept_1 : decode cX9_firstKept 1 = .ok (.istore_n 2, 1) := by decide +kernel
theorem dX9_firstKept_2 : decode cX9_firstKept 2 = .ok (.iload_n 2, 1) := by decide +kernel
theorem dX9_firstKept_3 : decode cX9_firstKept 3 = .ok (.aload_n 0, 1) := by decide +kernel
theorem dX9_firstKept_4 : decode cX9_firstKept 4 = .ok (.getfield 27, 3) := by decide +kernel
theorem dX9_firstKept_7 : decode cX9_firstKept 7 = .ok (.iload_n 1, 1) := by decide +kernel
theorem dX9_firstKept_8 : decode cX9_firstKept 8 = .ok (.iaload, 1) := by decide +kernel
theorem dX9_firstKept_9 : decode cX9_firstKept 9 = .ok (.if_icmp .ge 20, 3) := by decide +kernel
theorem dX9_firstKept_12 : decode cX9_firstKept 12 = .ok (.aload_n 0, 1) := by decide +kernel
theorem dX9_firstKept_13 : decode cX9_firstKept 13 = .ok (.iload_n 1, 1) := by decide +kernel
theorem dX9_firstKept_14 : decode cX9_firstKept 14 = .ok (.iload_n 2, 1) := by decide +kernel
theorem dX9_firstKept_15 : decode cX9_firstKept 15 = .ok (.invokevirtual 103, 3) := by decide +kernel
theorem dX9_firstKept_18 : decode cX9_firstKept 18 = .ok (.ifCond .eq 5, 3) := by decide +kernel
theorem dX9_firstKept_21 : decode cX9_firstKept 21 = .ok (.iload_n 2, 1) := by decide +kernel
theorem dX9_firstKept_22 : decode cX9_firstKept 22 = .ok (.ireturn, 1) := by decide +kernel
theorem dX9_firstKept_23 : decode cX9_firstKept 23 = .ok (.iinc 2 1, 3) := by decide +kernel
theorem dX9_firstKept_26 : decode cX9_firstKept 26 = .ok (.goto (-24), 3) := by decide +kernel
theorem dX9_firstKept_29 : decode cX9_firstKept 29 = .ok (.iconst (-1), 1) := by decide +kernel
theorem dX9_firstKept_30 : decode cX9_firstKept 30 = .ok (.ireturn, 1) := by decide +kernel
theorem dX9_countAgainst_0 : decode cX9_countAgainst 0 = .ok (.iconst 0, 1) := by decide +kernel
theorem dX9_countAgainst_1 : decode cX9_countAgainst 1 = .ok (.istore_n 3, 1) := by decide +kernel
theorem dX9_countAgainst_2 : decode cX9_countAgainst 2 = .ok (.iconst 0, 1) := by decide +kernel
theorem dX9_countAgainst_3 : decode cX9_countAgainst 3 = .ok (.istore 4, 2) := by decide +kernel
theorem dX9_countAgainst_5 : decode cX9_countAgainst 5 = .ok (.iload 4, 2) := by decide +kernel
theorem dX9_countAgainst_7 : decode cX9_countAgainst 7 = .ok (.aload_n 0, 1) := by decide +kernel
theorem dX9_countAgainst_8 : decode cX9_countAgainst 8 = .ok (.getfield 27, 3) := by decide +kernel
theorem dX9_countAgainst_11 : decode cX9_countAgainst 11 = .ok (.iload_n 1, 1) := by decide +kernel
theorem dX9_countAgainst_12 : decode cX9_countAgainst 12 = .ok (.iaload, 1) := by decide +kernel
theorem dX9_countAgainst_13 : decode cX9_countAgainst 13 = .ok (.if_icmp .ge 29, 3) := by decide +kernel
theorem dX9_countAgainst_16 : decode cX9_countAgainst 16 = .ok (.iload_n 3, 1) := by decide +kernel
theorem dX9_countAgainst_17 : decode cX9_countAgainst 17 = .ok (.aload_n 0, 1) := by decide +kernel
theorem dX9_countAgainst_18 : decode cX9_countAgainst 18 = .ok (.getfield 30, 3) := by decide +kernel
theorem dX9_countAgainst_21 : decode cX9_countAgainst 21 = .ok (.iload_n 1, 1) := by decide +kernel
theorem dX9_countAgainst_22 : decode cX9_countAgainst 22 = .ok (.sipush 729, 3) := by decide +kernel
theorem dX9_countAgainst_25 : decode cX9_countAgainst 25 = .ok (.imul, 1) := by decide +kernel
theorem dX9_countAgainst_26 : decode cX9_countAgainst 26 = .ok (.iload 4, 2) := by decide +kernel
theorem dX9_countAgainst_28 : decode cX9_countAgainst 28 = .ok (.iadd, 1) := by decide +kernel
theorem dX9_countAgainst_29 : decode cX9_countAgainst 29 = .ok (.iaload, 1) := by decide +kernel
theorem dX9_countAgainst_30 : decode cX9_countAgainst 30 = .ok (.iload_n 2, 1) := by decide +kernel
theorem dX9_countAgainst_31 : decode cX9_countAgainst 31 = .ok (.ishr, 1) := by decide +kernel
theorem dX9_countAgainst_32 : decode cX9_countAgainst 32 = .ok (.iconst 1, 1) := by decide +kernel
theorem dX9_countAgainst_33 : decode cX9_countAgainst 33 = .ok (.iand, 1) := by decide +kernel
theorem dX9_countAgainst_34 : decode cX9_countAgainst 34 = .ok (.iadd, 1) := by decide +kernel
theorem dX9_countAgainst_35 : decode cX9_countAgainst 35 = .ok (.istore_n 3, 1) := by decide +kernel
theorem dX9_countAgainst_36 : decode cX9_countAgainst 36 = .ok (.iinc 4 1, 3) := by decide +kernel
theorem dX9_countAgainst_39 : decode cX9_countAgainst 39 = .ok (.goto (-34), 3) := by decide +kernel
theorem dX9_countAgainst_42 : decode cX9_countAgainst 42 = .ok (.iload_n 3, 1) := by decide +kernel
theorem dX9_countAgainst_43 : decode cX9_countAgainst 43 = .ok (.ireturn, 1) := by decide +kernel
theorem dX9_fewestAgainst_0 : decode cX9_fewestAgainst 0 = .ok (.aload_n 0, 1) := by decide +kernel
theorem dX9_fewestAgainst_1 : decode cX9_fewestAgainst 1 = .ok (.getfield 30, 3) := by decide +kernel
theorem dX9_fewestAgainst_4 : decode cX9_fewestAgainst 4 = .ok (.iload_n 1, 1) := by decide +kernel
theorem dX9_fewestAgainst_5 : decode cX9_fewestAgainst 5 = .ok (.sipush 729, 3) := by decide +kernel
theorem dX9_fewestAgainst_8 : decode cX9_fewestAgainst 8 = .ok (.imul, 1) := by decide +kernel
theorem dX9_fewestAgainst_9 : decode cX9_fewestAgainst 9 = .ok (.iaload, 1) := by decide +kernel
theorem dX9_fewestAgainst_10 : decode cX9_fewestAgainst 10 = .ok (.aload_n 0, 1) := by decide +kernel
theorem dX9_fewestAgainst_11 : decode cX9_fewestAgainst 11 = .ok (.getfield 100, 3) := by decide +kernel
theorem dX9_fewestAgainst_14 : decode cX9_fewestAgainst 14 = .ok (.iconst (-1), 1) := by decide +kernel
theorem dX9_fewestAgainst_15 : decode cX9_fewestAgainst 15 = .ok (.ixor, 1) := by decide +kernel
theorem dX9_fewestAgainst_16 : decode cX9_fewestAgainst 16 = .ok (.iand, 1) := by decide +kernel
theorem dX9_fewestAgainst_17 : decode cX9_fewestAgainst 17 = .ok (.istore_n 2, 1) := by decide +kernel
theorem dX9_fewestAgainst_18 : decode cX9_fewestAgainst 18 = .ok (.iconst 1, 1) := by decide +kernel
theorem dX9_fewestAgainst_19 : decode cX9_fewestAgainst 19 = .ok (.istore_n 3, 1) := by decide +kernel
theorem dX9_fewestAgainst_20 : decode cX9_fewestAgainst 20 = .ok (.iload_n 3, 1) := by decide +kernel
theorem dX9_fewestAgainst_21 : decode cX9_fewestAgainst 21 = .ok (.aload_n 0, 1) := by decide +kernel
theorem dX9_fewestAgainst_22 : decode cX9_fewestAgainst 22 = .ok (.getfield 27, 3) := by decide +kernel
theorem dX9_fewestAgainst_25 : decode cX9_fewestAgainst 25 = .ok (.iload_n 1, 1) := by decide +kernel
theorem dX9_fewestAgainst_26 : decode cX9_fewestAgainst 26 = .ok (.iaload, 1) := by decide +kernel
theorem dX9_fewestAgainst_27 : decode cX9_fewestAgainst 27 = .ok (.if_icmp .ge 61, 3) := by decide +kernel
theorem dX9_fewestAgainst_30 : decode cX9_fewestAgainst 30 = .ok (.aload_n 0, 1) := by decide +kernel
theorem dX9_fewestAgainst_31 : decode cX9_fewestAgainst 31 = .ok (.getfield 30, 3) := by decide +kernel
theorem dX9_fewestAgainst_34 : decode cX9_fewestAgainst 34 = .ok (.iload_n 1, 1) := by decide +kernel
theorem dX9_fewestAgainst_35 : decode cX9_fewestAgainst 35 = .ok (.sipush 729, 3) := by decide +kernel
theorem dX9_fewestAgainst_38 : decode cX9_fewestAgainst 38 = .ok (.imul, 1) := by decide +kernel
theorem dX9_fewestAgainst_39 : decode cX9_fewestAgainst 39 = .ok (.iload_n 3, 1) := by decide +kernel
theorem dX9_fewestAgainst_40 : decode cX9_fewestAgainst 40 = .ok (.iadd, 1) := by decide +kernel
theorem dX9_fewestAgainst_41 : decode cX9_fewestAgainst 41 = .ok (.iaload, 1) := by decide +kernel
theorem dX9_fewestAgainst_42 : decode cX9_fewestAgainst 42 = .ok (.aload_n 0, 1) := by decide +kernel
theorem dX9_fewestAgainst_43 : decode cX9_fewestAgainst 43 = .ok (.getfield 100, 3) := by decide +kernel
theorem dX9_fewestAgainst_46 : decode cX9_fewestAgainst 46 = .ok (.iconst (-1), 1) := by decide +kernel
theorem dX9_fewestAgainst_47 : decode cX9_fewestAgainst 47 = .ok (.ixor, 1) := by decide +kernel
theorem dX9_fewestAgainst_48 : decode cX9_fewestAgainst 48 = .ok (.iand, 1) := by decide +kernel
theorem dX9_fewestAgainst_49 : decode cX9_fewestAgainst 49 = .ok (.istore 4, 2) := by decide +kernel
theorem dX9_fewestAgainst_51 : decode cX9_fewestAgainst 51 = .ok (.iload_n 2, 1) := by decide +kernel
theorem dX9_fewestAgainst_52 : decode cX9_fewestAgainst 52 = .ok (.invokestatic 107, 3) := by decide +kernel
theorem dX9_fewestAgainst_55 : decode cX9_fewestAgainst 55 = .ok (.iload 4, 2) := by decide +kernel
theorem dX9_fewestAgainst_57 : decode cX9_fewestAgainst 57 = .ok (.invokestatic 107, 3) := by decide +kernel
theorem dX9_fewestAgainst_60 : decode cX9_fewestAgainst 60 = .ok (.isub, 1) := by decide +kernel
theorem dX9_fewestAgainst_61 : decode cX9_fewestAgainst 61 = .ok (.istore 5, 2) := by decide +kernel
theorem dX9_fewestAgainst_63 : decode cX9_fewestAgainst 63 = .ok (.iload 5, 2) := by decide +kernel
theorem dX9_fewestAgainst_65 : decode cX9_fewestAgainst 65 = .ok (.ifCond .gt 14, 3) := by decide +kernel
theorem dX9_fewestAgainst_68 : decode cX9_fewestAgainst 68 = .ok (.iload 5, 2) := by decide +kernel
theorem dX9_fewestAgainst_70 : decode cX9_fewestAgainst 70 = .ok (.ifCond .ne 12, 3) := by decide +kernel
theorem dX9_fewestAgainst_73 : decode cX9_fewestAgainst 73 = .ok (.iload 4, 2) := by decide +kernel
theorem dX9_fewestAgainst_75 : decode cX9_fewestAgainst 75 = .ok (.iload_n 2, 1) := by decide +kernel
theorem dX9_fewestAgainst_76 : decode cX9_fewestAgainst 76 = .ok (.if_icmp .ge 6, 3) := by decide +kernel
theorem dX9_fewestAgainst_79 : decode cX9_fewestAgainst 79 = .ok (.iload 4, 2) := by decide +kernel
theorem dX9_fewestAgainst_81 : decode cX9_fewestAgainst 81 = .ok (.istore_n 2, 1) := by decide +kernel
theorem dX9_fewestAgainst_82 : decode cX9_fewestAgainst 82 = .ok (.iinc 3 1, 3) := by decide +kernel
theorem dX9_fewestAgainst_85 : decode cX9_fewestAgainst 85 = .ok (.goto (-65), 3) := by decide +kernel
theorem dX9_fewestAgainst_88 : decode cX9_fewestAgainst 88 = .ok (.iload_n 2, 1) := by decide +kernel
theorem dX9_fewestAgainst_89 : decode cX9_fewestAgainst 89 = .ok (.ireturn, 1) := by decide +kernel
theorem dX10_init_0 : decode cX10_init 0 = .ok (.aload_n 0, 1) := by decide +kernel
theorem dX10_init_1 : decode cX10_init 1 = .ok (.invokespecial 3, 3) := by decide +kernel
theorem dX10_init_4 : decode cX10_init 4 = .ok (.aload_n 0, 1) := by decide +kernel
theorem dX10_init_5 : decode cX10_init 5 = .ok (.bipush 6, 2) := by decide +kernel
theorem dX10_init_7 : decode cX10_init 7 = .ok (.newarray .int, 2) := by decide +kernel
theorem dX10_init_9 : decode cX10_init 9 = .ok (.putfield 9, 3) := by decide +kernel
theorem dX10_init_12 : decode cX10_init 12 = .ok (.aload_n 0, 1) := by decide +kernel
theorem dX10_init_13 : decode cX10_init 13 = .ok (.bipush 6, 2) := by decide +kernel
theorem dX10_init_15 : decode cX10_init 15 = .ok (.newarray .int, 2) := by decide +kernel
theorem dX10_init_17 : decode cX10_init 17 = .ok (.putfield 15, 3) := by decide +kernel
theorem dX10_init_20 : decode cX10_init 20 = .ok (.aload_n 0, 1) := by decide +kernel
theorem dX10_init_21 : decode cX10_init 21 = .ok (.bipush 6, 2) := by decide +kernel

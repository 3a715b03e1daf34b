theorem dX12_isWet_6 : decode cX12_isWet 6 = .ok (.aload_n 0, 1) := by decide +kernel
theorem dX12_isWet_7 : decode cX12_isWet 7 = .ok (.getfield 13, 3) := by decide +kernel
theorem dX12_isWet_10 : decode cX12_isWet 10 = .ok (.iload_n 1, 1) := by decide +kernel
theorem dX12_isWet_11 : decode cX12_isWet 11 = .ok (.iaload, 1) := by decide +kernel
theorem dX12_isWet_12 : decode cX12_isWet 12 = .ok (.if_icmp .lt 7, 3) := by decide +kernel
theorem dX12_isWet_15 : decode cX12_isWet 15 = .ok (.iconst 1, 1) := by decide +kernel
theorem dX12_isWet_16 : decode cX12_isWet 16 = .ok (.goto 4, 3) := by decide +kernel
theorem dX12_isWet_19 : decode cX12_isWet 19 = .ok (.iconst 0, 1) := by decide +kernel
theorem dX12_isWet_20 : decode cX12_isWet 20 = .ok (.ireturn, 1) := by decide +kernel
theorem dX12_heavy_0 : decode cX12_heavy 0 = .ok (.aload_n 0, 1) := by decide +kernel
theorem dX12_heavy_1 : decode cX12_heavy 1 = .ok (.iload_n 1, 1) := by decide +kernel
theorem dX12_heavy_2 : decode cX12_heavy 2 = .ok (.iload_n 2, 1) := by decide +kernel
theorem dX12_heavy_3 : decode cX12_heavy 3 = .ok (.invokevirtual 196, 3) := by decide +kernel
theorem dX12_heavy_6 : decode cX12_heavy 6 = .ok (.ifCond .eq 13, 3) := by decide +kernel
theorem dX12_heavy_9 : decode cX12_heavy 9 = .ok (.aload_n 0, 1) := by decide +kernel
theorem dX12_heavy_10 : decode cX12_heavy 10 = .ok (.getfield 43, 3) := by decide +kernel
theorem dX12_heavy_13 : decode cX12_heavy 13 = .ok (.bipush 21, 2) := by decide +kernel
theorem dX12_heavy_15 : decode cX12_heavy 15 = .ok (.iaload, 1) := by decide +kernel
theorem dX12_heavy_16 : decode cX12_heavy 16 = .ok (.goto 10, 3) := by decide +kernel
theorem dX12_heavy_19 : decode cX12_heavy 19 = .ok (.aload_n 0, 1) := by decide +kernel
theorem dX12_heavy_20 : decode cX12_heavy 20 = .ok (.getfield 43, 3) := by decide +kernel
theorem dX12_heavy_23 : decode cX12_heavy 23 = .ok (.bipush 20, 2) := by decide +kernel
theorem dX12_heavy_25 : decode cX12_heavy 25 = .ok (.iaload, 1) := by decide +kernel
theorem dX12_heavy_26 : decode cX12_heavy 26 = .ok (.ireturn, 1) := by decide +kernel
theorem dX12_hold_0 : decode cX12_hold 0 = .ok (.aload_n 0, 1) := by decide +kernel
theorem dX12_hold_1 : decode cX12_hold 1 = .ok (.getfield 22, 3) := by decide +kernel
theorem dX12_hold_4 : decode cX12_hold 4 = .ok (.bipush 6, 2) := by decide +kernel
theorem dX12_hold_6 : decode cX12_hold 6 = .ok (.iload_n 1, 1) := by decide +kernel
theorem dX12_hold_7 : decode cX12_hold 7 = .ok (.imul, 1) := by decide +kernel
theorem dX12_hold_8 : decode cX12_hold 8 = .ok (.iload_n 2, 1) := by decide +kernel
theorem dX12_hold_9 : decode cX12_hold 9 = .ok (.iadd, 1) := by decide +kernel
theorem dX12_hold_10 : decode cX12_hold 10 = .ok (.iaload, 1) := by decide +kernel
theorem dX12_hold_11 : decode cX12_hold 11 = .ok (.aload_n 0, 1) := by decide +kernel
theorem dX12_hold_12 : decode cX12_hold 12 = .ok (.iload_n 1, 1) := by decide +kernel
theorem dX12_hold_13 : decode cX12_hold 13 = .ok (.iload_n 2, 1) := by decide +kernel
theorem dX12_hold_14 : decode cX12_hold 14 = .ok (.invokevirtual 199, 3) := by decide +kernel
theorem dX12_hold_17 : decode cX12_hold 17 = .ok (.imul, 1) := by decide +kernel
theorem dX12_hold_18 : decode cX12_hold 18 = .ok (.iconst 2, 1) := by decide +kernel
theorem dX12_hold_19 : decode cX12_hold 19 = .ok (.idiv, 1) := by decide +kernel
theorem dX12_hold_20 : decode cX12_hold 20 = .ok (.istore_n 3, 1) := by decide +kernel
theorem dX12_hold_21 : decode cX12_hold 21 = .ok (.iconst 0, 1) := by decide +kernel
theorem dX12_hold_22 : decode cX12_hold 22 = .ok (.istore 4, 2) := by decide +kernel
theorem dX12_hold_24 : decode cX12_hold 24 = .ok (.iload 4, 2) := by decide +kernel
theorem dX12_hold_26 : decode cX12_hold 26 = .ok (.iload_n 2, 1) := by decide +kernel
theorem dX12_hold_27 : decode cX12_hold 27 = .ok (.if_icmp .ge 32, 3) := by decide +kernel
theorem dX12_hold_30 : decode cX12_hold 30 = .ok (.iload_n 3, 1) := by decide +kernel
theorem dX12_hold_31 : decode cX12_hold 31 = .ok (.aload_n 0, 1) := by decide +kernel
theorem dX12_hold_32 : decode cX12_hold 32 = .ok (.getfield 22, 3) := by decide +kernel
theorem dX12_hold_35 : decode cX12_hold 35 = .ok (.bipush 6, 2) := by decide +kernel
theorem dX12_hold_37 : decode cX12_hold 37 = .ok (.iload_n 1, 1) := by decide +kernel
theorem dX12_hold_38 : decode cX12_hold 38 = .ok (.imul, 1) := by decide +kernel
theorem dX12_hold_39 : decode cX12_hold 39 = .ok (.iload 4, 2) := by decide +kernel
theorem dX12_hold_41 : decode cX12_hold 41 = .ok (.iadd, 1) := by decide +kernel
theorem dX12_hold_42 : decode cX12_hold 42 = .ok (.iaload, 1) := by decide +kernel
theorem dX12_hold_43 : decode cX12_hold 43 = .ok (.aload_n 0, 1) := by decide +kernel
theorem dX12_hold_44 : decode cX12_hold 44 = .ok (.iload_n 1, 1) := by decide +kernel
theorem dX12_hold_45 : decode cX12_hold 45 = .ok (.iload 4, 2) := by decide +kernel
theorem dX12_hold_47 : decode cX12_hold 47 = .ok (.invokevirtual 199, 3) := by decide +kernel
theorem dX12_hold_50 : decode cX12_hold 50 = .ok (.imul, 1) := by decide +kernel
theorem dX12_hold_51 : decode cX12_hold 51 = .ok (.iadd, 1) := by decide +kernel
theorem dX12_hold_52 : decode cX12_hold 52 = .ok (.istore_n 3, 1) := by decide +kernel
theorem dX12_hold_53 : decode cX12_hold 53 = .ok (.iinc 4 1, 3) := by decide +kernel
theorem dX12_hold_56 : decode cX12_hold 56 = .ok (.goto (-32), 3) := by decide +kernel
theorem dX12_hold_59 : decode cX12_hold 59 = .ok (.iload_n 3, 1) := by decide +kernel
theorem dX12_hold_60 : decode cX12_hold 60 = .ok (.iconst 1, 1) := by decide +kernel
theorem dX12_hold_61 : decode cX12_hold 61 = .ok (.if_icmp .ge 7, 3) := by decide +kernel
theorem dX12_hold_64 : decode cX12_hold 64 = .ok (.iconst 1, 1) := by decide +kernel
theorem dX12_hold_65 : decode cX12_hold 65 = .ok (.goto 4, 3) := by decide +kernel
theorem dX12_hold_68 : decode cX12_hold 68 = .ok (.iload_n 3, 1) := by decide +kernel
theorem dX12_hold_69 : decode cX12_hold 69 = .ok (.ireturn, 1) := by decide +kernel
theorem dX12_about_0 : decode cX12_about 0 = .ok (.aload_n 0, 1) := by decide +kernel
theorem dX12_about_1 : decode cX12_about 1 = .ok (.iload_n 1, 1) := by decide +kernel
theorem dX12_about_2 : decode cX12_about 2 = .ok (.iload_n 2, 1) := by decide +kernel
theorem dX12_about_3 : decode cX12_about 3 = .ok (.invokevirtual 186, 3) := by decide +kernel
theorem dX12_about_6 : decode cX12_about 6 = .ok (.ifCond .ne 7, 3) := by decide +kernel
theorem dX12_about_9 : decode cX12_about 9 = .ok (.sipush (-1001), 3) := by decide +kernel
theorem dX12_about_12 : decode cX12_about 12 = .ok (.ireturn, 1) := by decide +kernel
theorem dX12_about_13 : decode cX12_about 13 = .ok (.iload_n 3, 1) := by decide +kernel
theorem dX12_about_14 : decode cX12_about 14 = .ok (.tableswitch 103 0 5 #[38, 50, 62, 74, 81, 96], 38) := by decide +kernel
theorem dX12_about_52 : decode cX12_about 52 = .ok (.aload_n 0, 1) := by decide +kernel
theorem dX12_about_53 : decode cX12_about 53 = .ok (.getfield 19, 3) := by decide +kernel
theorem dX12_about_56 : decode cX12_about 56 = .ok (.bipush 6, 2) := by decide +kernel
theorem dX12_about_58 : decode cX12_about 58 = .ok (.iload_n 1, 1) := by decide +kernel
theorem dX12_about_59 : decode cX12_about 59 = .ok (.imul, 1) := by decide +kernel
theorem dX12_about_60 : decode cX12_about 60 = .ok (.iload_n 2, 1) := by decide +kernel
theorem dX12_about_61 : decode cX12_about 61 = .ok (.iadd, 1) := by decide +kernel
theorem dX12_about_62 : decode cX12_about 62 = .ok (.iaload, 1) := by decide +kernel
theorem dX12_about_63 : decode cX12_about 63 = .ok (.ireturn, 1) := by decide +kernel
theorem dX12_about_64 : decode cX12_about 64 = .ok (.aload_n 0, 1) := by decide +kernel
theorem dX12_about_65 : decode cX12_about 65 = .ok (.getfield 22, 3) := by decide +kernel
theorem dX12_about_68 : decode cX12_about 68 = .ok (.bipush 6, 2) := by decide +kernel
theorem dX12_about_70 : decode cX12_about 70 = .ok (.iload_n 1, 1) := by decide +kernel
theorem dX12_about_71 : decode cX12_about 71 = .ok (.imul, 1) := by decide +kernel
theorem dX12_about_72 : decode cX12_about 72 = .ok (.iload_n 2, 1) := by decide +kernel
theorem dX12_about_73 : decode cX12_about 73 = .ok (.iadd, 1) := by decide +kernel
theorem dX12_about_74 : decode cX12_about 74 = .ok (.iaload, 1) := by decide +kernel
theorem dX12_about_75 : decode cX12_about 75 = .ok (.ireturn, 1) := by decide +kernel
theorem dX12_about_76 : decode cX12_about 76 = .ok (.aload_n 0, 1) := by decide +kernel
theorem dX12_about_77 : decode cX12_about 77 = .ok (.getfield 25, 3) := by decide +kernel
theorem dX12_about_80 : decode cX12_about 80 = .ok (.bipush 6, 2) := by decide +kernel
theorem dX12_about_82 : decode cX12_about 82 = .ok (.iload_n 1, 1) := by decide +kernel
theorem dX12_about_83 : decode cX12_about 83 = .ok (.imul, 1) := by decide +kernel
theorem dX12_about_84 : decode cX12_about 84 = .ok (.iload_n 2, 1) := by decide +kernel
theorem dX12_about_85 : decode cX12_about 85 = .ok (.iadd, 1) := by decide +kernel
theorem dX12_about_86 : decode cX12_about 86 = .ok (.iaload, 1) := by decide +kernel
theorem dX12_about_87 : decode cX12_about 87 = .ok (.ireturn, 1) := by decide +kernel
theorem dX12_about_88 : decode cX12_about 88 = .ok (.aload_n 0, 1) := by decide +kernel
theorem dX12_about_89 : decode cX12_about 89 = .ok (.iload_n 1, 1) := by decide +kernel
theorem dX12_about_90 : decode cX12_about 90 = .ok (.iload_n 2, 1) := by decide +kernel
theorem dX12_about_91 : decode cX12_about 91 = .ok (.invokevirtual 192, 3) := by decide +kernel
theorem dX12_about_94 : decode cX12_about 94 = .ok (.ireturn, 1) := by decide +kernel
theorem dX12_about_95 : decode cX12_about 95 = .ok (.aload_n 0, 1) := by decide +kernel
theorem dX12_about_96 : decode cX12_about 96 = .ok (.iload_n 1, 1) := by decide +kernel
theorem dX12_about_97 : decode cX12_about 97 = .ok (.iload_n 2, 1) := by decide +kernel
theorem dX12_about_98 : decode cX12_about 98 = .ok (.invokevirtual 196, 3) := by decide +kernel
theorem dX12_about_101 : decode cX12_about 101 = .ok (.ifCond .eq 7, 3) := by decide +kernel
theorem dX12_about_104 : decode cX12_about 104 = .ok (.iconst 1, 1) := by decide +kernel
theorem dX12_about_105 : decode cX12_about 105 = .ok (.goto 4, 3) := by decide +kernel
theorem dX12_about_108 : decode cX12_about 108 = .ok (.iconst 0, 1) := by decide +kernel
theorem dX12_about_109 : decode cX12_about 109 = .ok (.ireturn, 1) := by decide +kernel
theorem dX12_about_110 : decode cX12_about 110 = .ok (.aload_n 0, 1) := by decide +kernel
theorem dX12_about_111 : decode cX12_about 111 = .ok (.iload_n 1, 1) := by decide +kernel
theorem dX12_about_112 : decode cX12_about 112 = .ok (.iload_n 2, 1) := by decide +kernel
theorem dX12_about_113 : decode cX12_about 113 = .ok (.invokevirtual 202, 3) := by decide +kernel
theorem dX12_about_116 : decode cX12_about 116 = .ok (.ireturn, 1) := by decide +kernel
theorem dX12_about_117 : decode cX12_about 117 = .ok (.sipush (-1002), 3) := by decide +kernel
theorem dX12_about_120 : decode cX12_about 120 = .ok (.ireturn, 1) := by decide +kernel
theorem dX12_shake_0 : decode cX12_shake 0 = .ok (.iload_n 1, 1) := by decide +kernel
theorem dX12_shake_1 : decode cX12_shake 1 = .ok (.i2l, 1) := by decide +kernel
theorem dX12_shake_2 : decode cX12_shake 2 = .ok (.lconst 0, 1) := by decide +kernel
theorem dX12_shake_3 : decode cX12_shake 3 = .ok (.ldc2_w 205, 3) := by decide +kernel
theorem dX12_shake_6 : decode cX12_shake 6 = .ok (.invokestatic 165, 3) := by decide +kernel
theorem dX12_shake_9 : decode cX12_shake 9 = .ok (.ifCond .ne 7, 3) := by decide +kernel
theorem dX12_shake_12 : decode cX12_shake 12 = .ok (.sipush (-1002), 3) := by decide +kernel
theorem dX12_shake_15 : decode cX12_shake 15 = .ok (.ireturn, 1) := by decide +kernel
theorem dX12_shake_16 : decode cX12_shake 16 = .ok (.aload_n 0, 1) := by decide +kernel
theorem dX12_shake_17 : decode cX12_shake 17 = .ok (.getfield 173, 3) := by decide +kernel
theorem dX12_shake_20 : decode cX12_shake 20 = .ok (.bipush 6, 2) := by decide +kernel
theorem dX12_shake_22 : decode cX12_shake 22 = .ok (.if_icmp .ne 7, 3) := by decide +kernel
theorem dX12_shake_25 : decode cX12_shake 25 = .ok (.sipush (-1004), 3) := by decide +kernel
theorem dX12_shake_28 : decode cX12_shake 28 = .ok (.ireturn, 1) := by decide +kernel
theorem dX12_shake_29 : decode cX12_shake 29 = .ok (.aload_n 0, 1) := by decide +kernel
theorem dX12_shake_30 : decode cX12_shake 30 = .ok (.getfield 34, 3) := by decide +kernel
theorem dX12_shake_33 : decode cX12_shake 33 = .ok (.aload_n 0, 1) := by decide +kernel
theorem dX12_shake_34 : decode cX12_shake 34 = .ok (.getfield 173, 3) := by decide +kernel
theorem dX12_shake_37 : decode cX12_shake 37 = .ok (.iload_n 1, 1) := by decide +kernel
theorem dX12_shake_38 : decode cX12_shake 38 = .ok (.iastore, 1) := by decide +kernel
theorem dX12_shake_39 : decode cX12_shake 39 = .ok (.aload_n 0, 1) := by decide +kernel
theorem dX12_shake_40 : decode cX12_shake 40 = .ok (.dup, 1) := by decide +kernel
theorem dX12_shake_41 : decode cX12_shake 41 = .ok (.getfield 173, 3) := by decide +kernel
theorem dX12_shake_44 : decode cX12_shake 44 = .ok (.iconst 1, 1) := by decide +kernel
theorem dX12_shake_45 : decode cX12_shake 45 = .ok (.iadd, 1) := by decide +kernel
theorem dX12_shake_46 : decode cX12_shake 46 = .ok (.putfield 173, 3) := by decide +kernel
theorem dX12_shake_49 : decode cX12_shake 49 = .ok (.aload_n 0, 1) := by decide +kernel
theorem dX12_shake_50 : decode cX12_shake 50 = .ok (.getfield 173, 3) := by decide +kernel
theorem dX12_shake_53 : decode cX12_shake 53 = .ok (.iconst 1, 1) := by decide +kernel
theorem dX12_shake_54 : decode cX12_shake 54 = .ok (.isub, 1) := by decide +kernel
theorem dX12_shake_55 : decode cX12_shake 55 = .ok (.ireturn, 1) := by decide +kernel
theorem dX12_beat_0 : decode cX12_beat 0 = .ok (.aload_n 0, 1) := by decide +kernel
theorem dX12_beat_1 : decode cX12_beat 1 = .ok (.iload_n 1, 1) := by decide +kernel
theorem dX12_beat_2 : decode cX12_beat 2 = .ok (.invokevirtual 207, 3) := by decide +kernel
theorem dX12_beat_5 : decode cX12_beat 5 = .ok (.ifCond .ne 7, 3) := by decide +kernel
theorem dX12_beat_8 : decode cX12_beat 8 = .ok (.sipush (-1001), 3) := by decide +kernel
theorem dX12_beat_11 : decode cX12_beat 11 = .ok (.ireturn, 1) := by decide +kernel
theorem dX12_beat_12 : decode cX12_beat 12 = .ok (.iload_n 2, 1) := by decide +kernel
theorem dX12_beat_13 : decode cX12_beat 13 = .ok (.i2l, 1) := by decide +kernel
theorem dX12_beat_14 : decode cX12_beat 14 = .ok (.lconst 0, 1) := by decide +kernel
theorem dX12_beat_15 : decode cX12_beat 15 = .ok (.ldc2_w 176, 3) := by decide +kernel
theorem dX12_beat_18 : decode cX12_beat 18 = .ok (.invokestatic 165, 3) := by decide +kernel
theorem dX12_beat_21 : decode cX12_beat 21 = .ok (.ifCond .ne 7, 3) := by decide +kernel
theorem dX12_beat_24 : decode cX12_beat 24 = .ok (.sipush (-1002), 3) := by decide +kernel
theorem dX12_beat_27 : decode cX12_beat 27 = .ok (.ireturn, 1) := by decide +kernel
theorem dX12_beat_28 : decode cX12_beat 28 = .ok (.aload_n 0, 1) := by decide +kernel
theorem dX12_beat_29 : decode cX12_beat 29 = .ok (.getfield 37, 3) := by decide +kernel
theorem dX12_beat_32 : decode cX12_beat 32 = .ok (.iload_n 1, 1) := by decide +kernel
theorem dX12_beat_33 : decode cX12_beat 33 = .ok (.iaload, 1) := by decide +kernel
theorem dX12_beat_34 : decode cX12_beat 34 = .ok (.bipush 30, 2) := by decide +kernel
theorem dX12_beat_36 : decode cX12_beat 36 = .ok (.if_icmp .ne 7, 3) := by decide +kernel
theorem dX12_beat_39 : decode cX12_beat 39 = .ok (.sipush (-1004), 3) := by decide +kernel
theorem dX12_beat_42 : decode cX12_beat 42 = .ok (.ireturn, 1) := by decide +kernel
theorem dX12_beat_43 : decode cX12_beat 43 = .ok (.aload_n 0, 1) := by decide +kernel
theorem dX12_beat_44 : decode cX12_beat 44 = .ok (.getfield 40, 3) := by decide +kernel
theorem dX12_beat_47 : decode cX12_beat 47 = .ok (.bipush 30, 2) := by decide +kernel
theorem dX12_beat_49 : decode cX12_beat 49 = .ok (.iload_n 1, 1) := by decide +kernel
theorem dX12_beat_50 : decode cX12_beat 50 = .ok (.imul, 1) := by decide +kernel
theorem dX12_beat_51 : decode cX12_beat 51 = .ok (.aload_n 0, 1) := by decide +kernel
theorem dX12_beat_52 : decode cX12_beat 52 = .ok (.getfield 37, 3) := by decide +kernel
theorem dX12_beat_55 : decode cX12_beat 55 = .ok (.iload_n 1, 1) := by decide +kernel
theorem dX12_beat_56 : decode cX12_beat 56 = .ok (.iaload, 1) := by decide +kernel
theorem dX12_beat_57 : decode cX12_beat 57 = .ok (.iadd, 1) := by decide +kernel
theorem dX12_beat_58 : decode cX12_beat 58 = .ok (.iload_n 2, 1) := by decide +kernel
theorem dX12_beat_59 : decode cX12_beat 59 = .ok (.iastore, 1) := by decide +kernel
theorem dX12_beat_60 : decode cX12_beat 60 = .ok (.aload_n 0, 1) := by decide +kernel
theorem dX12_beat_61 : decode cX12_beat 61 = .ok (.getfield 37, 3) := by decide +kernel
theorem dX12_beat_64 : decode cX12_beat 64 = .ok (.iload_n 1, 1) := by decide +kernel
theorem dX12_beat_65 : decode cX12_beat 65 = .ok (.dup2, 1) := by decide +kernel
theorem dX12_beat_66 : decode cX12_beat 66 = .ok (.iaload, 1) := by decide +kernel
theorem dX12_beat_67 : decode cX12_beat 67 = .ok (.iconst 1, 1) := by decide +kernel
theorem dX12_beat_68 : decode cX12_beat 68 = .ok (.iadd, 1) := by decide +kernel
theorem dX12_beat_69 : decode cX12_beat 69 = .ok (.iastore, 1) := by decide +kernel
theorem dX12_beat_70 : decode cX12_beat 70 = .ok (.aload_n 0, 1) := by decide +kernel
theorem dX12_beat_71 : decode cX12_beat 71 = .ok (.invokevirtual 160, 3) := by decide +kernel
theorem dX12_beat_74 : decode cX12_beat 74 = .ok (.aload_n 0, 1) := by decide +kernel
theorem dX12_beat_75 : decode cX12_beat 75 = .ok (.getfield 37, 3) := by decide +kernel
theorem dX12_beat_78 : decode cX12_beat 78 = .ok (.iload_n 1, 1) := by decide +kernel
theorem dX12_beat_79 : decode cX12_beat 79 = .ok (.iaload, 1) := by decide +kernel
theorem dX12_beat_80 : decode cX12_beat 80 = .ok (.ireturn, 1) := by decide +kernel
theorem dX12_count_0 : decode cX12_count 0 = .ok (.iconst 0, 1) := by decide +kernel
theorem dX12_count_1 : decode cX12_count 1 = .ok (.istore_n 2, 1) := by decide +kernel
theorem dX12_count_2 : decode cX12_count 2 = .ok (.iconst 0, 1) := by decide +kernel
theorem dX12_count_3 : decode cX12_count 3 = .ok (.istore_n 3, 1) := by decide +kernel
theorem dX12_count_4 : decode cX12_count 4 = .ok (.iload_n 3, 1) := by decide +kernel
theorem dX12_count_5 : decode cX12_count 5 = .ok (.bipush 6, 2) := by decide +kernel
theorem dX12_count_7 : decode cX12_count 7 = .ok (.if_icmp .ge 18, 3) := by decide +kernel
theorem dX12_count_10 : decode cX12_count 10 = .ok (.iload_n 2, 1) := by decide +kernel
theorem dX12_count_11 : decode cX12_count 11 = .ok (.aload_n 0, 1) := by decide +kernel
theorem dX12_count_12 : decode cX12_count 12 = .ok (.getfield 16, 3) := by decide +kernel
theorem dX12_count_15 : decode cX12_count 15 = .ok (.iload_n 3, 1) := by decide +kernel
theorem dX12_count_16 : decode cX12_count 16 = .ok (.iaload, 1) := by decide +kernel
theorem dX12_count_17 : decode cX12_count 17 = .ok (.iadd, 1) := by decide +kernel
theorem dX12_count_18 : decode cX12_count 18 = .ok (.istore_n 2, 1) := by decide +kernel
theorem dX12_count_19 : decode cX12_count 19 = .ok (.iinc 3 1, 3) := by decide +kernel
theorem dX12_count_22 : decode cX12_count 22 = .ok (.goto (-18), 3) := by decide +kernel
theorem dX12_count_25 : decode cX12_count 25 = .ok (.iconst 0, 1) := by decide +kernel
theorem dX12_count_26 : decode cX12_count 26 = .ok (.istore_n 3, 1) := by decide +kernel
theorem dX12_count_27 : decode cX12_count 27 = .ok (.iconst 0, 1) := by decide +kernel
theorem dX12_count_28 : decode cX12_count 28 = .ok (.istore 4, 2) := by decide +kernel
theorem dX12_count_30 : decode cX12_count 30 = .ok (.iload 4, 2) := by decide +kernel
theorem dX12_count_32 : decode cX12_count 32 = .ok (.aload_n 0, 1) := by decide +kernel
theorem dX12_count_33 : decode cX12_count 33 = .ok (.getfield 210, 3) := by decide +kernel
theorem dX12_count_36 : decode cX12_count 36 = .ok (.if_icmp .ge 27, 3) := by decide +kernel
theorem dX12_count_39 : decode cX12_count 39 = .ok (.iload_n 3, 1) := by decide +kernel
theorem dX12_count_40 : decode cX12_count 40 = .ok (.aload_n 0, 1) := by decide +kernel
theorem dX12_count_41 : decode cX12_count 41 = .ok (.getfield 92, 3) := by decide +kernel
theorem dX12_count_44 : decode cX12_count 44 = .ok (.iload 4, 2) := by decide +kernel
theorem dX12_count_46 : decode cX12_count 46 = .ok (.baload, 1) := by decide +kernel
theorem dX12_count_47 : decode cX12_count 47 = .ok (.ifCond .eq 7, 3) := by decide +kernel
theorem dX12_count_50 : decode cX12_count 50 = .ok (.iconst 1, 1) := by decide +kernel
theorem dX12_count_51 : decode cX12_count 51 = .ok (.goto 4, 3) := by decide +kernel
theorem dX12_count_54 : decode cX12_count 54 = .ok (.iconst 0, 1) := by decide +kernel
theorem dX12_count_55 : decode cX12_count 55 = .ok (.iadd, 1) := by decide +kernel
theorem dX12_count_56 : decode cX12_count 56 = .ok (.istore_n 3, 1) := by decide +kernel
theorem dX12_count_57 : decode cX12_count 57 = .ok (.iinc 4 1, 3) := by decide +kernel
theorem dX12_count_60 : decode cX12_count 60 = .ok (.goto (-30), 3) := by decide +kernel
theorem dX12_count_63 : decode cX12_count 63 = .ok (.iconst 0, 1) := by decide +kernel
theorem dX12_count_64 : decode cX12_count 64 = .ok (.istore 4, 2) := by decide +kernel
theorem dX12_count_66 : decode cX12_count 66 = .ok (.iconst 0, 1) := by decide +kernel
theorem dX12_count_67 : decode cX12_count 67 = .ok (.istore 5, 2) := by decide +kernel
theorem dX12_count_69 : decode cX12_count 69 = .ok (.iload 5, 2) := by decide +kernel
theorem dX12_count_71 : decode cX12_count 71 = .ok (.aload_n 0, 1) := by decide +kernel
theorem dX12_count_72 : decode cX12_count 72 = .ok (.getfield 173, 3) := by decide +kernel
theorem dX12_count_75 : decode cX12_count 75 = .ok (.if_icmp .ge 21, 3) := by decide +kernel
theorem dX12_count_78 : decode cX12_count 78 = .ok (.iload 4, 2) := by decide +kernel
theorem dX12_count_80 : decode cX12_count 80 = .ok (.aload_n 0, 1) := by decide +kernel
theorem dX12_count_81 : decode cX12_count 81 = .ok (.getfield 37, 3) := by decide +kernel
theorem dX12_count_84 : decode cX12_count 84 = .ok (.iload 5, 2) := by decide +kernel
theorem dX12_count_86 : decode cX12_count 86 = .ok (.iaload, 1) := by decide +kernel
theorem dX12_count_87 : decode cX12_count 87 = .ok (.iadd, 1) := by decide +kernel
theorem dX12_count_88 : decode cX12_count 88 = .ok (.istore 4, 2) := by decide +kernel
theorem dX12_count_90 : decode cX12_count 90 = .ok (.iinc 5 1, 3) := by decide +kernel
theorem dX12_count_93 : decode cX12_count 93 = .ok (.goto (-24), 3) := by decide +kernel
theorem dX12_count_96 : decode cX12_count 96 = .ok (.iload_n 1, 1) := by decide +kernel
theorem dX12_count_97 : decode cX12_count 97 = .ok (.tableswitch 88 0 8 #[51, 53, 58, 61, 66, 68, 73, 78, 83], 51) := by decide +kernel
theorem dX12_count_148 : decode cX12_count 148 = .ok (.iload_n 2, 1) := by decide +kernel
theorem dX12_count_149 : decode cX12_count 149 = .ok (.ireturn, 1) := by decide +kernel
theorem dX12_count_150 : decode cX12_count 150 = .ok (.aload_n 0, 1) := by decide +kernel
theorem dX12_count_151 : decode cX12_count 151 = .ok (.getfield 173, 3) := by decide +kernel
theorem dX12_count_154 : decode cX12_count 154 = .ok (.ireturn, 1) := by decide +kernel
theorem dX12_count_155 : decode cX12_count 155 = .ok (.iload 4, 2) := by decide +kernel
theorem dX12_count_157 : decode cX12_count 157 = .ok (.ireturn, 1) := by decide +kernel
theorem dX12_count_158 : decode cX12_count 158 = .ok (.aload_n 0, 1) := by decide +kernel
theorem dX12_count_159 : decode cX12_count 159 = .ok (.getfield 210, 3) := by decide +kernel
theorem dX12_count_162 : decode cX12_count 162 = .ok (.ireturn, 1) := by decide +kernel
theorem dX12_count_163 : decode cX12_count 163 = .ok (.iload_n 3, 1) := by decide +kernel
theorem dX12_count_164 : decode cX12_count 164 = .ok (.ireturn, 1) := by decide +kernel
theorem dX12_count_165 : decode cX12_count 165 = .ok (.aload_n 0, 1) := by decide +kernel
theorem dX12_count_166 : decode cX12_count 166 = .ok (.getfield 213, 3) := by decide +kernel
theorem dX12_count_169 : decode cX12_count 169 = .ok (.ireturn, 1) := by decide +kernel
theorem dX12_count_170 : decode cX12_count 170 = .ok (.aload_n 0, 1) := by decide +kernel
theorem dX12_count_171 : decode cX12_count 171 = .ok (.getfield 216, 3) := by decide +kernel
theorem dX12_count_174 : decode cX12_count 174 = .ok (.ireturn, 1) := by decide +kernel
theorem dX12_count_175 : decode cX12_count 175 = .ok (.aload_n 0, 1) := by decide +kernel
theorem dX12_count_176 : decode cX12_count 176 = .ok (.getfield 219, 3) := by decide +kernel
theorem dX12_count_179 : decode cX12_count 179 = .ok (.ireturn, 1) := by decide +kernel
theorem dX12_count_180 : decode cX12_count 180 = .ok (.aload_n 0, 1) := by decide +kernel
theorem dX12_count_181 : decode cX12_count 181 = .ok (.getfield 222, 3) := by decide +kernel
theorem dX12_count_184 : decode cX12_count 184 = .ok (.ireturn, 1) := by decide +kernel
theorem dX12_count_185 : decode cX12_count 185 = .ok (.sipush (-1002), 3) := by decide +kernel
theorem dX12_count_188 : decode cX12_count 188 = .ok (.ireturn, 1) := by decide +kernel
theorem dX12_manyChoices_0 : decode cX12_manyChoices 0 = .ok (.iconst 1, 1) := by decide +kernel
theorem dX12_manyChoices_1 : decode cX12_manyChoices 1 = .ok (.istore_n 2, 1) := by decide +kernel
theorem dX12_manyChoices_2 : decode cX12_manyChoices 2 = .ok (.iconst 0, 1) := by decide +kernel
theorem dX12_manyChoices_3 : decode cX12_manyChoices 3 = .ok (.istore_n 3, 1) := by decide +kernel
theorem dX12_manyChoices_4 : decode cX12_manyChoices 4 = .ok (.iload_n 3, 1) := by decide +kernel
theorem dX12_manyChoices_5 : decode cX12_manyChoices 5 = .ok (.aload_n 0, 1) := by decide +kernel
theorem dX12_manyChoices_6 : decode cX12_manyChoices 6 = .ok (.getfield 16, 3) := by decide +kernel
theorem dX12_manyChoices_9 : decode cX12_manyChoices 9 = .ok (.iload_n 1, 1) := by decide +kernel
theorem dX12_manyChoices_10 : decode cX12_manyChoices 10 = .ok (.iaload, 1) := by decide +kernel
theorem dX12_manyChoices_11 : decode cX12_manyChoices 11 = .ok (.if_icmp .ge 23, 3) := by decide +kernel
theorem dX12_manyChoices_14 : decode cX12_manyChoices 14 = .ok (.iload_n 2, 1) := by decide +kernel
theorem dX12_manyChoices_15 : decode cX12_manyChoices 15 = .ok (.aload_n 0, 1) := by decide +kernel
theorem dX12_manyChoices_16 : decode cX12_manyChoices 16 = .ok (.getfield 25, 3) := by decide +kernel
theorem dX12_manyChoices_19 : decode cX12_manyChoices 19 = .ok (.bipush 6, 2) := by decide +kernel
theorem dX12_manyChoices_21 : decode cX12_manyChoices 21 = .ok (.iload_n 1, 1) := by decide +kernel
theorem dX12_manyChoices_22 : decode cX12_manyChoices 22 = .ok (.imul, 1) := by decide +kernel
theorem dX12_manyChoices_23 : decode cX12_manyChoices 23 = .ok (.iload_n 3, 1) := by decide +kernel
theorem dX12_manyChoices_24 : decode cX12_manyChoices 24 = .ok (.iadd, 1) := by decide +kernel
theorem dX12_manyChoices_25 : decode cX12_manyChoices 25 = .ok (.iaload, 1) := by decide +kernel
theorem dX12_manyChoices_26 : decode cX12_manyChoices 26 = .ok (.imul, 1) := by decide +kernel
theorem dX12_manyChoices_27 : decode cX12_manyChoices 27 = .ok (.istore_n 2, 1) := by decide +kernel
theorem dX12_manyChoices_28 : decode cX12_manyChoices 28 = .ok (.iinc 3 1, 3) := by decide +kernel
theorem dX12_manyChoices_31 : decode cX12_manyChoices 31 = .ok (.goto (-27), 3) := by decide +kernel
theorem dX12_manyChoices_34 : decode cX12_manyChoices 34 = .ok (.iload_n 2, 1) := by decide +kernel
theorem dX12_manyChoices_35 : decode cX12_manyChoices 35 = .ok (.ireturn, 1) := by decide +kernel
theorem dX12_choose_0 : decode cX12_choose 0 = .ok (.iload_n 2, 1) := by decide +kernel
theorem dX12_choose_1 : decode cX12_choose 1 = .ok (.istore_n 3, 1) := by decide +kernel
theorem dX12_choose_2 : decode cX12_choose 2 = .ok (.aload_n 0, 1) := by decide +kernel
theorem dX12_choose_3 : decode cX12_choose 3 = .ok (.lconst 1, 1) := by decide +kernel
theorem dX12_choose_4 : decode cX12_choose 4 = .ok (.putfield 225, 3) := by decide +kernel
theorem dX12_choose_7 : decode cX12_choose 7 = .ok (.aload_n 0, 1) := by decide +kernel
theorem dX12_choose_8 : decode cX12_choose 8 = .ok (.getfield 16, 3) := by decide +kernel
theorem dX12_choose_11 : decode cX12_choose 11 = .ok (.iload_n 1, 1) := by decide +kernel
theorem dX12_choose_12 : decode cX12_choose 12 = .ok (.iaload, 1) := by decide +kernel
theorem dX12_choose_13 : decode cX12_choose 13 = .ok (.iconst 1, 1) := by decide +kernel
theorem dX12_choose_14 : decode cX12_choose 14 = .ok (.isub, 1) := by decide +kernel
theorem dX12_choose_15 : decode cX12_choose 15 = .ok (.istore 4, 2) := by decide +kernel
theorem dX12_choose_17 : decode cX12_choose 17 = .ok (.iload 4, 2) := by decide +kernel
theorem dX12_choose_19 : decode cX12_choose 19 = .ok (.ifCond .lt 71, 3) := by decide +kernel
theorem dX12_choose_22 : decode cX12_choose 22 = .ok (.bipush 6, 2) := by decide +kernel
theorem dX12_choose_24 : decode cX12_choose 24 = .ok (.iload_n 1, 1) := by decide +kernel
theorem dX12_choose_25 : decode cX12_choose 25 = .ok (.imul, 1) := by decide +kernel
theorem dX12_choose_26 : decode cX12_choose 26 = .ok (.iload 4, 2) := by decide +kernel
theorem dX12_choose_28 : decode cX12_choose 28 = .ok (.iadd, 1) := by decide +kernel
theorem dX12_choose_29 : decode cX12_choose 29 = .ok (.istore 5, 2) := by decide +kernel
theorem dX12_choose_31 : decode cX12_choose 31 = .ok (.aload_n 0, 1) := by decide +kernel
theorem dX12_choose_32 : decode cX12_choose 32 = .ok (.getfield 56, 3) := by decide +kernel
theorem dX12_choose_35 : decode cX12_choose 35 = .ok (.iload 4, 2) := by decide +kernel
theorem dX12_choose_37 : decode cX12_choose 37 = .ok (.iload_n 3, 1) := by decide +kernel
theorem dX12_choose_38 : decode cX12_choose 38 = .ok (.aload_n 0, 1) := by decide +kernel
theorem dX12_choose_39 : decode cX12_choose 39 = .ok (.getfield 25, 3) := by decide +kernel
theorem dX12_choose_42 : decode cX12_choose 42 = .ok (.iload 5, 2) := by decide +kernel
theorem dX12_choose_44 : decode cX12_choose 44 = .ok (.iaload, 1) := by decide +kernel
theorem dX12_choose_45 : decode cX12_choose 45 = .ok (.irem, 1) := by decide +kernel
theorem dX12_choose_46 : decode cX12_choose 46 = .ok (.iastore, 1) := by decide +kernel
theorem dX12_choose_47 : decode cX12_choose 47 = .ok (.iload_n 3, 1) := by decide +kernel
theorem dX12_choose_48 : decode cX12_choose 48 = .ok (.aload_n 0, 1) := by decide +kernel
theorem dX12_choose_49 : decode cX12_choose 49 = .ok (.getfield 25, 3) := by decide +kernel
theorem dX12_choose_52 : decode cX12_choose 52 = .ok (.iload 5, 2) := by decide +kernel
theorem dX12_choose_54 : decode cX12_choose 54 = .ok (.iaload, 1) := by decide +kernel
theorem dX12_choose_55 : decode cX12_choose 55 = .ok (.idiv, 1) := by decide +kernel
theorem dX12_choose_56 : decode cX12_choose 56 = .ok (.istore_n 3, 1) := by decide +kernel
theorem dX12_choose_57 : decode cX12_choose 57 = .ok (.aload_n 0, 1) := by decide +kernel
theorem dX12_choose_58 : decode cX12_choose 58 = .ok (.dup, 1) := by decide +kernel
theorem dX12_choose_59 : decode cX12_choose 59 = .ok (.getfield 225, 3) := by decide +kernel
theorem dX12_choose_62 : decode cX12_choose 62 = .ok (.aload_n 0, 1) := by decide +kernel
theorem dX12_choose_63 : decode cX12_choose 63 = .ok (.getfield 31, 3) := by decide +kernel
theorem dX12_choose_66 : decode cX12_choose 66 = .ok (.iconst 3, 1) := by decide +kernel
theorem dX12_choose_67 : decode cX12_choose 67 = .ok (.iload 5, 2) := by decide +kernel
theorem dX12_choose_69 : decode cX12_choose 69 = .ok (.imul, 1) := by decide +kernel
theorem dX12_choose_70 : decode cX12_choose 70 = .ok (.aload_n 0, 1) := by decide +kernel
theorem dX12_choose_71 : decode cX12_choose 71 = .ok (.getfield 56, 3) := by decide +kernel
theorem dX12_choose_74 : decode cX12_choose 74 = .ok (.iload 4, 2) := by decide +kernel
theorem dX12_choose_76 : decode cX12_choose 76 = .ok (.iaload, 1) := by decide +kernel
theorem dX12_choose_77 : decode cX12_choose 77 = .ok (.iadd, 1) := by decide +kernel
theorem dX12_choose_78 : decode cX12_choose 78 = .ok (.iaload, 1) := by decide +kernel
theorem dX12_choose_79 : decode cX12_choose 79 = .ok (.i2l, 1) := by decide +kernel
theorem dX12_choose_80 : decode cX12_choose 80 = .ok (.lmul, 1) := by decide +kernel
theorem dX12_choose_81 : decode cX12_choose 81 = .ok (.putfield 225, 3) := by decide +kernel
theorem dX12_choose_84 : decode cX12_choose 84 = .ok (.iinc 4 (-1), 3) := by decide +kernel
theorem dX12_choose_87 : decode cX12_choose 87 = .ok (.goto (-70), 3) := by decide +kernel
theorem dX12_choose_90 : decode cX12_choose 90 = .ok (.return_, 1) := by decide +kernel
theorem dX12_grow_0 : decode cX12_grow 0 = .ok (.aload_n 0, 1) := by decide +kernel
theorem dX12_grow_1 : decode cX12_grow 1 = .ok (.getfield 59, 3) := by decide +kernel
theorem dX12_grow_4 : decode cX12_grow 4 = .ok (.iload_n 1, 1) := by decide +kernel
theorem dX12_grow_5 : decode cX12_grow 5 = .ok (.dup2, 1) := by decide +kernel
theorem dX12_grow_6 : decode cX12_grow 6 = .ok (.iaload, 1) := by decide +kernel
theorem dX12_grow_7 : decode cX12_grow 7 = .ok (.iload_n 2, 1) := by decide +kernel
theorem dX12_grow_8 : decode cX12_grow 8 = .ok (.iadd, 1) := by decide +kernel
theorem dX12_grow_9 : decode cX12_grow 9 = .ok (.iastore, 1) := by decide +kernel
theorem dX12_grow_10 : decode cX12_grow 10 = .ok (.aload_n 0, 1) := by decide +kernel
theorem dX12_grow_11 : decode cX12_grow 11 = .ok (.getfield 59, 3) := by decide +kernel
theorem dX12_grow_14 : decode cX12_grow 14 = .ok (.iload_n 1, 1) := by decide +kernel
theorem dX12_grow_15 : decode cX12_grow 15 = .ok (.iaload, 1) := by decide +kernel
theorem dX12_grow_16 : decode cX12_grow 16 = .ok (.sipush 1000, 3) := by decide +kernel
theorem dX12_grow_19 : decode cX12_grow 19 = .ok (.if_icmp .lt 19, 3) := by decide +kernel
theorem dX12_grow_22 : decode cX12_grow 22 = .ok (.aload_n 0, 1) := by decide +kernel
theorem dX12_grow_23 : decode cX12_grow 23 = .ok (.getfield 59, 3) := by decide +kernel
theorem dX12_grow_26 : decode cX12_grow 26 = .ok (.iload_n 1, 1) := by decide +kernel
theorem dX12_grow_27 : decode cX12_grow 27 = .ok (.sipush 1000, 3) := by decide +kernel
theorem dX12_grow_30 : decode cX12_grow 30 = .ok (.iastore, 1) := by decide +kernel
theorem dX12_grow_31 : decode cX12_grow 31 = .ok (.aload_n 0, 1) := by decide +kernel
theorem dX12_grow_32 : decode cX12_grow 32 = .ok (.getfield 62, 3) := by decide +kernel
theorem dX12_grow_35 : decode cX12_grow 35 = .ok (.iload_n 1, 1) := by decide +kernel
theorem dX12_grow_36 : decode cX12_grow 36 = .ok (.iload_n 3, 1) := by decide +kernel
theorem dX12_grow_37 : decode cX12_grow 37 = .ok (.iastore, 1) := by decide +kernel
theorem dX12_grow_38 : decode cX12_grow 38 = .ok (.return_, 1) := by decide +kernel
theorem dX12_drain_0 : decode cX12_drain 0 = .ok (.aload_n 0, 1) := by decide +kernel
theorem dX12_drain_1 : decode cX12_drain 1 = .ok (.getfield 16, 3) := by decide +kernel
theorem dX12_drain_4 : decode cX12_drain 4 = .ok (.iload_n 1, 1) := by decide +kernel
theorem dX12_drain_5 : decode cX12_drain 5 = .ok (.iaload, 1) := by decide +kernel
theorem dX12_drain_6 : decode cX12_drain 6 = .ok (.istore_n 3, 1) := by decide +kernel
theorem dX12_drain_7 : decode cX12_drain 7 = .ok (.iconst 0, 1) := by decide +kernel
theorem dX12_drain_8 : decode cX12_drain 8 = .ok (.istore 4, 2) := by decide +kernel
theorem dX12_drain_10 : decode cX12_drain 10 = .ok (.iload 4, 2) := by decide +kernel
theorem dX12_drain_12 : decode cX12_drain 12 = .ok (.iload_n 3, 1) := by decide +kernel
theorem dX12_drain_13 : decode cX12_drain 13 = .ok (.if_icmp .ge 90, 3) := by decide +kernel
theorem dX12_drain_16 : decode cX12_drain 16 = .ok (.aload_n 0, 1) := by decide +kernel
theorem dX12_drain_17 : decode cX12_drain 17 = .ok (.getfield 43, 3) := by decide +kernel
theorem dX12_drain_20 : decode cX12_drain 20 = .ok (.iconst 5, 1) := by decide +kernel
theorem dX12_drain_21 : decode cX12_drain 21 = .ok (.aload_n 0, 1) := by decide +kernel
theorem dX12_drain_22 : decode cX12_drain 22 = .ok (.getfield 19, 3) := by decide +kernel
theorem dX12_drain_25 : decode cX12_drain 25 = .ok (.bipush 6, 2) := by decide +kernel
theorem dX12_drain_27 : decode cX12_drain 27 = .ok (.iload_n 1, 1) := by decide +kernel
theorem dX12_drain_28 : decode cX12_drain 28 = .ok (.imul, 1) := by decide +kernel
theorem dX12_drain_29 : decode cX12_drain 29 = .ok (.iload 4, 2) := by decide +kernel
theorem dX12_drain_31 : decode cX12_drain 31 = .ok (.iadd, 1) := by decide +kernel
theorem dX12_drain_32 : decode cX12_drain 32 = .ok (.iaload, 1) := by decide +kernel
theorem dX12_drain_33 : decode cX12_drain 33 = .ok (.imul, 1) := by decide +kernel
theorem dX12_drain_34 : decode cX12_drain 34 = .ok (.iconst 1, 1) := by decide +kernel
theorem dX12_drain_35 : decode cX12_drain 35 = .ok (.iadd, 1) := by decide +kernel
theorem dX12_drain_36 : decode cX12_drain 36 = .ok (.iaload, 1) := by decide +kernel
theorem dX12_drain_37 : decode cX12_drain 37 = .ok (.aload_n 0, 1) := by decide +kernel
theorem dX12_drain_38 : decode cX12_drain 38 = .ok (.getfield 229, 3) := by decide +kernel
theorem dX12_drain_41 : decode cX12_drain 41 = .ok (.iadd, 1) := by decide +kernel
theorem dX12_drain_42 : decode cX12_drain 42 = .ok (.istore 5, 2) := by decide +kernel
theorem dX12_drain_44 : decode cX12_drain 44 = .ok (.iload 5, 2) := by decide +kernel
theorem dX12_drain_46 : decode cX12_drain 46 = .ok (.sipush 1000, 3) := by decide +kernel
theorem dX12_drain_49 : decode cX12_drain 49 = .ok (.if_icmp .le 9, 3) := by decide +kernel
theorem dX12_drain_52 : decode cX12_drain 52 = .ok (.sipush 1000, 3) := by decide +kernel
theorem dX12_drain_55 : decode cX12_drain 55 = .ok (.goto 5, 3) := by decide +kernel
theorem dX12_drain_58 : decode cX12_drain 58 = .ok (.iload 5, 2) := by decide +kernel
theorem dX12_drain_60 : decode cX12_drain 60 = .ok (.istore 5, 2) := by decide +kernel
theorem dX12_drain_62 : decode cX12_drain 62 = .ok (.aload_n 0, 1) := by decide +kernel
theorem dX12_drain_63 : decode cX12_drain 63 = .ok (.getfield 68, 3) := by decide +kernel
theorem dX12_drain_66 : decode cX12_drain 66 = .ok (.iload 4, 2) := by decide +kernel
theorem dX12_drain_68 : decode cX12_drain 68 = .ok (.aload_n 0, 1) := by decide +kernel
theorem dX12_drain_69 : decode cX12_drain 69 = .ok (.getfield 71, 3) := by decide +kernel
theorem dX12_drain_72 : decode cX12_drain 72 = .ok (.iload 4, 2) := by decide +kernel
theorem dX12_drain_74 : decode cX12_drain 74 = .ok (.baload, 1) := by decide +kernel
theorem dX12_drain_75 : decode cX12_drain 75 = .ok (.ifCond .eq 20, 3) := by decide +kernel
theorem dX12_drain_78 : decode cX12_drain 78 = .ok (.aload_n 0, 1) := by decide +kernel
theorem dX12_drain_79 : decode cX12_drain 79 = .ok (.getfield 59, 3) := by decide +kernel
theorem dX12_drain_82 : decode cX12_drain 82 = .ok (.iload 4, 2) := by decide +kernel
theorem dX12_drain_84 : decode cX12_drain 84 = .ok (.iaload, 1) := by decide +kernel
theorem dX12_drain_85 : decode cX12_drain 85 = .ok (.iload 5, 2) := by decide +kernel
theorem dX12_drain_87 : decode cX12_drain 87 = .ok (.imul, 1) := by decide +kernel
theorem dX12_drain_88 : decode cX12_drain 88 = .ok (.sipush 1000, 3) := by decide +kernel
theorem dX12_drain_91 : decode cX12_drain 91 = .ok (.idiv, 1) := by decide +kernel
theorem dX12_drain_92 : decode cX12_drain 92 = .ok (.goto 4, 3) := by decide +kernel
theorem dX12_drain_95 : decode cX12_drain 95 = .ok (.iconst 0, 1) := by decide +kernel
theorem dX12_drain_96 : decode cX12_drain 96 = .ok (.iastore, 1) := by decide +kernel
theorem dX12_drain_97 : decode cX12_drain 97 = .ok (.iinc 4 1, 3) := by decide +kernel
theorem dX12_drain_100 : decode cX12_drain 100 = .ok (.goto (-90), 3) := by decide +kernel
theorem dX12_drain_103 : decode cX12_drain 103 = .ok (.iconst 0, 1) := by decide +kernel
theorem dX12_drain_104 : decode cX12_drain 104 = .ok (.istore 4, 2) := by decide +kernel
theorem dX12_drain_106 : decode cX12_drain 106 = .ok (.iload 4, 2) := by decide +kernel
theorem dX12_drain_108 : decode cX12_drain 108 = .ok (.iload_n 3, 1) := by decide +kernel
theorem dX12_drain_109 : decode cX12_drain 109 = .ok (.if_icmp .ge 72, 3) := by decide +kernel
theorem dX12_drain_112 : decode cX12_drain 112 = .ok (.aload_n 0, 1) := by decide +kernel
theorem dX12_drain_113 : decode cX12_drain 113 = .ok (.getfield 59, 3) := by decide +kernel
theorem dX12_drain_116 : decode cX12_drain 116 = .ok (.iload 4, 2) := by decide +kernel
theorem dX12_drain_118 : decode cX12_drain 118 = .ok (.dup2, 1) := by decide +kernel
theorem dX12_drain_119 : decode cX12_drain 119 = .ok (.iaload, 1) := by decide +kernel
theorem dX12_drain_120 : decode cX12_drain 120 = .ok (.aload_n 0, 1) := by decide +kernel
theorem dX12_drain_121 : decode cX12_drain 121 = .ok (.getfield 68, 3) := by decide +kernel
theorem dX12_drain_124 : decode cX12_drain 124 = .ok (.iload 4, 2) := by decide +kernel
theorem dX12_drain_126 : decode cX12_drain 126 = .ok (.iaload, 1) := by decide +kernel
theorem dX12_drain_127 : decode cX12_drain 127 = .ok (.isub, 1) := by decide +kernel
theorem dX12_drain_128 : decode cX12_drain 128 = .ok (.iastore, 1) := by decide +kernel
theorem dX12_drain_129 : decode cX12_drain 129 = .ok (.iload 4, 2) := by decide +kernel
theorem dX12_drain_131 : decode cX12_drain 131 = .ok (.iconst 1, 1) := by decide +kernel
theorem dX12_drain_132 : decode cX12_drain 132 = .ok (.iadd, 1) := by decide +kernel
theorem dX12_drain_133 : decode cX12_drain 133 = .ok (.iload_n 3, 1) := by decide +kernel
theorem dX12_drain_134 : decode cX12_drain 134 = .ok (.if_icmp .ge 41, 3) := by decide +kernel
theorem dX12_drain_137 : decode cX12_drain 137 = .ok (.aload_n 0, 1) := by decide +kernel
theorem dX12_drain_138 : decode cX12_drain 138 = .ok (.getfield 71, 3) := by decide +kernel
theorem dX12_drain_141 : decode cX12_drain 141 = .ok (.iload 4, 2) := by decide +kernel
theorem dX12_drain_143 : decode cX12_drain 143 = .ok (.baload, 1) := by decide +kernel
theorem dX12_drain_144 : decode cX12_drain 144 = .ok (.ifCond .eq 31, 3) := by decide +kernel
theorem dX12_drain_147 : decode cX12_drain 147 = .ok (.aload_n 0, 1) := by decide +kernel
theorem dX12_drain_148 : decode cX12_drain 148 = .ok (.getfield 62, 3) := by decide +kernel
theorem dX12_drain_151 : decode cX12_drain 151 = .ok (.iload 4, 2) := by decide +kernel
theorem dX12_drain_153 : decode cX12_drain 153 = .ok (.iaload, 1) := by decide +kernel
theorem dX12_drain_154 : decode cX12_drain 154 = .ok (.ifCond .ge 21, 3) := by decide +kernel
theorem dX12_drain_157 : decode cX12_drain 157 = .ok (.aload_n 0, 1) := by decide +kernel
theorem dX12_drain_158 : decode cX12_drain 158 = .ok (.iload 4, 2) := by decide +kernel
theorem dX12_drain_160 : decode cX12_drain 160 = .ok (.aload_n 0, 1) := by decide +kernel
theorem dX12_drain_161 : decode cX12_drain 161 = .ok (.getfield 68, 3) := by decide +kernel
theorem dX12_drain_164 : decode cX12_drain 164 = .ok (.iload 4, 2) := by decide +kernel
theorem dX12_drain_166 : decode cX12_drain 166 = .ok (.iconst 1, 1) := by decide +kernel
theorem dX12_drain_167 : decode cX12_drain 167 = .ok (.iadd, 1) := by decide +kernel
theorem dX12_drain_168 : decode cX12_drain 168 = .ok (.iaload, 1) := by decide +kernel
theorem dX12_drain_169 : decode cX12_drain 169 = .ok (.iconst 2, 1) := by decide +kernel
theorem dX12_drain_170 : decode cX12_drain 170 = .ok (.idiv, 1) := by decide +kernel
theorem dX12_drain_171 : decode cX12_drain 171 = .ok (.iload_n 2, 1) := by decide +kernel
theorem dX12_drain_172 : decode cX12_drain 172 = .ok (.invokevirtual 232, 3) := by decide +kernel
theorem dX12_drain_175 : decode cX12_drain 175 = .ok (.iinc 4 1, 3) := by decide +kernel
theorem dX12_drain_178 : decode cX12_drain 178 = .ok (.goto (-72), 3) := by decide +kernel
theorem dX12_drain_181 : decode cX12_drain 181 = .ok (.return_, 1) := by decide +kernel
theorem dX12_runOf_0 : decode cX12_runOf 0 = .ok (.aload_n 0, 1) := by decide +kernel
theorem dX12_runOf_1 : decode cX12_runOf 1 = .ok (.getfield 16, 3) := by decide +kernel
theorem dX12_runOf_4 : decode cX12_runOf 4 = .ok (.iload_n 1, 1) := by decide +kernel
theorem dX12_runOf_5 : decode cX12_runOf 5 = .ok (.iaload, 1) := by decide +kernel
theorem dX12_runOf_6 : decode cX12_runOf 6 = .ok (.istore_n 3, 1) := by decide +kernel
theorem dX12_runOf_7 : decode cX12_runOf 7 = .ok (.iconst 0, 1) := by decide +kernel
theorem dX12_runOf_8 : decode cX12_runOf 8 = .ok (.istore 4, 2) := by decide +kernel
theorem dX12_runOf_10 : decode cX12_runOf 10 = .ok (.iload 4, 2) := by decide +kernel
theorem dX12_runOf_12 : decode cX12_runOf 12 = .ok (.iload_n 3, 1) := by decide +kernel
theorem dX12_runOf_13 : decode cX12_runOf 13 = .ok (.if_icmp .ge 53, 3) := by decide +kernel
theorem dX12_runOf_16 : decode cX12_runOf 16 = .ok (.aload_n 0, 1) := by decide +kernel
theorem dX12_runOf_17 : decode cX12_runOf 17 = .ok (.getfield 59, 3) := by decide +kernel
theorem dX12_runOf_20 : decode cX12_runOf 20 = .ok (.iload 4, 2) := by decide +kernel
theorem dX12_runOf_22 : decode cX12_runOf 22 = .ok (.iconst 0, 1) := by decide +kernel
theorem dX12_runOf_23 : decode cX12_runOf 23 = .ok (.iastore, 1) := by decide +kernel
theorem dX12_runOf_24 : decode cX12_runOf 24 = .ok (.aload_n 0, 1) := by decide +kernel
theorem dX12_runOf_25 : decode cX12_runOf 25 = .ok (.getfield 62, 3) := by decide +kernel
theorem dX12_runOf_28 : decode cX12_runOf 28 = .ok (.iload 4, 2) := by decide +kernel
theorem dX12_runOf_30 : decode cX12_runOf 30 = .ok (.iconst (-1), 1) := by decide +kernel
theorem dX12_runOf_31 : decode cX12_runOf 31 = .ok (.iastore, 1) := by decide +kernel
theorem dX12_runOf_32 : decode cX12_runOf 32 = .ok (.aload_n 0, 1) := by decide +kernel
theorem dX12_runOf_33 : decode cX12_runOf 33 = .ok (.getfield 71, 3) := by decide +kernel
theorem dX12_runOf_36 : decode cX12_runOf 36 = .ok (.iload 4, 2) := by decide +kernel
theorem dX12_runOf_38 : decode cX12_runOf 38 = .ok (.aload_n 0, 1) := by decide +kernel
theorem dX12_runOf_39 : decode cX12_runOf 39 = .ok (.iload_n 1, 1) := by decide +kernel
theorem dX12_runOf_40 : decode cX12_runOf 40 = .ok (.iload 4, 2) := by decide +kernel
theorem dX12_runOf_42 : decode cX12_runOf 42 = .ok (.invokevirtual 196, 3) := by decide +kernel
theorem dX12_runOf_45 : decode cX12_runOf 45 = .ok (.bastore, 1) := by decide +kernel
theorem dX12_runOf_46 : decode cX12_runOf 46 = .ok (.aload_n 0, 1) := by decide +kernel
theorem dX12_runOf_47 : decode cX12_runOf 47 = .ok (.getfield 74, 3) := by decide +kernel
theorem dX12_runOf_50 : decode cX12_runOf 50 = .ok (.iload 4, 2) := by decide +kernel
theorem dX12_runOf_52 : decode cX12_runOf 52 = .ok (.aload_n 0, 1) := by decide +kernel
theorem dX12_runOf_53 : decode cX12_runOf 53 = .ok (.iload_n 1, 1) := by decide +kernel
theorem dX12_runOf_54 : decode cX12_runOf 54 = .ok (.iload 4, 2) := by decide +kernel
theorem dX12_runOf_56 : decode cX12_runOf 56 = .ok (.invokevirtual 202, 3) := by decide +kernel
theorem dX12_runOf_59 : decode cX12_runOf 59 = .ok (.iastore, 1) := by decide +kernel
theorem dX12_runOf_60 : decode cX12_runOf 60 = .ok (.iinc 4 1, 3) := by decide +kernel
theorem dX12_runOf_63 : decode cX12_runOf 63 = .ok (.goto (-53), 3) := by decide +kernel
theorem dX12_runOf_66 : decode cX12_runOf 66 = .ok (.iconst 0, 1) := by decide +kernel
theorem dX12_runOf_67 : decode cX12_runOf 67 = .ok (.istore 4, 2) := by decide +kernel
theorem dX12_runOf_69 : decode cX12_runOf 69 = .ok (.iload 4, 2) := by decide +kernel
theorem dX12_runOf_71 : decode cX12_runOf 71 = .ok (.aload_n 0, 1) := by decide +kernel
theorem dX12_runOf_72 : decode cX12_runOf 72 = .ok (.getfield 37, 3) := by decide +kernel
theorem dX12_runOf_75 : decode cX12_runOf 75 = .ok (.iload_n 2, 1) := by decide +kernel
theorem dX12_runOf_76 : decode cX12_runOf 76 = .ok (.iaload, 1) := by decide +kernel
theorem dX12_runOf_77 : decode cX12_runOf 77 = .ok (.if_icmp .ge 229, 3) := by decide +kernel
theorem dX12_runOf_80 : decode cX12_runOf 80 = .ok (.aload_n 0, 1) := by decide +kernel
theorem dX12_runOf_81 : decode cX12_runOf 81 = .ok (.getfield 40, 3) := by decide +kernel
theorem dX12_runOf_84 : decode cX12_runOf 84 = .ok (.bipush 30, 2) := by decide +kernel
theorem dX12_runOf_86 : decode cX12_runOf 86 = .ok (.iload_n 2, 1) := by decide +kernel
theorem dX12_runOf_87 : decode cX12_runOf 87 = .ok (.imul, 1) := by decide +kernel
theorem dX12_runOf_88 : decode cX12_runOf 88 = .ok (.iload 4, 2) := by decide +kernel
theorem dX12_runOf_90 : decode cX12_runOf 90 = .ok (.iadd, 1) := by decide +kernel
theorem dX12_runOf_91 : decode cX12_runOf 91 = .ok (.iaload, 1) := by decide +kernel
theorem dX12_runOf_92 : decode cX12_runOf 92 = .ok (.istore 5, 2) := by decide +kernel
theorem dX12_runOf_94 : decode cX12_runOf 94 = .ok (.iload_n 3, 1) := by decide +kernel
theorem dX12_runOf_95 : decode cX12_runOf 95 = .ok (.iconst 1, 1) := by decide +kernel
theorem dX12_runOf_96 : decode cX12_runOf 96 = .ok (.isub, 1) := by decide +kernel
theorem dX12_runOf_97 : decode cX12_runOf 97 = .ok (.istore 6, 2) := by decide +kernel
theorem dX12_runOf_99 : decode cX12_runOf 99 = .ok (.iload 6, 2) := by decide +kernel
theorem dX12_runOf_101 : decode cX12_runOf 101 = .ok (.ifCond .lt 67, 3) := by decide +kernel
theorem dX12_runOf_104 : decode cX12_runOf 104 = .ok (.aload_n 0, 1) := by decide +kernel
theorem dX12_runOf_105 : decode cX12_runOf 105 = .ok (.getfield 65, 3) := by decide +kernel
theorem dX12_runOf_108 : decode cX12_runOf 108 = .ok (.iload 6, 2) := by decide +kernel
theorem dX12_runOf_110 : decode cX12_runOf 110 = .ok (.iload 5, 2) := by decide +kernel
theorem dX12_runOf_112 : decode cX12_runOf 112 = .ok (.iastore, 1) := by decide +kernel
theorem dX12_runOf_113 : decode cX12_runOf 113 = .ok (.iload 5, 2) := by decide +kernel
theorem dX12_runOf_115 : decode cX12_runOf 115 = .ok (.aload_n 0, 1) := by decide +kernel
theorem dX12_runOf_116 : decode cX12_runOf 116 = .ok (.getfield 62, 3) := by decide +kernel
theorem dX12_runOf_119 : decode cX12_runOf 119 = .ok (.iload 6, 2) := by decide +kernel
theorem dX12_runOf_121 : decode cX12_runOf 121 = .ok (.iaload, 1) := by decide +kernel
theorem dX12_runOf_122 : decode cX12_runOf 122 = .ok (.ifCond .lt 13, 3) := by decide +kernel
theorem dX12_runOf_125 : decode cX12_runOf 125 = .ok (.aload_n 0, 1) := by decide +kernel
theorem dX12_runOf_126 : decode cX12_runOf 126 = .ok (.getfield 43, 3) := by decide +kernel
theorem dX12_runOf_129 : decode cX12_runOf 129 = .ok (.bipush 22, 2) := by decide +kernel
theorem dX12_runOf_131 : decode cX12_runOf 131 = .ok (.iaload, 1) := by decide +kernel
theorem dX12_runOf_132 : decode cX12_runOf 132 = .ok (.goto 24, 3) := by decide +kernel
theorem dX12_runOf_135 : decode cX12_runOf 135 = .ok (.aload_n 0, 1) := by decide +kernel
theorem dX12_runOf_136 : decode cX12_runOf 136 = .ok (.getfield 43, 3) := by decide +kernel
theorem dX12_runOf_139 : decode cX12_runOf 139 = .ok (.iconst 5, 1) := by decide +kernel
theorem dX12_runOf_140 : decode cX12_runOf 140 = .ok (.aload_n 0, 1) := by decide +kernel
theorem dX12_runOf_141 : decode cX12_runOf 141 = .ok (.getfield 19, 3) := by decide +kernel
theorem dX12_runOf_144 : decode cX12_runOf 144 = .ok (.bipush 6, 2) := by decide +kernel
theorem dX12_runOf_146 : decode cX12_runOf 146 = .ok (.iload_n 1, 1) := by decide +kernel
theorem dX12_runOf_147 : decode cX12_runOf 147 = .ok (.imul, 1) := by decide +kernel
theorem dX12_runOf_148 : decode cX12_runOf 148 = .ok (.iload 6, 2) := by decide +kernel
theorem dX12_runOf_150 : decode cX12_runOf 150 = .ok (.iadd, 1) := by decide +kernel
theorem dX12_runOf_151 : decode cX12_runOf 151 = .ok (.iaload, 1) := by decide +kernel
theorem dX12_runOf_152 : decode cX12_runOf 152 = .ok (.imul, 1) := by decide +kernel
theorem dX12_runOf_153 : decode cX12_runOf 153 = .ok (.iconst 2, 1) := by decide +kernel
theorem dX12_runOf_154 : decode cX12_runOf 154 = .ok (.iadd, 1) := by decide +kernel
theorem dX12_runOf_155 : decode cX12_runOf 155 = .ok (.iaload, 1) := by decide +kernel
theorem dX12_runOf_156 : decode cX12_runOf 156 = .ok (.imul, 1) := by decide +kernel
theorem dX12_runOf_157 : decode cX12_runOf 157 = .ok (.bipush 100, 2) := by decide +kernel
theorem dX12_runOf_159 : decode cX12_runOf 159 = .ok (.idiv, 1) := by decide +kernel
theorem dX12_runOf_160 : decode cX12_runOf 160 = .ok (.istore 5, 2) := by decide +kernel
theorem dX12_runOf_162 : decode cX12_runOf 162 = .ok (.iinc 6 (-1), 3) := by decide +kernel
theorem dX12_runOf_165 : decode cX12_runOf 165 = .ok (.goto (-66), 3) := by decide +kernel
theorem dX12_runOf_168 : decode cX12_runOf 168 = .ok (.iconst 0, 1) := by decide +kernel
theorem dX12_runOf_169 : decode cX12_runOf 169 = .ok (.istore 6, 2) := by decide +kernel
theorem dX12_runOf_171 : decode cX12_runOf 171 = .ok (.iload 6, 2) := by decide +kernel
theorem dX12_runOf_173 : decode cX12_runOf 173 = .ok (.iload_n 3, 1) := by decide +kernel
theorem dX12_runOf_174 : decode cX12_runOf 174 = .ok (.if_icmp .ge 119, 3) := by decide +kernel
theorem dX12_runOf_177 : decode cX12_runOf 177 = .ok (.bipush 6, 2) := by decide +kernel
theorem dX12_runOf_179 : decode cX12_runOf 179 = .ok (.iload_n 1, 1) := by decide +kernel
theorem dX12_runOf_180 : decode cX12_runOf 180 = .ok (.imul, 1) := by decide +kernel
theorem dX12_runOf_181 : decode cX12_runOf 181 = .ok (.iload 6, 2) := by decide +kernel
theorem dX12_runOf_183 : decode cX12_runOf 183 = .ok (.iadd, 1) := by decide +kernel
theorem dX12_runOf_184 : decode cX12_runOf 184 = .ok (.istore 7, 2) := by decide +kernel
theorem dX12_runOf_186 : decode cX12_runOf 186 = .ok (.aload_n 0, 1) := by decide +kernel
theorem dX12_runOf_187 : decode cX12_runOf 187 = .ok (.getfield 71, 3) := by decide +kernel
theorem dX12_runOf_190 : decode cX12_runOf 190 = .ok (.iload 6, 2) := by decide +kernel
theorem dX12_runOf_192 : decode cX12_runOf 192 = .ok (.baload, 1) := by decide +kernel
theorem dX12_runOf_193 : decode cX12_runOf 193 = .ok (.ifCond .eq 94, 3) := by decide +kernel
theorem dX12_runOf_196 : decode cX12_runOf 196 = .ok (.aload_n 0, 1) := by decide +kernel
theorem dX12_runOf_197 : decode cX12_runOf 197 = .ok (.getfield 62, 3) := by decide +kernel
theorem dX12_runOf_200 : decode cX12_runOf 200 = .ok (.iload 6, 2) := by decide +kernel
theorem dX12_runOf_202 : decode cX12_runOf 202 = .ok (.iaload, 1) := by decide +kernel
theorem dX12_runOf_203 : decode cX12_runOf 203 = .ok (.ifCond .ge 84, 3) := by decide +kernel
theorem dX12_runOf_206 : decode cX12_runOf 206 = .ok (.aload_n 0, 1) := by decide +kernel
theorem dX12_runOf_207 : decode cX12_runOf 207 = .ok (.getfield 28, 3) := by decide +kernel
theorem dX12_runOf_210 : decode cX12_runOf 210 = .ok (.iconst 3, 1) := by decide +kernel
theorem dX12_runOf_211 : decode cX12_runOf 211 = .ok (.iload 7, 2) := by decide +kernel
theorem dX12_runOf_213 : decode cX12_runOf 213 = .ok (.imul, 1) := by decide +kernel
theorem dX12_runOf_214 : decode cX12_runOf 214 = .ok (.aload_n 0, 1) := by decide +kernel
theorem dX12_runOf_215 : decode cX12_runOf 215 = .ok (.getfield 56, 3) := by decide +kernel
theorem dX12_runOf_218 : decode cX12_runOf 218 = .ok (.iload 6, 2) := by decide +kernel
theorem dX12_runOf_220 : decode cX12_runOf 220 = .ok (.iaload, 1) := by decide +kernel
theorem dX12_runOf_221 : decode cX12_runOf 221 = .ok (.iadd, 1) := by decide +kernel
theorem dX12_runOf_222 : decode cX12_runOf 222 = .ok (.iaload, 1) := by decide +kernel
theorem dX12_runOf_223 : decode cX12_runOf 223 = .ok (.aload_n 0, 1) := by decide +kernel
theorem dX12_runOf_224 : decode cX12_runOf 224 = .ok (.getfield 236, 3) := by decide +kernel
theorem dX12_runOf_227 : decode cX12_runOf 227 = .ok (.isub, 1) := by decide +kernel
theorem dX12_runOf_228 : decode cX12_runOf 228 = .ok (.istore 8, 2) := by decide +kernel
theorem dX12_runOf_230 : decode cX12_runOf 230 = .ok (.iload 8, 2) := by decide +kernel
theorem dX12_runOf_232 : decode cX12_runOf 232 = .ok (.ifCond .ge 7, 3) := by decide +kernel
theorem dX12_runOf_235 : decode cX12_runOf 235 = .ok (.iconst 0, 1) := by decide +kernel
theorem dX12_runOf_236 : decode cX12_runOf 236 = .ok (.goto 5, 3) := by decide +kernel
theorem dX12_runOf_239 : decode cX12_runOf 239 = .ok (.iload 8, 2) := by decide +kernel
theorem dX12_runOf_241 : decode cX12_runOf 241 = .ok (.istore 8, 2) := by decide +kernel
theorem dX12_runOf_243 : decode cX12_runOf 243 = .ok (.aload_n 0, 1) := by decide +kernel
theorem dX12_runOf_244 : decode cX12_runOf 244 = .ok (.iload 6, 2) := by decide +kernel
theorem dX12_runOf_246 : decode cX12_runOf 246 = .ok (.aload_n 0, 1) := by decide +kernel
theorem dX12_runOf_247 : decode cX12_runOf 247 = .ok (.getfield 65, 3) := by decide +kernel
theorem dX12_runOf_250 : decode cX12_runOf 250 = .ok (.iload 6, 2) := by decide +kernel
theorem dX12_runOf_252 : decode cX12_runOf 252 = .ok (.iaload, 1) := by decide +kernel
theorem dX12_runOf_253 : decode cX12_runOf 253 = .ok (.iload 8, 2) := by decide +kernel
theorem dX12_runOf_255 : decode cX12_runOf 255 = .ok (.imul, 1) := by decide +kernel
theorem dX12_runOf_256 : decode cX12_runOf 256 = .ok (.aload_n 0, 1) := by decide +kernel
theorem dX12_runOf_257 : decode cX12_runOf 257 = .ok (.getfield 43, 3) := by decide +kernel
theorem dX12_runOf_260 : decode cX12_runOf 260 = .ok (.iconst 5, 1) := by decide +kernel
theorem dX12_runOf_261 : decode cX12_runOf 261 = .ok (.aload_n 0, 1) := by decide +kernel
theorem dX12_runOf_262 : decode cX12_runOf 262 = .ok (.getfield 19, 3) := by decide +kernel
theorem dX12_runOf_265 : decode cX12_runOf 265 = .ok (.iload 7, 2) := by decide +kernel
theorem dX12_runOf_267 : decode cX12_runOf 267 = .ok (.iaload, 1) := by decide +kernel
theorem dX12_runOf_268 : decode cX12_runOf 268 = .ok (.imul, 1) := by decide +kernel
theorem dX12_runOf_269 : decode cX12_runOf 269 = .ok (.iaload, 1) := by decide +kernel
theorem dX12_runOf_270 : decode cX12_runOf 270 = .ok (.imul, 1) := by decide +kernel
theorem dX12_runOf_271 : decode cX12_runOf 271 = .ok (.bipush 10, 2) := by decide +kernel
theorem dX12_runOf_273 : decode cX12_runOf 273 = .ok (.aload_n 0, 1) := by decide +kernel
theorem dX12_runOf_274 : decode cX12_runOf 274 = .ok (.getfield 74, 3) := by decide +kernel
theorem dX12_runOf_277 : decode cX12_runOf 277 = .ok (.iload 6, 2) := by decide +kernel
theorem dX12_runOf_279 : decode cX12_runOf 279 = .ok (.iaload, 1) := by decide +kernel
theorem dX12_runOf_280 : decode cX12_runOf 280 = .ok (.imul, 1) := by decide +kernel
theorem dX12_runOf_281 : decode cX12_runOf 281 = .ok (.idiv, 1) := by decide +kernel
theorem dX12_runOf_282 : decode cX12_runOf 282 = .ok (.iload 4, 2) := by decide +kernel
theorem dX12_runOf_284 : decode cX12_runOf 284 = .ok (.invokevirtual 232, 3) := by decide +kernel
theorem dX12_runOf_287 : decode cX12_runOf 287 = .ok (.iinc 6 1, 3) := by decide +kernel
theorem dX12_runOf_290 : decode cX12_runOf 290 = .ok (.goto (-119), 3) := by decide +kernel
theorem dX12_runOf_293 : decode cX12_runOf 293 = .ok (.aload_n 0, 1) := by decide +kernel
theorem dX12_runOf_294 : decode cX12_runOf 294 = .ok (.iload_n 1, 1) := by decide +kernel
theorem dX12_runOf_295 : decode cX12_runOf 295 = .ok (.iload 4, 2) := by decide +kernel
theorem dX12_runOf_297 : decode cX12_runOf 297 = .ok (.invokevirtual 239, 3) := by decide +kernel
theorem dX12_runOf_300 : decode cX12_runOf 300 = .ok (.iinc 4 1, 3) := by decide +kernel
theorem dX12_runOf_303 : decode cX12_runOf 303 = .ok (.goto (-234), 3) := by decide +kernel
theorem dX12_runOf_306 : decode cX12_runOf 306 = .ok (.iconst 0, 1) := by decide +kernel
theorem dX12_runOf_307 : decode cX12_runOf 307 = .ok (.istore 4, 2) := by decide +kernel
theorem dX12_runOf_309 : decode cX12_runOf 309 = .ok (.iload 4, 2) := by decide +kernel
theorem dX12_runOf_311 : decode cX12_runOf 311 = .ok (.aload_n 0, 1) := by decide +kernel
theorem dX12_runOf_312 : decode cX12_runOf 312 = .ok (.getfield 43, 3) := by decide +kernel
theorem dX12_runOf_315 : decode cX12_runOf 315 = .ok (.bipush 24, 2) := by decide +kernel
theorem dX12_runOf_317 : decode cX12_runOf 317 = .ok (.iaload, 1) := by decide +kernel
theorem dX12_runOf_318 : decode cX12_runOf 318 = .ok (.if_icmp .ge 23, 3) := by decide +kernel
theorem dX12_runOf_321 : decode cX12_runOf 321 = .ok (.aload_n 0, 1) := by decide +kernel
theorem dX12_runOf_322 : decode cX12_runOf 322 = .ok (.iload_n 1, 1) := by decide +kernel
theorem dX12_runOf_323 : decode cX12_runOf 323 = .ok (.aload_n 0, 1) := by decide +kernel
theorem dX12_runOf_324 : decode cX12_runOf 324 = .ok (.getfield 37, 3) := by decide +kernel
theorem dX12_runOf_327 : decode cX12_runOf 327 = .ok (.iload_n 2, 1) := by decide +kernel
theorem dX12_runOf_328 : decode cX12_runOf 328 = .ok (.iaload, 1) := by decide +kernel
theorem dX12_runOf_329 : decode cX12_runOf 329 = .ok (.iload 4, 2) := by decide +kernel
theorem dX12_runOf_331 : decode cX12_runOf 331 = .ok (.iadd, 1) := by decide +kernel
theorem dX12_runOf_332 : decode cX12_runOf 332 = .ok (.invokevirtual 239, 3) := by decide +kernel
theorem dX12_runOf_335 : decode cX12_runOf 335 = .ok (.iinc 4 1, 3) := by decide +kernel
theorem dX12_runOf_338 : decode cX12_runOf 338 = .ok (.goto (-29), 3) := by decide +kernel
theorem dX12_runOf_341 : decode cX12_runOf 341 = .ok (.return_, 1) := by decide +kernel
theorem dX12_plain_0 : decode cX12_plain 0 = .ok (.aload_n 0, 1) := by decide +kernel
theorem dX12_plain_1 : decode cX12_plain 1 = .ok (.iconst 0, 1) := by decide +kernel
theorem dX12_plain_2 : decode cX12_plain 2 = .ok (.putfield 229, 3) := by decide +kernel
theorem dX12_plain_5 : decode cX12_plain 5 = .ok (.aload_n 0, 1) := by decide +kernel
theorem dX12_plain_6 : decode cX12_plain 6 = .ok (.iconst 0, 1) := by decide +kernel
theorem dX12_plain_7 : decode cX12_plain 7 = .ok (.putfield 236, 3) := by decide +kernel
theorem dX12_plain_10 : decode cX12_plain 10 = .ok (.return_, 1) := by decide +kernel
theorem dX12_run_0 : decode cX12_run 0 = .ok (.aload_n 0, 1) := by decide +kernel
theorem dX12_run_1 : decode cX12_run 1 = .ok (.iload_n 1, 1) := by decide +kernel
theorem dX12_run_2 : decode cX12_run 2 = .ok (.iload_n 3, 1) := by decide +kernel
theorem dX12_run_3 : decode cX12_run 3 = .ok (.invokevirtual 186, 3) := by decide +kernel
theorem dX12_run_6 : decode cX12_run 6 = .ok (.ifCond .eq 11, 3) := by decide +kernel
theorem dX12_run_9 : decode cX12_run 9 = .ok (.aload_n 0, 1) := by decide +kernel
theorem dX12_run_10 : decode cX12_run 10 = .ok (.iload_n 2, 1) := by decide +kernel
theorem dX12_run_11 : decode cX12_run 11 = .ok (.invokevirtual 207, 3) := by decide +kernel
theorem dX12_run_14 : decode cX12_run 14 = .ok (.ifCond .ne 7, 3) := by decide +kernel
theorem dX12_run_17 : decode cX12_run 17 = .ok (.sipush (-1001), 3) := by decide +kernel
theorem dX12_run_20 : decode cX12_run 20 = .ok (.ireturn, 1) := by decide +kernel
theorem dX12_run_21 : decode cX12_run 21 = .ok (.iload 4, 2) := by decide +kernel
theorem dX12_run_23 : decode cX12_run 23 = .ok (.i2l, 1) := by decide +kernel
theorem dX12_run_24 : decode cX12_run 24 = .ok (.lconst 0, 1) := by decide +kernel
theorem dX12_run_25 : decode cX12_run 25 = .ok (.lconst 1, 1) := by decide +kernel
theorem dX12_run_26 : decode cX12_run 26 = .ok (.invokestatic 165, 3) := by decide +kernel
theorem dX12_run_29 : decode cX12_run 29 = .ok (.ifCond .ne 7, 3) := by decide +kernel
theorem dX12_run_32 : decode cX12_run 32 = .ok (.sipush (-1002), 3) := by decide +kernel
theorem dX12_run_35 : decode cX12_run 35 = .ok (.ireturn, 1) := by decide +kernel
theorem dX12_run_36 : decode cX12_run 36 = .ok (.aload_n 0, 1) := by decide +kernel
theorem dX12_run_37 : decode cX12_run 37 = .ok (.invokevirtual 243, 3) := by decide +kernel
theorem dX12_run_40 : decode cX12_run 40 = .ok (.aload_n 0, 1) := by decide +kernel
theorem dX12_run_41 : decode cX12_run 41 = .ok (.iload_n 1, 1) := by decide +kernel
theorem dX12_run_42 : decode cX12_run 42 = .ok (.iconst 0, 1) := by decide +kernel
theorem dX12_run_43 : decode cX12_run 43 = .ok (.invokevirtual 246, 3) := by decide +kernel
theorem dX12_run_46 : decode cX12_run 46 = .ok (.aload_n 0, 1) := by decide +kernel
theorem dX12_run_47 : decode cX12_run 47 = .ok (.iload_n 1, 1) := by decide +kernel
theorem dX12_run_48 : decode cX12_run 48 = .ok (.iload_n 2, 1) := by decide +kernel
theorem dX12_run_49 : decode cX12_run 49 = .ok (.invokevirtual 249, 3) := by decide +kernel
theorem dX12_run_52 : decode cX12_run 52 = .ok (.iload 4, 2) := by decide +kernel
theorem dX12_run_54 : decode cX12_run 54 = .ok (.ifCond .ne 12, 3) := by decide +kernel
theorem dX12_run_57 : decode cX12_run 57 = .ok (.aload_n 0, 1) := by decide +kernel
theorem dX12_run_58 : decode cX12_run 58 = .ok (.getfield 59, 3) := by decide +kernel
theorem dX12_run_61 : decode cX12_run 61 = .ok (.iload_n 3, 1) := by decide +kernel
theorem dX12_run_62 : decode cX12_run 62 = .ok (.iaload, 1) := by decide +kernel
theorem dX12_run_63 : decode cX12_run 63 = .ok (.goto 9, 3) := by decide +kernel
theorem dX12_run_66 : decode cX12_run 66 = .ok (.aload_n 0, 1) := by decide +kernel
theorem dX12_run_67 : decode cX12_run 67 = .ok (.getfield 62, 3) := by decide +kernel
theorem dX12_run_70 : decode cX12_run 70 = .ok (.iload_n 3, 1) := by decide +kernel
theorem dX12_run_71 : decode cX12_run 71 = .ok (.iaload, 1) := by decide +kernel
theorem dX12_run_72 : decode cX12_run 72 = .ok (.ireturn, 1) := by decide +kernel
theorem dX12_isWord_0 : decode cX12_isWord 0 = .ok (.iload_n 1, 1) := by decide +kernel
theorem dX12_isWord_1 : decode cX12_isWord 1 = .ok (.i2l, 1) := by decide +kernel
theorem dX12_isWord_2 : decode cX12_isWord 2 = .ok (.lconst 0, 1) := by decide +kernel
theorem dX12_isWord_3 : decode cX12_isWord 3 = .ok (.aload_n 0, 1) := by decide +kernel
theorem dX12_isWord_4 : decode cX12_isWord 4 = .ok (.getfield 210, 3) := by decide +kernel
theorem dX12_isWord_7 : decode cX12_isWord 7 = .ok (.iconst 1, 1) := by decide +kernel
theorem dX12_isWord_8 : decode cX12_isWord 8 = .ok (.isub, 1) := by decide +kernel
theorem dX12_isWord_9 : decode cX12_isWord 9 = .ok (.i2l, 1) := by decide +kernel
theorem dX12_isWord_10 : decode cX12_isWord 10 = .ok (.invokestatic 165, 3) := by decide +kernel
theorem dX12_isWord_13 : decode cX12_isWord 13 = .ok (.ireturn, 1) := by decide +kernel
theorem dX12_word_0 : decode cX12_word 0 = .ok (.iload_n 2, 1) := by decide +kernel
theorem dX12_word_1 : decode cX12_word 1 = .ok (.i2l, 1) := by decide +kernel
theorem dX12_word_2 : decode cX12_word 2 = .ok (.lconst 0, 1) := by decide +kernel
theorem dX12_word_3 : decode cX12_word 3 = .ok (.ldc2_w 252, 3) := by decide +kernel
theorem dX12_word_6 : decode cX12_word 6 = .ok (.invokestatic 165, 3) := by decide +kernel
theorem dX12_word_9 : decode cX12_word 9 = .ok (.ifCond .ne 7, 3) := by decide +kernel
theorem dX12_word_12 : decode cX12_word 12 = .ok (.sipush (-1002), 3) := by decide +kernel
theorem dX12_word_15 : decode cX12_word 15 = .ok (.ireturn, 1) := by decide +kernel
theorem dX12_word_16 : decode cX12_word 16 = .ok (.iload_n 1, 1) := by decide +kernel
theorem dX12_word_17 : decode cX12_word 17 = .ok (.invokestatic 169, 3) := by decide +kernel
theorem dX12_word_20 : decode cX12_word 20 = .ok (.ifCond .eq 28, 3) := by decide +kernel
theorem dX12_word_23 : decode cX12_word 23 = .ok (.iload_n 2, 1) := by decide +kernel
theorem dX12_word_24 : decode cX12_word 24 = .ok (.iconst 2, 1) := by decide +kernel
theorem dX12_word_25 : decode cX12_word 25 = .ok (.if_icmp .ge 14, 3) := by decide +kernel
theorem dX12_word_28 : decode cX12_word 28 = .ok (.aload_n 0, 1) := by decide +kernel
theorem dX12_word_29 : decode cX12_word 29 = .ok (.iload_n 3, 1) := by decide +kernel
theorem dX12_word_30 : decode cX12_word 30 = .ok (.invokevirtual 207, 3) := by decide +kernel
theorem dX12_word_33 : decode cX12_word 33 = .ok (.ifCond .ne 19, 3) := by decide +kernel
theorem dX12_word_36 : decode cX12_word 36 = .ok (.goto 12, 3) := by decide +kernel
theorem dX12_word_39 : decode cX12_word 39 = .ok (.aload_n 0, 1) := by decide +kernel
theorem dX12_word_40 : decode cX12_word 40 = .ok (.iload_n 1, 1) := by decide +kernel
theorem dX12_word_41 : decode cX12_word 41 = .ok (.iload_n 3, 1) := by decide +kernel
theorem dX12_word_42 : decode cX12_word 42 = .ok (.invokevirtual 186, 3) := by decide +kernel
theorem dX12_word_45 : decode cX12_word 45 = .ok (.ifCond .ne 7, 3) := by decide +kernel
theorem dX12_word_48 : decode cX12_word 48 = .ok (.sipush (-1001), 3) := by decide +kernel
theorem dX12_word_51 : decode cX12_word 51 = .ok (.ireturn, 1) := by decide +kernel
theorem dX12_word_52 : decode cX12_word 52 = .ok (.iload_n 2, 1) := by decide +kernel
theorem dX12_word_53 : decode cX12_word 53 = .ok (.iconst 2, 1) := by decide +kernel
theorem dX12_word_54 : decode cX12_word 54 = .ok (.if_icmp .ne 33, 3) := by decide +kernel
theorem dX12_word_57 : decode cX12_word 57 = .ok (.iload 5, 2) := by decide +kernel
theorem dX12_word_59 : decode cX12_word 59 = .ok (.i2l, 1) := by decide +kernel
theorem dX12_word_60 : decode cX12_word 60 = .ok (.lconst 0, 1) := by decide +kernel
theorem dX12_word_61 : decode cX12_word 61 = .ok (.ldc2_w 184, 3) := by decide +kernel
theorem dX12_word_64 : decode cX12_word 64 = .ok (.invokestatic 165, 3) := by decide +kernel
theorem dX12_word_67 : decode cX12_word 67 = .ok (.ifCond .eq 16, 3) := by decide +kernel
theorem dX12_word_70 : decode cX12_word 70 = .ok (.iload 4, 2) := by decide +kernel
theorem dX12_word_72 : decode cX12_word 72 = .ok (.i2l, 1) := by decide +kernel
theorem dX12_word_73 : decode cX12_word 73 = .ok (.lconst 0, 1) := by decide +kernel
theorem dX12_word_74 : decode cX12_word 74 = .ok (.iload 5, 2) := by decide +kernel
theorem dX12_word_76 : decode cX12_word 76 = .ok (.i2l, 1) := by decide +kernel
theorem dX12_word_77 : decode cX12_word 77 = .ok (.invokestatic 165, 3) := by decide +kernel
theorem dX12_word_80 : decode cX12_word 80 = .ok (.ifCond .ne 7, 3) := by decide +kernel
theorem dX12_word_83 : decode cX12_word 83 = .ok (.sipush (-1002), 3) := by decide +kernel
theorem dX12_word_86 : decode cX12_word 86 = .ok (.ireturn, 1) := by decide +kernel
theorem dX12_word_87 : decode cX12_word 87 = .ok (.aload_n 0, 1) := by decide +kernel
theorem dX12_word_88 : decode cX12_word 88 = .ok (.getfield 210, 3) := by decide +kernel
theorem dX12_word_91 : decode cX12_word 91 = .ok (.bipush 16, 2) := by decide +kernel
theorem dX12_word_93 : decode cX12_word 93 = .ok (.if_icmp .ne 7, 3) := by decide +kernel
theorem dX12_word_96 : decode cX12_word 96 = .ok (.sipush (-1004), 3) := by decide +kernel
theorem dX12_word_99 : decode cX12_word 99 = .ok (.ireturn, 1) := by decide +kernel
theorem dX12_word_100 : decode cX12_word 100 = .ok (.aload_n 0, 1) := by decide +kernel
theorem dX12_word_101 : decode cX12_word 101 = .ok (.getfield 77, 3) := by decide +kernel
theorem dX12_word_104 : decode cX12_word 104 = .ok (.aload_n 0, 1) := by decide +kernel
theorem dX12_word_105 : decode cX12_word 105 = .ok (.getfield 210, 3) := by decide +kernel
theorem dX12_word_108 : decode cX12_word 108 = .ok (.iload_n 1, 1) := by decide +kernel
theorem dX12_word_109 : decode cX12_word 109 = .ok (.iastore, 1) := by decide +kernel
theorem dX12_word_110 : decode cX12_word 110 = .ok (.aload_n 0, 1) := by decide +kernel
theorem dX12_word_111 : decode cX12_word 111 = .ok (.getfield 80, 3) := by decide +kernel
theorem dX12_word_114 : decode cX12_word 114 = .ok (.aload_n 0, 1) := by decide +kernel
theorem dX12_word_115 : decode cX12_word 115 = .ok (.getfield 210, 3) := by decide +kernel
theorem dX12_word_118 : decode cX12_word 118 = .ok (.iload_n 2, 1) := by decide +kernel
theorem dX12_word_119 : decode cX12_word 119 = .ok (.iastore, 1) := by decide +kernel
theorem dX12_word_120 : decode cX12_word 120 = .ok (.aload_n 0, 1) := by decide +kernel
theorem dX12_word_121 : decode cX12_word 121 = .ok (.getfield 83, 3) := by decide +kernel
theorem dX12_word_124 : decode cX12_word 124 = .ok (.aload_n 0, 1) := by decide +kernel
theorem dX12_word_125 : decode cX12_word 125 = .ok (.getfield 210, 3) := by decide +kernel
theorem dX12_word_128 : decode cX12_word 128 = .ok (.iload_n 3, 1) := by decide +kernel
theorem dX12_word_129 : decode cX12_word 129 = .ok (.iastore, 1) := by decide +kernel
theorem dX12_word_130 : decode cX12_word 130 = .ok (.aload_n 0, 1) := by decide +kernel
theorem dX12_word_131 : decode cX12_word 131 = .ok (.getfield 86, 3) := by decide +kernel
theorem dX12_word_134 : decode cX12_word 134 = .ok (.aload_n 0, 1) := by decide +kernel
theorem dX12_word_135 : decode cX12_word 135 = .ok (.getfield 210, 3) := by decide +kernel
theorem dX12_word_138 : decode cX12_word 138 = .ok (.iload 4, 2) := by decide +kernel
theorem dX12_word_140 : decode cX12_word 140 = .ok (.iastore, 1) := by decide +kernel
theorem dX12_word_141 : decode cX12_word 141 = .ok (.aload_n 0, 1) := by decide +kernel
theorem dX12_word_142 : decode cX12_word 142 = .ok (.getfield 89, 3) := by decide +kernel
theorem dX12_word_145 : decode cX12_word 145 = .ok (.aload_n 0, 1) := by decide +kernel
theorem dX12_word_146 : decode cX12_word 146 = .ok (.getfield 210, 3) := by decide +kernel
theorem dX12_word_149 : decode cX12_word 149 = .ok (.iload 5, 2) := by decide +kernel
theorem dX12_word_151 : decode cX12_word 151 = .ok (.iastore, 1) := by decide +kernel
theorem dX12_word_152 : decode cX12_word 152 = .ok (.aload_n 0, 1) := by decide +kernel
theorem dX12_word_153 : decode cX12_word 153 = .ok (.getfield 92, 3) := by decide +kernel
theorem dX12_word_156 : decode cX12_word 156 = .ok (.aload_n 0, 1) := by decide +kernel
theorem dX12_word_157 : decode cX12_word 157 = .ok (.getfield 210, 3) := by decide +kernel
theorem dX12_word_160 : decode cX12_word 160 = .ok (.iconst 0, 1) := by decide +kernel
theorem dX12_word_161 : decode cX12_word 161 = .ok (.bastore, 1) := by decide +kernel
theorem dX12_word_162 : decode cX12_word 162 = .ok (.aload_n 0, 1) := by decide +kernel
theorem dX12_word_163 : decode cX12_word 163 = .ok (.dup, 1) := by decide +kernel
theorem dX12_word_164 : decode cX12_word 164 = .ok (.getfield 210, 3) := by decide +kernel
theorem dX12_word_167 : decode cX12_word 167 = .ok (.iconst 1, 1) := by decide +kernel
theorem dX12_word_168 : decode cX12_word 168 = .ok (.iadd, 1) := by decide +kernel
theorem dX12_word_169 : decode cX12_word 169 = .ok (.putfield 210, 3) := by decide +kernel
theorem dX12_word_172 : decode cX12_word 172 = .ok (.aload_n 0, 1) := by decide +kernel
theorem dX12_word_173 : decode cX12_word 173 = .ok (.invokevirtual 160, 3) := by decide +kernel
theorem dX12_word_176 : decode cX12_word 176 = .ok (.aload_n 0, 1) := by decide +kernel
theorem dX12_word_177 : decode cX12_word 177 = .ok (.getfield 210, 3) := by decide +kernel
theorem dX12_word_180 : decode cX12_word 180 = .ok (.iconst 1, 1) := by decide +kernel
theorem dX12_word_181 : decode cX12_word 181 = .ok (.isub, 1) := by decide +kernel
theorem dX12_word_182 : decode cX12_word 182 = .ok (.ireturn, 1) := by decide +kernel
theorem dX12_strike_0 : decode cX12_strike 0 = .ok (.aload_n 0, 1) := by decide +kernel
theorem dX12_strike_1 : decode cX12_strike 1 = .ok (.iload_n 1, 1) := by decide +kernel
theorem dX12_strike_2 : decode cX12_strike 2 = .ok (.invokevirtual 254, 3) := by decide +kernel
theorem dX12_strike_5 : decode cX12_strike 5 = .ok (.ifCond .ne 7, 3) := by decide +kernel
theorem dX12_strike_8 : decode cX12_strike 8 = .ok (.sipush (-1001), 3) := by decide +kernel
theorem dX12_strike_11 : decode cX12_strike 11 = .ok (.ireturn, 1) := by decide +kernel
theorem dX12_strike_12 : decode cX12_strike 12 = .ok (.aload_n 0, 1) := by decide +kernel
theorem dX12_strike_13 : decode cX12_strike 13 = .ok (.getfield 92, 3) := by decide +kernel
theorem dX12_strike_16 : decode cX12_strike 16 = .ok (.iload_n 1, 1) := by decide +kernel
theorem dX12_strike_17 : decode cX12_strike 17 = .ok (.baload, 1) := by decide +kernel
theorem dX12_strike_18 : decode cX12_strike 18 = .ok (.ifCond .eq 7, 3) := by decide +kernel
theorem dX12_strike_21 : decode cX12_strike 21 = .ok (.iconst 1, 1) := by decide +kernel
theorem dX12_strike_22 : decode cX12_strike 22 = .ok (.goto 4, 3) := by decide +kernel
theorem dX12_strike_25 : decode cX12_strike 25 = .ok (.iconst 0, 1) := by decide +kernel
theorem dX12_strike_26 : decode cX12_strike 26 = .ok (.istore_n 3, 1) := by decide +kernel
theorem dX12_strike_27 : decode cX12_strike 27 = .ok (.aload_n 0, 1) := by decide +kernel
theorem dX12_strike_28 : decode cX12_strike 28 = .ok (.getfield 92, 3) := by decide +kernel
theorem dX12_strike_31 : decode cX12_strike 31 = .ok (.iload_n 1, 1) := by decide +kernel
theorem dX12_strike_32 : decode cX12_strike 32 = .ok (.iload_n 2, 1) := by decide +kernel
theorem dX12_strike_33 : decode cX12_strike 33 = .ok (.bastore, 1) := by decide +kernel
theorem dX12_strike_34 : decode cX12_strike 34 = .ok (.aload_n 0, 1) := by decide +kernel
theorem dX12_strike_35 : decode cX12_strike 35 = .ok (.invokevirtual 160, 3) := by decide +kernel
theorem dX12_strike_38 : decode cX12_strike 38 = .ok (.iload_n 3, 1) := by decide +kernel
theorem dX12_strike_39 : decode cX12_strike 39 = .ok (.ireturn, 1) := by decide +kernel
theorem dX12_letsGo_0 : decode cX12_letsGo 0 = .ok (.iconst 0, 1) := by decide +kernel
theorem dX12_letsGo_1 : decode cX12_letsGo 1 = .ok (.istore_n 2, 1) := by decide +kernel
theorem dX12_letsGo_2 : decode cX12_letsGo 2 = .ok (.iconst 0, 1) := by decide +kernel
theorem dX12_letsGo_3 : decode cX12_letsGo 3 = .ok (.istore_n 3, 1) := by decide +kernel
theorem dX12_letsGo_4 : decode cX12_letsGo 4 = .ok (.iload_n 3, 1) := by decide +kernel
theorem dX12_letsGo_5 : decode cX12_letsGo 5 = .ok (.aload_n 0, 1) := by decide +kernel
theorem dX12_letsGo_6 : decode cX12_letsGo 6 = .ok (.getfield 16, 3) := by decide +kernel
theorem dX12_letsGo_9 : decode cX12_letsGo 9 = .ok (.iload_n 1, 1) := by decide +kernel
theorem dX12_letsGo_10 : decode cX12_letsGo 10 = .ok (.iaload, 1) := by decide +kernel
theorem dX12_letsGo_11 : decode cX12_letsGo 11 = .ok (.if_icmp .ge 28, 3) := by decide +kernel
theorem dX12_letsGo_14 : decode cX12_letsGo 14 = .ok (.iload_n 2, 1) := by decide +kernel
theorem dX12_letsGo_15 : decode cX12_letsGo 15 = .ok (.ifCond .ne 12, 3) := by decide +kernel
theorem dX12_letsGo_18 : decode cX12_letsGo 18 = .ok (.aload_n 0, 1) := by decide +kernel
theorem dX12_letsGo_19 : decode cX12_letsGo 19 = .ok (.getfield 62, 3) := by decide +kernel
theorem dX12_letsGo_22 : decode cX12_letsGo 22 = .ok (.iload_n 3, 1) := by decide +kernel
theorem dX12_letsGo_23 : decode cX12_letsGo 23 = .ok (.iaload, 1) := by decide +kernel
theorem dX12_letsGo_24 : decode cX12_letsGo 24 = .ok (.ifCond .lt 7, 3) := by decide +kernel
theorem dX12_letsGo_27 : decode cX12_letsGo 27 = .ok (.iconst 1, 1) := by decide +kernel
theorem dX12_letsGo_28 : decode cX12_letsGo 28 = .ok (.goto 4, 3) := by decide +kernel
theorem dX12_letsGo_31 : decode cX12_letsGo 31 = .ok (.iconst 0, 1) := by decide +kernel
theorem dX12_letsGo_32 : decode cX12_letsGo 32 = .ok (.istore_n 2, 1) := by decide +kernel
theorem dX12_letsGo_33 : decode cX12_letsGo 33 = .ok (.iinc 3 1, 3) := by decide +kernel
theorem dX12_letsGo_36 : decode cX12_letsGo 36 = .ok (.goto (-32), 3) := by decide +kernel
theorem dX12_letsGo_39 : decode cX12_letsGo 39 = .ok (.iload_n 2, 1) := by decide +kernel
theorem dX12_letsGo_40 : decode cX12_letsGo 40 = .ok (.ireturn, 1) := by decide +kernel
theorem dX12_forget_0 : decode cX12_forget 0 = .ok (.iconst 0, 1) := by decide +kernel
theorem dX12_forget_1 : decode cX12_forget 1 = .ok (.istore_n 1, 1) := by decide +kernel
theorem dX12_forget_2 : decode cX12_forget 2 = .ok (.iload_n 1, 1) := by decide +kernel
theorem dX12_forget_3 : decode cX12_forget 3 = .ok (.bipush 6, 2) := by decide +kernel
theorem dX12_forget_5 : decode cX12_forget 5 = .ok (.if_icmp .ge 16, 3) := by decide +kernel
theorem dX12_forget_8 : decode cX12_forget 8 = .ok (.aload_n 0, 1) := by decide +kernel
theorem dX12_forget_9 : decode cX12_forget 9 = .ok (.getfield 95, 3) := by decide +kernel
theorem dX12_forget_12 : decode cX12_forget 12 = .ok (.iload_n 1, 1) := by decide +kernel
theorem dX12_forget_13 : decode cX12_forget 13 = .ok (.iconst (-1), 1) := by decide +kernel
theorem dX12_forget_14 : decode cX12_forget 14 = .ok (.iastore, 1) := by decide +kernel
theorem dX12_forget_15 : decode cX12_forget 15 = .ok (.iinc 1 1, 3) := by decide +kernel
theorem dX12_forget_18 : decode cX12_forget 18 = .ok (.goto (-16), 3) := by decide +kernel
theorem dX12_forget_21 : decode cX12_forget 21 = .ok (.return_, 1) := by decide +kernel
theorem dX12_barsChoice_0 : decode cX12_barsChoice 0 = .ok (.aload_n 0, 1) := by decide +kernel
theorem dX12_barsChoice_1 : decode cX12_barsChoice 1 = .ok (.getfield 77, 3) := by decide +kernel
theorem dX12_barsChoice_4 : decode cX12_barsChoice 4 = .ok (.iload_n 1, 1) := by decide +kernel
theorem dX12_barsChoice_5 : decode cX12_barsChoice 5 = .ok (.iaload, 1) := by decide +kernel
theorem dX12_barsChoice_6 : decode cX12_barsChoice 6 = .ok (.istore_n 2, 1) := by decide +kernel
theorem dX12_barsChoice_7 : decode cX12_barsChoice 7 = .ok (.aload_n 0, 1) := by decide +kernel
theorem dX12_barsChoice_8 : decode cX12_barsChoice 8 = .ok (.getfield 80, 3) := by decide +kernel
theorem dX12_barsChoice_11 : decode cX12_barsChoice 11 = .ok (.iload_n 1, 1) := by decide +kernel
theorem dX12_barsChoice_12 : decode cX12_barsChoice 12 = .ok (.iaload, 1) := by decide +kernel
theorem dX12_barsChoice_13 : decode cX12_barsChoice 13 = .ok (.iconst 2, 1) := by decide +kernel
theorem dX12_barsChoice_14 : decode cX12_barsChoice 14 = .ok (.if_icmp .ne 62, 3) := by decide +kernel
theorem dX12_barsChoice_17 : decode cX12_barsChoice 17 = .ok (.aload_n 0, 1) := by decide +kernel
theorem dX12_barsChoice_18 : decode cX12_barsChoice 18 = .ok (.getfield 28, 3) := by decide +kernel
theorem dX12_barsChoice_21 : decode cX12_barsChoice 21 = .ok (.iconst 3, 1) := by decide +kernel
theorem dX12_barsChoice_22 : decode cX12_barsChoice 22 = .ok (.bipush 6, 2) := by decide +kernel
theorem dX12_barsChoice_24 : decode cX12_barsChoice 24 = .ok (.iload_n 2, 1) := by decide +kernel
theorem dX12_barsChoice_25 : decode cX12_barsChoice 25 = .ok (.imul, 1) := by decide +kernel
theorem dX12_barsChoice_26 : decode cX12_barsChoice 26 = .ok (.aload_n 0, 1) := by decide +kernel
theorem dX12_barsChoice_27 : decode cX12_barsChoice 27 = .ok (.getfield 83, 3) := by decide +kernel
theorem dX12_barsChoice_30 : decode cX12_barsChoice 30 = .ok (.iload_n 1, 1) := by decide +kernel
theorem dX12_barsChoice_31 : decode cX12_barsChoice 31 = .ok (.iaload, 1) := by decide +kernel
theorem dX12_barsChoice_32 : decode cX12_barsChoice 32 = .ok (.iadd, 1) := by decide +kernel
theorem dX12_barsChoice_33 : decode cX12_barsChoice 33 = .ok (.imul, 1) := by decide +kernel
theorem dX12_barsChoice_34 : decode cX12_barsChoice 34 = .ok (.aload_n 0, 1) := by decide +kernel
theorem dX12_barsChoice_35 : decode cX12_barsChoice 35 = .ok (.getfield 56, 3) := by decide +kernel
theorem dX12_barsChoice_38 : decode cX12_barsChoice 38 = .ok (.aload_n 0, 1) := by decide +kernel
theorem dX12_barsChoice_39 : decode cX12_barsChoice 39 = .ok (.getfield 83, 3) := by decide +kernel
theorem dX12_barsChoice_42 : decode cX12_barsChoice 42 = .ok (.iload_n 1, 1) := by decide +kernel
theorem dX12_barsChoice_43 : decode cX12_barsChoice 43 = .ok (.iaload, 1) := by decide +kernel
theorem dX12_barsChoice_44 : decode cX12_barsChoice 44 = .ok (.iaload, 1) := by decide +kernel
theorem dX12_barsChoice_45 : decode cX12_barsChoice 45 = .ok (.iadd, 1) := by decide +kernel
theorem dX12_barsChoice_46 : decode cX12_barsChoice 46 = .ok (.iaload, 1) := by decide +kernel
theorem dX12_barsChoice_47 : decode cX12_barsChoice 47 = .ok (.istore_n 3, 1) := by decide +kernel
theorem dX12_barsChoice_48 : decode cX12_barsChoice 48 = .ok (.iload_n 3, 1) := by decide +kernel
theorem dX12_barsChoice_49 : decode cX12_barsChoice 49 = .ok (.i2l, 1) := by decide +kernel
theorem dX12_barsChoice_50 : decode cX12_barsChoice 50 = .ok (.aload_n 0, 1) := by decide +kernel
theorem dX12_barsChoice_51 : decode cX12_barsChoice 51 = .ok (.getfield 86, 3) := by decide +kernel
theorem dX12_barsChoice_54 : decode cX12_barsChoice 54 = .ok (.iload_n 1, 1) := by decide +kernel
theorem dX12_barsChoice_55 : decode cX12_barsChoice 55 = .ok (.iaload, 1) := by decide +kernel
theorem dX12_barsChoice_56 : decode cX12_barsChoice 56 = .ok (.i2l, 1) := by decide +kernel
theorem dX12_barsChoice_57 : decode cX12_barsChoice 57 = .ok (.aload_n 0, 1) := by decide +kernel
theorem dX12_barsChoice_58 : decode cX12_barsChoice 58 = .ok (.getfield 89, 3) := by decide +kernel
theorem dX12_barsChoice_61 : decode cX12_barsChoice 61 = .ok (.iload_n 1, 1) := by decide +kernel
theorem dX12_barsChoice_62 : decode cX12_barsChoice 62 = .ok (.iaload, 1) := by decide +kernel
theorem dX12_barsChoice_63 : decode cX12_barsChoice 63 = .ok (.i2l, 1) := by decide +kernel
theorem dX12_barsChoice_64 : decode cX12_barsChoice 64 = .ok (.invokestatic 165, 3) := by decide +kernel
theorem dX12_barsChoice_67 : decode cX12_barsChoice 67 = .ok (.ifCond .ne 7, 3) := by decide +kernel
theorem dX12_barsChoice_70 : decode cX12_barsChoice 70 = .ok (.iconst 1, 1) := by decide +kernel
theorem dX12_barsChoice_71 : decode cX12_barsChoice 71 = .ok (.goto 4, 3) := by decide +kernel
theorem dX12_barsChoice_74 : decode cX12_barsChoice 74 = .ok (.iconst 0, 1) := by decide +kernel
theorem dX12_barsChoice_75 : decode cX12_barsChoice 75 = .ok (.ireturn, 1) := by decide +kernel
theorem dX12_barsChoice_76 : decode cX12_barsChoice 76 = .ok (.aload_n 0, 1) := by decide +kernel
theorem dX12_barsChoice_77 : decode cX12_barsChoice 77 = .ok (.getfield 83, 3) := by decide +kernel
theorem dX12_barsChoice_80 : decode cX12_barsChoice 80 = .ok (.iload_n 1, 1) := by decide +kernel
theorem dX12_barsChoice_81 : decode cX12_barsChoice 81 = .ok (.iaload, 1) := by decide +kernel
theorem dX12_barsChoice_82 : decode cX12_barsChoice 82 = .ok (.istore_n 3, 1) := by decide +kernel
theorem dX12_barsChoice_83 : decode cX12_barsChoice 83 = .ok (.aload_n 0, 1) := by decide +kernel
theorem dX12_barsChoice_84 : decode cX12_barsChoice 84 = .ok (.getfield 95, 3) := by decide +kernel
theorem dX12_barsChoice_87 : decode cX12_barsChoice 87 = .ok (.iload_n 3, 1) := by decide +kernel
theorem dX12_barsChoice_88 : decode cX12_barsChoice 88 = .ok (.iaload, 1) := by decide +kernel
theorem dX12_barsChoice_89 : decode cX12_barsChoice 89 = .ok (.ifCond .ge 28, 3) := by decide +kernel
theorem dX12_barsChoice_92 : decode cX12_barsChoice 92 = .ok (.aload_n 0, 1) := by decide +kernel
theorem dX12_barsChoice_93 : decode cX12_barsChoice 93 = .ok (.iload_n 2, 1) := by decide +kernel
theorem dX12_barsChoice_94 : decode cX12_barsChoice 94 = .ok (.iload_n 3, 1) := by decide +kernel
theorem dX12_barsChoice_95 : decode cX12_barsChoice 95 = .ok (.invokevirtual 249, 3) := by decide +kernel
theorem dX12_barsChoice_98 : decode cX12_barsChoice 98 = .ok (.aload_n 0, 1) := by decide +kernel
theorem dX12_barsChoice_99 : decode cX12_barsChoice 99 = .ok (.getfield 95, 3) := by decide +kernel
theorem dX12_barsChoice_102 : decode cX12_barsChoice 102 = .ok (.iload_n 3, 1) := by decide +kernel
theorem dX12_barsChoice_103 : decode cX12_barsChoice 103 = .ok (.aload_n 0, 1) := by decide +kernel
theorem dX12_barsChoice_104 : decode cX12_barsChoice 104 = .ok (.iload_n 2, 1) := by decide +kernel
theorem dX12_barsChoice_105 : decode cX12_barsChoice 105 = .ok (.invokevirtual 257, 3) := by decide +kernel
theorem dX12_barsChoice_108 : decode cX12_barsChoice 108 = .ok (.ifCond .eq 7, 3) := by decide +kernel
theorem dX12_barsChoice_111 : decode cX12_barsChoice 111 = .ok (.iconst 1, 1) := by decide +kernel
theorem dX12_barsChoice_112 : decode cX12_barsChoice 112 = .ok (.goto 4, 3) := by decide +kernel
theorem dX12_barsChoice_115 : decode cX12_barsChoice 115 = .ok (.iconst 0, 1) := by decide +kernel
theorem dX12_barsChoice_116 : decode cX12_barsChoice 116 = .ok (.iastore, 1) := by decide +kernel
theorem dX12_barsChoice_117 : decode cX12_barsChoice 117 = .ok (.aload_n 0, 1) := by decide +kernel
theorem dX12_barsChoice_118 : decode cX12_barsChoice 118 = .ok (.getfield 95, 3) := by decide +kernel
theorem dX12_barsChoice_121 : decode cX12_barsChoice 121 = .ok (.iload_n 3, 1) := by decide +kernel
theorem dX12_barsChoice_122 : decode cX12_barsChoice 122 = .ok (.iaload, 1) := by decide +kernel
theorem dX12_barsChoice_123 : decode cX12_barsChoice 123 = .ok (.aload_n 0, 1) := by decide +kernel
theorem dX12_barsChoice_124 : decode cX12_barsChoice 124 = .ok (.getfield 80, 3) := by decide +kernel
theorem dX12_barsChoice_127 : decode cX12_barsChoice 127 = .ok (.iload_n 1, 1) := by decide +kernel
theorem dX12_barsChoice_128 : decode cX12_barsChoice 128 = .ok (.iaload, 1) := by decide +kernel
theorem dX12_barsChoice_129 : decode cX12_barsChoice 129 = .ok (.if_icmp .eq 7, 3) := by decide +kernel
theorem dX12_barsChoice_132 : decode cX12_barsChoice 132 = .ok (.iconst 1, 1) := by decide +kernel
theorem dX12_barsChoice_133 : decode cX12_barsChoice 133 = .ok (.goto 4, 3) := by decide +kernel
theorem dX12_barsChoice_136 : decode cX12_barsChoice 136 = .ok (.iconst 0, 1) := by decide +kernel
theorem dX12_barsChoice_137 : decode cX12_barsChoice 137 = .ok (.ireturn, 1) := by decide +kernel
theorem dX12_barring_0 : decode cX12_barring 0 = .ok (.iconst 0, 1) := by decide +kernel
theorem dX12_barring_1 : decode cX12_barring 1 = .ok (.istore_n 2, 1) := by decide +kernel
theorem dX12_barring_2 : decode cX12_barring 2 = .ok (.aload_n 0, 1) := by decide +kernel
theorem dX12_barring_3 : decode cX12_barring 3 = .ok (.invokevirtual 260, 3) := by decide +kernel
theorem dX12_barring_6 : decode cX12_barring 6 = .ok (.iconst 0, 1) := by decide +kernel
theorem dX12_barring_7 : decode cX12_barring 7 = .ok (.istore_n 3, 1) := by decide +kernel
theorem dX12_barring_8 : decode cX12_barring 8 = .ok (.iload_n 3, 1) := by decide +kernel
theorem dX12_barring_9 : decode cX12_barring 9 = .ok (.aload_n 0, 1) := by decide +kernel
theorem dX12_barring_10 : decode cX12_barring 10 = .ok (.getfield 210, 3) := by decide +kernel
theorem dX12_barring_13 : decode cX12_barring 13 = .ok (.if_icmp .ge 46, 3) := by decide +kernel
theorem dX12_barring_16 : decode cX12_barring 16 = .ok (.iload_n 2, 1) := by decide +kernel
theorem dX12_barring_17 : decode cX12_barring 17 = .ok (.aload_n 0, 1) := by decide +kernel
theorem dX12_barring_18 : decode cX12_barring 18 = .ok (.getfield 77, 3) := by decide +kernel
theorem dX12_barring_21 : decode cX12_barring 21 = .ok (.iload_n 3, 1) := by decide +kernel
theorem dX12_barring_22 : decode cX12_barring 22 = .ok (.iaload, 1) := by decide +kernel
theorem dX12_barring_23 : decode cX12_barring 23 = .ok (.iload_n 1, 1) := by decide +kernel
theorem dX12_barring_24 : decode cX12_barring 24 = .ok (.if_icmp .ne 26, 3) := by decide +kernel
theorem dX12_barring_27 : decode cX12_barring 27 = .ok (.aload_n 0, 1) := by decide +kernel
theorem dX12_barring_28 : decode cX12_barring 28 = .ok (.getfield 92, 3) := by decide +kernel
theorem dX12_barring_31 : decode cX12_barring 31 = .ok (.iload_n 3, 1) := by decide +kernel
theorem dX12_barring_32 : decode cX12_barring 32 = .ok (.baload, 1) := by decide +kernel
theorem dX12_barring_33 : decode cX12_barring 33 = .ok (.ifCond .ne 17, 3) := by decide +kernel
theorem dX12_barring_36 : decode cX12_barring 36 = .ok (.aload_n 0, 1) := by decide +kernel
theorem dX12_barring_37 : decode cX12_barring 37 = .ok (.iload_n 3, 1) := by decide +kernel
theorem dX12_barring_38 : decode cX12_barring 38 = .ok (.invokevirtual 263, 3) := by decide +kernel
theorem dX12_barring_41 : decode cX12_barring 41 = .ok (.ifCond .eq 9, 3) := by decide +kernel
theorem dX12_barring_44 : decode cX12_barring 44 = .ok (.iconst 1, 1) := by decide +kernel
theorem dX12_barring_45 : decode cX12_barring 45 = .ok (.iload_n 3, 1) := by decide +kernel
theorem dX12_barring_46 : decode cX12_barring 46 = .ok (.ishl, 1) := by decide +kernel
theorem dX12_barring_47 : decode cX12_barring 47 = .ok (.goto 4, 3) := by decide +kernel
theorem dX12_barring_50 : decode cX12_barring 50 = .ok (.iconst 0, 1) := by decide +kernel
theorem dX12_barring_51 : decode cX12_barring 51 = .ok (.ior, 1) := by decide +kernel
theorem dX12_barring_52 : decode cX12_barring 52 = .ok (.istore_n 2, 1) := by decide +kernel
theorem dX12_barring_53 : decode cX12_barring 53 = .ok (.iinc 3 1, 3) := by decide +kernel
theorem dX12_barring_56 : decode cX12_barring 56 = .ok (.goto (-48), 3) := by decide +kernel
theorem dX12_barring_59 : decode cX12_barring 59 = .ok (.iload_n 2, 1) := by decide +kernel
theorem dX12_barring_60 : decode cX12_barring 60 = .ok (.ireturn, 1) := by decide +kernel
theorem dX12_bars_0 : decode cX12_bars 0 = .ok (.aload_n 0, 1) := by decide +kernel
theorem dX12_bars_1 : decode cX12_bars 1 = .ok (.iload_n 1, 1) := by decide +kernel
theorem dX12_bars_2 : decode cX12_bars 2 = .ok (.invokevirtual 254, 3) := by decide +kernel
theorem dX12_bars_5 : decode cX12_bars 5 = .ok (.ifCond .ne 7, 3) := by decide +kernel
theorem dX12_bars_8 : decode cX12_bars 8 = .ok (.sipush (-1001), 3) := by decide +kernel
theorem dX12_bars_11 : decode cX12_bars 11 = .ok (.ireturn, 1) := by decide +kernel
theorem dX12_bars_12 : decode cX12_bars 12 = .ok (.aload_n 0, 1) := by decide +kernel
theorem dX12_bars_13 : decode cX12_bars 13 = .ok (.invokevirtual 243, 3) := by decide +kernel
theorem dX12_bars_16 : decode cX12_bars 16 = .ok (.aload_n 0, 1) := by decide +kernel
theorem dX12_bars_17 : decode cX12_bars 17 = .ok (.getfield 77, 3) := by decide +kernel
theorem dX12_bars_20 : decode cX12_bars 20 = .ok (.iload_n 1, 1) := by decide +kernel
theorem dX12_bars_21 : decode cX12_bars 21 = .ok (.iaload, 1) := by decide +kernel
theorem dX12_bars_22 : decode cX12_bars 22 = .ok (.istore_n 2, 1) := by decide +kernel
theorem dX12_bars_23 : decode cX12_bars 23 = .ok (.iconst 0, 1) := by decide +kernel
theorem dX12_bars_24 : decode cX12_bars 24 = .ok (.istore_n 3, 1) := by decide +kernel
theorem dX12_bars_25 : decode cX12_bars 25 = .ok (.iconst 0, 1) := by decide +kernel
theorem dX12_bars_26 : decode cX12_bars 26 = .ok (.istore 4, 2) := by decide +kernel
theorem dX12_bars_28 : decode cX12_bars 28 = .ok (.iload 4, 2) := by decide +kernel
theorem dX12_bars_30 : decode cX12_bars 30 = .ok (.aload_n 0, 1) := by decide +kernel
theorem dX12_bars_31 : decode cX12_bars 31 = .ok (.iload_n 2, 1) := by decide +kernel
theorem dX12_bars_32 : decode cX12_bars 32 = .ok (.invokevirtual 266, 3) := by decide +kernel
theorem dX12_bars_35 : decode cX12_bars 35 = .ok (.if_icmp .ge 36, 3) := by decide +kernel
theorem dX12_bars_38 : decode cX12_bars 38 = .ok (.aload_n 0, 1) := by decide +kernel
theorem dX12_bars_39 : decode cX12_bars 39 = .ok (.iload_n 2, 1) := by decide +kernel
theorem dX12_bars_40 : decode cX12_bars 40 = .ok (.iload 4, 2) := by decide +kernel
theorem dX12_bars_42 : decode cX12_bars 42 = .ok (.invokevirtual 246, 3) := by decide +kernel
theorem dX12_bars_45 : decode cX12_bars 45 = .ok (.aload_n 0, 1) := by decide +kernel
theorem dX12_bars_46 : decode cX12_bars 46 = .ok (.invokevirtual 260, 3) := by decide +kernel
theorem dX12_bars_49 : decode cX12_bars 49 = .ok (.iload_n 3, 1) := by decide +kernel
theorem dX12_bars_50 : decode cX12_bars 50 = .ok (.aload_n 0, 1) := by decide +kernel
theorem dX12_bars_51 : decode cX12_bars 51 = .ok (.iload_n 1, 1) := by decide +kernel
theorem dX12_bars_52 : decode cX12_bars 52 = .ok (.invokevirtual 263, 3) := by decide +kernel
theorem dX12_bars_55 : decode cX12_bars 55 = .ok (.ifCond .eq 7, 3) := by decide +kernel
theorem dX12_bars_58 : decode cX12_bars 58 = .ok (.iconst 1, 1) := by decide +kernel
theorem dX12_bars_59 : decode cX12_bars 59 = .ok (.goto 4, 3) := by decide +kernel
theorem dX12_bars_62 : decode cX12_bars 62 = .ok (.iconst 0, 1) := by decide +kernel
theorem dX12_bars_63 : decode cX12_bars 63 = .ok (.iadd, 1) := by decide +kernel
theorem dX12_bars_64 : decode cX12_bars 64 = .ok (.istore_n 3, 1) := by decide +kernel
theorem dX12_bars_65 : decode cX12_bars 65 = .ok (.iinc 4 1, 3) := by decide +kernel
theorem dX12_bars_68 : decode cX12_bars 68 = .ok (.goto (-40), 3) := by decide +kernel
theorem dX12_bars_71 : decode cX12_bars 71 = .ok (.iload_n 3, 1) := by decide +kernel
theorem dX12_bars_72 : decode cX12_bars 72 = .ok (.ireturn, 1) := by decide +kernel
theorem dX12_bits_0 : decode cX12_bits 0 = .ok (.iconst 0, 1) := by decide +kernel
theorem dX12_bits_1 : decode cX12_bits 1 = .ok (.istore_n 1, 1) := by decide +kernel
theorem dX12_bits_2 : decode cX12_bits 2 = .ok (.iconst 0, 1) := by decide +kernel
theorem dX12_bits_3 : decode cX12_bits 3 = .ok (.istore_n 2, 1) := by decide +kernel
theorem dX12_bits_4 : decode cX12_bits 4 = .ok (.iload_n 2, 1) := by decide +kernel
theorem dX12_bits_5 : decode cX12_bits 5 = .ok (.bipush 16, 2) := by decide +kernel
theorem dX12_bits_7 : decode cX12_bits 7 = .ok (.if_icmp .ge 17, 3) := by decide +kernel
theorem dX12_bits_10 : decode cX12_bits 10 = .ok (.iload_n 1, 1) := by decide +kernel
theorem dX12_bits_11 : decode cX12_bits 11 = .ok (.iload_n 0, 1) := by decide +kernel
theorem dX12_bits_12 : decode cX12_bits 12 = .ok (.iload_n 2, 1) := by decide +kernel
theorem dX12_bits_13 : decode cX12_bits 13 = .ok (.ishr, 1) := by decide +kernel
theorem dX12_bits_14 : decode cX12_bits 14 = .ok (.iconst 1, 1) := by decide +kernel
theorem dX12_bits_15 : decode cX12_bits 15 = .ok (.iand, 1) := by decide +kernel
theorem dX12_bits_16 : decode cX12_bits 16 = .ok (.iadd, 1) := by decide +kernel
theorem dX12_bits_17 : decode cX12_bits 17 = .ok (.istore_n 1, 1) := by decide +kernel
theorem dX12_bits_18 : decode cX12_bits 18 = .ok (.iinc 2 1, 3) := by decide +kernel
theorem dX12_bits_21 : decode cX12_bits 21 = .ok (.goto (-17), 3) := by decide +kernel
theorem dX12_bits_24 : decode cX12_bits 24 = .ok (.iload_n 1, 1) := by decide +kernel
theorem dX12_bits_25 : decode cX12_bits 25 = .ok (.ireturn, 1) := by decide +kernel
theorem dX12_toStrike_0 : decode cX12_toStrike 0 = .ok (.iload_n 1, 1) := by decide +kernel
theorem dX12_toStrike_1 : decode cX12_toStrike 1 = .ok (.invokestatic 169, 3) := by decide +kernel
theorem dX12_toStrike_4 : decode cX12_toStrike 4 = .ok (.ifCond .ne 7, 3) := by decide +kernel
theorem dX12_toStrike_7 : decode cX12_toStrike 7 = .ok (.sipush (-1001), 3) := by decide +kernel
theorem dX12_toStrike_10 : decode cX12_toStrike 10 = .ok (.ireturn, 1) := by decide +kernel
theorem dX12_toStrike_11 : decode cX12_toStrike 11 = .ok (.aload_n 0, 1) := by decide +kernel
theorem dX12_toStrike_12 : decode cX12_toStrike 12 = .ok (.invokevirtual 243, 3) := by decide +kernel
theorem dX12_toStrike_15 : decode cX12_toStrike 15 = .ok (.iconst (-1), 1) := by decide +kernel
theorem dX12_toStrike_16 : decode cX12_toStrike 16 = .ok (.istore_n 2, 1) := by decide +kernel
theorem dX12_toStrike_17 : decode cX12_toStrike 17 = .ok (.iconst 0, 1) := by decide +kernel
theorem dX12_toStrike_18 : decode cX12_toStrike 18 = .ok (.istore_n 3, 1) := by decide +kernel
theorem dX12_toStrike_19 : decode cX12_toStrike 19 = .ok (.iload_n 3, 1) := by decide +kernel
theorem dX12_toStrike_20 : decode cX12_toStrike 20 = .ok (.aload_n 0, 1) := by decide +kernel
theorem dX12_toStrike_21 : decode cX12_toStrike 21 = .ok (.iload_n 1, 1) := by decide +kernel
theorem dX12_toStrike_22 : decode cX12_toStrike 22 = .ok (.invokevirtual 266, 3) := by decide +kernel
theorem dX12_toStrike_25 : decode cX12_toStrike 25 = .ok (.if_icmp .ge 75, 3) := by decide +kernel
theorem dX12_toStrike_28 : decode cX12_toStrike 28 = .ok (.aload_n 0, 1) := by decide +kernel
theorem dX12_toStrike_29 : decode cX12_toStrike 29 = .ok (.iload_n 1, 1) := by decide +kernel
theorem dX12_toStrike_30 : decode cX12_toStrike 30 = .ok (.iload_n 3, 1) := by decide +kernel
theorem dX12_toStrike_31 : decode cX12_toStrike 31 = .ok (.invokevirtual 246, 3) := by decide +kernel
theorem dX12_toStrike_34 : decode cX12_toStrike 34 = .ok (.aload_n 0, 1) := by decide +kernel
theorem dX12_toStrike_35 : decode cX12_toStrike 35 = .ok (.iload_n 1, 1) := by decide +kernel
theorem dX12_toStrike_36 : decode cX12_toStrike 36 = .ok (.invokevirtual 270, 3) := by decide +kernel
theorem dX12_toStrike_39 : decode cX12_toStrike 39 = .ok (.istore 4, 2) := by decide +kernel
theorem dX12_toStrike_41 : decode cX12_toStrike 41 = .ok (.iload_n 2, 1) := by decide +kernel
theorem dX12_toStrike_42 : decode cX12_toStrike 42 = .ok (.ifCond .lt 33, 3) := by decide +kernel
theorem dX12_toStrike_45 : decode cX12_toStrike 45 = .ok (.iload 4, 2) := by decide +kernel
theorem dX12_toStrike_47 : decode cX12_toStrike 47 = .ok (.invokestatic 273, 3) := by decide +kernel
theorem dX12_toStrike_50 : decode cX12_toStrike 50 = .ok (.iload_n 2, 1) := by decide +kernel
theorem dX12_toStrike_51 : decode cX12_toStrike 51 = .ok (.invokestatic 273, 3) := by decide +kernel
theorem dX12_toStrike_54 : decode cX12_toStrike 54 = .ok (.if_icmp .lt 21, 3) := by decide +kernel
theorem dX12_toStrike_57 : decode cX12_toStrike 57 = .ok (.iload 4, 2) := by decide +kernel
theorem dX12_toStrike_59 : decode cX12_toStrike 59 = .ok (.invokestatic 273, 3) := by decide +kernel
theorem dX12_toStrike_62 : decode cX12_toStrike 62 = .ok (.iload_n 2, 1) := by decide +kernel
theorem dX12_toStrike_63 : decode cX12_toStrike 63 = .ok (.invokestatic 273, 3) := by decide +kernel
theorem dX12_toStrike_66 : decode cX12_toStrike 66 = .ok (.if_icmp .ne 13, 3) := by decide +kernel
theorem dX12_toStrike_69 : decode cX12_toStrike 69 = .ok (.iload 4, 2) := by decide +kernel
theorem dX12_toStrike_71 : decode cX12_toStrike 71 = .ok (.iload_n 2, 1) := by decide +kernel
theorem dX12_toStrike_72 : decode cX12_toStrike 72 = .ok (.if_icmp .ge 7, 3) := by decide +kernel
theorem dX12_toStrike_75 : decode cX12_toStrike 75 = .ok (.iconst 1, 1) := by decide +kernel
theorem dX12_toStrike_76 : decode cX12_toStrike 76 = .ok (.goto 4, 3) := by decide +kernel
theorem dX12_toStrike_79 : decode cX12_toStrike 79 = .ok (.iconst 0, 1) := by decide +kernel
theorem dX12_toStrike_80 : decode cX12_toStrike 80 = .ok (.istore 5, 2) := by decide +kernel
theorem dX12_toStrike_82 : decode cX12_toStrike 82 = .ok (.iload 5, 2) := by decide +kernel
theorem dX12_toStrike_84 : decode cX12_toStrike 84 = .ok (.ifCond .eq 8, 3) := by decide +kernel
theorem dX12_toStrike_87 : decode cX12_toStrike 87 = .ok (.iload 4, 2) := by decide +kernel
theorem dX12_toStrike_89 : decode cX12_toStrike 89 = .ok (.goto 4, 3) := by decide +kernel
theorem dX12_toStrike_92 : decode cX12_toStrike 92 = .ok (.iload_n 2, 1) := by decide +kernel
theorem dX12_toStrike_93 : decode cX12_toStrike 93 = .ok (.istore_n 2, 1) := by decide +kernel
theorem dX12_toStrike_94 : decode cX12_toStrike 94 = .ok (.iinc 3 1, 3) := by decide +kernel
theorem dX12_toStrike_97 : decode cX12_toStrike 97 = .ok (.goto (-78), 3) := by decide +kernel
theorem dX12_toStrike_100 : decode cX12_toStrike 100 = .ok (.iload_n 2, 1) := by decide +kernel
theorem dX12_toStrike_101 : decode cX12_toStrike 101 = .ok (.ireturn, 1) := by decide +kernel
theorem dX12_findKept_0 : decode cX12_findKept 0 = .ok (.aload_n 0, 1) := by decide +kernel
theorem dX12_findKept_1 : decode cX12_findKept 1 = .ok (.invokevirtual 243, 3) := by decide +kernel
theorem dX12_findKept_4 : decode cX12_findKept 4 = .ok (.aload_n 0, 1) := by decide +kernel
theorem dX12_findKept_5 : decode cX12_findKept 5 = .ok (.getfield 49, 3) := by decide +kernel
theorem dX12_findKept_8 : decode cX12_findKept 8 = .ok (.iload_n 1, 1) := by decide +kernel
theorem dX12_findKept_9 : decode cX12_findKept 9 = .ok (.baload, 1) := by decide +kernel
theorem dX12_findKept_10 : decode cX12_findKept 10 = .ok (.ifCond .eq 10, 3) := by decide +kernel
theorem dX12_findKept_13 : decode cX12_findKept 13 = .ok (.aload_n 0, 1) := by decide +kernel
theorem dX12_findKept_14 : decode cX12_findKept 14 = .ok (.getfield 53, 3) := by decide +kernel
theorem dX12_findKept_17 : decode cX12_findKept 17 = .ok (.iload_n 1, 1) := by decide +kernel
theorem dX12_findKept_18 : decode cX12_findKept 18 = .ok (.iaload, 1) := by decide +kernel
theorem dX12_findKept_19 : decode cX12_findKept 19 = .ok (.ireturn, 1) := by decide +kernel
theorem dX12_findKept_20 : decode cX12_findKept 20 = .ok (.iconst 0, 1) := by decide +kernel
theorem dX12_findKept_21 : decode cX12_findKept 21 = .ok (.istore_n 2, 1) := by decide +kernel
theorem dX12_findKept_22 : decode cX12_findKept 22 = .ok (.iconst 0, 1) := by decide +kernel
theorem dX12_findKept_23 : decode cX12_findKept 23 = .ok (.istore_n 3, 1) := by decide +kernel
theorem dX12_findKept_24 : decode cX12_findKept 24 = .ok (.iload_n 3, 1) := by decide +kernel
theorem dX12_findKept_25 : decode cX12_findKept 25 = .ok (.aload_n 0, 1) := by decide +kernel
theorem dX12_findKept_26 : decode cX12_findKept 26 = .ok (.iload_n 1, 1) := by decide +kernel
theorem dX12_findKept_27 : decode cX12_findKept 27 = .ok (.invokevirtual 266, 3) := by decide +kernel
theorem dX12_findKept_30 : decode cX12_findKept 30 = .ok (.if_icmp .ge 63, 3) := by decide +kernel
theorem dX12_findKept_33 : decode cX12_findKept 33 = .ok (.aload_n 0, 1) := by decide +kernel
theorem dX12_findKept_34 : decode cX12_findKept 34 = .ok (.iload_n 1, 1) := by decide +kernel
theorem dX12_findKept_35 : decode cX12_findKept 35 = .ok (.iload_n 3, 1) := by decide +kernel
theorem dX12_findKept_36 : decode cX12_findKept 36 = .ok (.invokevirtual 246, 3) := by decide +kernel
theorem dX12_findKept_39 : decode cX12_findKept 39 = .ok (.aload_n 0, 1) := by decide +kernel
theorem dX12_findKept_40 : decode cX12_findKept 40 = .ok (.getfield 98, 3) := by decide +kernel
theorem dX12_findKept_43 : decode cX12_findKept 43 = .ok (.sipush 729, 3) := by decide +kernel
theorem dX12_findKept_46 : decode cX12_findKept 46 = .ok (.iload_n 1, 1) := by decide +kernel
theorem dX12_findKept_47 : decode cX12_findKept 47 = .ok (.imul, 1) := by decide +kernel
theorem dX12_findKept_48 : decode cX12_findKept 48 = .ok (.iload_n 3, 1) := by decide +kernel
theorem dX12_findKept_49 : decode cX12_findKept 49 = .ok (.iadd, 1) := by decide +kernel
theorem dX12_findKept_50 : decode cX12_findKept 50 = .ok (.aload_n 0, 1) := by decide +kernel
theorem dX12_findKept_51 : decode cX12_findKept 51 = .ok (.iload_n 1, 1) := by decide +kernel
theorem dX12_findKept_52 : decode cX12_findKept 52 = .ok (.invokevirtual 270, 3) := by decide +kernel
theorem dX12_findKept_55 : decode cX12_findKept 55 = .ok (.ifCond .ne 7, 3) := by decide +kernel
theorem dX12_findKept_58 : decode cX12_findKept 58 = .ok (.iconst 1, 1) := by decide +kernel
theorem dX12_findKept_59 : decode cX12_findKept 59 = .ok (.goto 4, 3) := by decide +kernel
theorem dX12_findKept_62 : decode cX12_findKept 62 = .ok (.iconst 0, 1) := by decide +kernel
theorem dX12_findKept_63 : decode cX12_findKept 63 = .ok (.bastore, 1) := by decide +kernel
theorem dX12_findKept_64 : decode cX12_findKept 64 = .ok (.iload_n 2, 1) := by decide +kernel
theorem dX12_findKept_65 : decode cX12_findKept 65 = .ok (.aload_n 0, 1) := by decide +kernel
theorem dX12_findKept_66 : decode cX12_findKept 66 = .ok (.getfield 98, 3) := by decide +kernel
theorem dX12_findKept_69 : decode cX12_findKept 69 = .ok (.sipush 729, 3) := by decide +kernel
theorem dX12_findKept_72 : decode cX12_findKept 72 = .ok (.iload_n 1, 1) := by decide +kernel
theorem dX12_findKept_73 : decode cX12_findKept 73 = .ok (.imul, 1) := by decide +kernel
theorem dX12_findKept_74 : decode cX12_findKept 74 = .ok (.iload_n 3, 1) := by decide +kernel
theorem dX12_findKept_75 : decode cX12_findKept 75 = .ok (.iadd, 1) := by decide +kernel
theorem dX12_findKept_76 : decode cX12_findKept 76 = .ok (.baload, 1) := by decide +kernel
theorem dX12_findKept_77 : decode cX12_findKept 77 = .ok (.ifCond .eq 7, 3) := by decide +kernel
theorem dX12_findKept_80 : decode cX12_findKept 80 = .ok (.iconst 1, 1) := by decide +kernel
theorem dX12_findKept_81 : decode cX12_findKept 81 = .ok (.goto 4, 3) := by decide +kernel
theorem dX12_findKept_84 : decode cX12_findKept 84 = .ok (.iconst 0, 1) := by decide +kernel
theorem dX12_findKept_85 : decode cX12_findKept 85 = .ok (.iadd, 1) := by decide +kernel
theorem dX12_findKept_86 : decode cX12_findKept 86 = .ok (.istore_n 2, 1) := by decide +kernel
theorem dX12_findKept_87 : decode cX12_findKept 87 = .ok (.iinc 3 1, 3) := by decide +kernel
theorem dX12_findKept_90 : decode cX12_findKept 90 = .ok (.goto (-66), 3) := by decide +kernel
theorem dX12_findKept_93 : decode cX12_findKept 93 = .ok (.aload_n 0, 1) := by decide +kernel
theorem dX12_findKept_94 : decode cX12_findKept 94 = .ok (.getfield 49, 3) := by decide +kernel
theorem dX12_findKept_97 : decode cX12_findKept 97 = .ok (.iload_n 1, 1) := by decide +kernel
theorem dX12_findKept_98 : decode cX12_findKept 98 = .ok (.iconst 1, 1) := by decide +kernel
theorem dX12_findKept_99 : decode cX12_findKept 99 = .ok (.bastore, 1) := by decide +kernel
theorem dX12_findKept_100 : decode cX12_findKept 100 = .ok (.aload_n 0, 1) := by decide +kernel
theorem dX12_findKept_101 : decode cX12_findKept 101 = .ok (.getfield 53, 3) := by decide +kernel
theorem dX12_findKept_104 : decode cX12_findKept 104 = .ok (.iload_n 1, 1) := by decide +kernel
theorem dX12_findKept_105 : decode cX12_findKept 105 = .ok (.iload_n 2, 1) := by decide +kernel
theorem dX12_findKept_106 : decode cX12_findKept 106 = .ok (.iastore, 1) := by decide +kernel
theorem dX12_findKept_107 : decode cX12_findKept 107 = .ok (.iload_n 2, 1) := by decide +kernel
theorem dX12_findKept_108 : decode cX12_findKept 108 = .ok (.ireturn, 1) := by decide +kernel
theorem dX12_choices_0 : decode cX12_choices 0 = .ok (.iload_n 1, 1) := by decide +kernel
theorem dX12_choices_1 : decode cX12_choices 1 = .ok (.invokestatic 169, 3) := by decide +kernel
theorem dX12_choices_4 : decode cX12_choices 4 = .ok (.ifCond .eq 41, 3) := by decide +kernel
theorem dX12_choices_7 : decode cX12_choices 7 = .ok (.iload_n 2, 1) := by decide +kernel
theorem dX12_choices_8 : decode cX12_choices 8 = .ok (.iconst 3, 1) := by decide +kernel
theorem dX12_choices_9 : decode cX12_choices 9 = .ok (.if_icmp .ne 40, 3) := by decide +kernel
theorem dX12_choices_12 : decode cX12_choices 12 = .ok (.aload_n 0, 1) := by decide +kernel
theorem dX12_choices_13 : decode cX12_choices 13 = .ok (.iload_n 1, 1) := by decide +kernel
theorem dX12_choices_14 : decode cX12_choices 14 = .ok (.iload_n 3, 1) := by decide +kernel
theorem dX12_choices_15 : decode cX12_choices 15 = .ok (.invokevirtual 186, 3) := by decide +kernel
theorem dX12_choices_18 : decode cX12_choices 18 = .ok (.ifCond .eq 27, 3) := by decide +kernel
theorem dX12_choices_21 : decode cX12_choices 21 = .ok (.iload 4, 2) := by decide +kernel
theorem dX12_choices_23 : decode cX12_choices 23 = .ok (.i2l, 1) := by decide +kernel
theorem dX12_choices_24 : decode cX12_choices 24 = .ok (.lconst 0, 1) := by decide +kernel
theorem dX12_choices_25 : decode cX12_choices 25 = .ok (.aload_n 0, 1) := by decide +kernel
theorem dX12_choices_26 : decode cX12_choices 26 = .ok (.getfield 25, 3) := by decide +kernel
theorem dX12_choices_29 : decode cX12_choices 29 = .ok (.bipush 6, 2) := by decide +kernel
theorem dX12_choices_31 : decode cX12_choices 31 = .ok (.iload_n 1, 1) := by decide +kernel
theorem dX12_choices_32 : decode cX12_choices 32 = .ok (.imul, 1) := by decide +kernel
theorem dX12_choices_33 : decode cX12_choices 33 = .ok (.iload_n 3, 1) := by decide +kernel
theorem dX12_choices_34 : decode cX12_choices 34 = .ok (.iadd, 1) := by decide +kernel
theorem dX12_choices_35 : decode cX12_choices 35 = .ok (.iaload, 1) := by decide +kernel
theorem dX12_choices_36 : decode cX12_choices 36 = .ok (.iconst 1, 1) := by decide +kernel
theorem dX12_choices_37 : decode cX12_choices 37 = .ok (.isub, 1) := by decide +kernel
theorem dX12_choices_38 : decode cX12_choices 38 = .ok (.i2l, 1) := by decide +kernel
theorem dX12_choices_39 : decode cX12_choices 39 = .ok (.invokestatic 165, 3) := by decide +kernel
theorem dX12_choices_42 : decode cX12_choices 42 = .ok (.ifCond .ne 7, 3) := by decide +kernel
theorem dX12_choices_45 : decode cX12_choices 45 = .ok (.sipush (-1001), 3) := by decide +kernel
theorem dX12_choices_48 : decode cX12_choices 48 = .ok (.ireturn, 1) := by decide +kernel
theorem dX12_choices_49 : decode cX12_choices 49 = .ok (.iload_n 2, 1) := by decide +kernel
theorem dX12_choices_50 : decode cX12_choices 50 = .ok (.i2l, 1) := by decide +kernel
theorem dX12_choices_51 : decode cX12_choices 51 = .ok (.lconst 0, 1) := by decide +kernel
theorem dX12_choices_52 : decode cX12_choices 52 = .ok (.ldc2_w 180, 3) := by decide +kernel
theorem dX12_choices_55 : decode cX12_choices 55 = .ok (.invokestatic 165, 3) := by decide +kernel
theorem dX12_choices_58 : decode cX12_choices 58 = .ok (.ifCond .ne 7, 3) := by decide +kernel
theorem dX12_choices_61 : decode cX12_choices 61 = .ok (.sipush (-1002), 3) := by decide +kernel
theorem dX12_choices_64 : decode cX12_choices 64 = .ok (.ireturn, 1) := by decide +kernel
theorem dX12_choices_65 : decode cX12_choices 65 = .ok (.aload_n 0, 1) := by decide +kernel
theorem dX12_choices_66 : decode cX12_choices 66 = .ok (.iload_n 1, 1) := by decide +kernel
theorem dX12_choices_67 : decode cX12_choices 67 = .ok (.invokevirtual 276, 3) := by decide +kernel
theorem dX12_choices_70 : decode cX12_choices 70 = .ok (.istore 5, 2) := by decide +kernel
theorem dX12_choices_72 : decode cX12_choices 72 = .ok (.iconst (-1), 1) := by decide +kernel
theorem dX12_choices_73 : decode cX12_choices 73 = .ok (.istore 6, 2) := by decide +kernel
theorem dX12_choices_75 : decode cX12_choices 75 = .ok (.iconst 0, 1) := by decide +kernel
theorem dX12_choices_76 : decode cX12_choices 76 = .ok (.istore 7, 2) := by decide +kernel
theorem dX12_choices_78 : decode cX12_choices 78 = .ok (.aload_n 0, 1) := by decide +kernel
theorem dX12_choices_79 : decode cX12_choices 79 = .ok (.iload_n 1, 1) := by decide +kernel
theorem dX12_choices_80 : decode cX12_choices 80 = .ok (.invokevirtual 266, 3) := by decide +kernel
theorem dX12_choices_83 : decode cX12_choices 83 = .ok (.iconst 1, 1) := by decide +kernel
theorem dX12_choices_84 : decode cX12_choices 84 = .ok (.isub, 1) := by decide +kernel
theorem dX12_choices_85 : decode cX12_choices 85 = .ok (.istore 8, 2) := by decide +kernel
theorem dX12_choices_87 : decode cX12_choices 87 = .ok (.iload 8, 2) := by decide +kernel
theorem dX12_choices_89 : decode cX12_choices 89 = .ok (.ifCond .lt 62, 3) := by decide +kernel
theorem dX12_choices_92 : decode cX12_choices 92 = .ok (.aload_n 0, 1) := by decide +kernel
theorem dX12_choices_93 : decode cX12_choices 93 = .ok (.getfield 98, 3) := by decide +kernel
theorem dX12_choices_96 : decode cX12_choices 96 = .ok (.sipush 729, 3) := by decide +kernel
theorem dX12_choices_99 : decode cX12_choices 99 = .ok (.iload_n 1, 1) := by decide +kernel
theorem dX12_choices_100 : decode cX12_choices 100 = .ok (.imul, 1) := by decide +kernel
theorem dX12_choices_101 : decode cX12_choices 101 = .ok (.iload 8, 2) := by decide +kernel
theorem dX12_choices_103 : decode cX12_choices 103 = .ok (.iadd, 1) := by decide +kernel
theorem dX12_choices_104 : decode cX12_choices 104 = .ok (.baload, 1) := by decide +kernel
theorem dX12_choices_105 : decode cX12_choices 105 = .ok (.ifCond .eq 40, 3) := by decide +kernel
theorem dX12_choices_108 : decode cX12_choices 108 = .ok (.aload_n 0, 1) := by decide +kernel
theorem dX12_choices_109 : decode cX12_choices 109 = .ok (.iload_n 1, 1) := by decide +kernel
theorem dX12_choices_110 : decode cX12_choices 110 = .ok (.iload 8, 2) := by decide +kernel
theorem dX12_choices_112 : decode cX12_choices 112 = .ok (.invokevirtual 246, 3) := by decide +kernel
theorem dX12_choices_115 : decode cX12_choices 115 = .ok (.iload 8, 2) := by decide +kernel
theorem dX12_choices_117 : decode cX12_choices 117 = .ok (.istore 6, 2) := by decide +kernel
theorem dX12_choices_119 : decode cX12_choices 119 = .ok (.iload 7, 2) := by decide +kernel
theorem dX12_choices_121 : decode cX12_choices 121 = .ok (.iload_n 2, 1) := by decide +kernel
theorem dX12_choices_122 : decode cX12_choices 122 = .ok (.iconst 3, 1) := by decide +kernel
theorem dX12_choices_123 : decode cX12_choices 123 = .ok (.if_icmp .ne 18, 3) := by decide +kernel
theorem dX12_choices_126 : decode cX12_choices 126 = .ok (.aload_n 0, 1) := by decide +kernel
theorem dX12_choices_127 : decode cX12_choices 127 = .ok (.getfield 56, 3) := by decide +kernel
theorem dX12_choices_130 : decode cX12_choices 130 = .ok (.iload_n 3, 1) := by decide +kernel
theorem dX12_choices_131 : decode cX12_choices 131 = .ok (.iaload, 1) := by decide +kernel
theorem dX12_choices_132 : decode cX12_choices 132 = .ok (.iload 4, 2) := by decide +kernel
theorem dX12_choices_134 : decode cX12_choices 134 = .ok (.if_icmp .ne 7, 3) := by decide +kernel
theorem dX12_choices_137 : decode cX12_choices 137 = .ok (.iconst 1, 1) := by decide +kernel
theorem dX12_choices_138 : decode cX12_choices 138 = .ok (.goto 4, 3) := by decide +kernel
theorem dX12_choices_141 : decode cX12_choices 141 = .ok (.iconst 0, 1) := by decide +kernel
theorem dX12_choices_142 : decode cX12_choices 142 = .ok (.iadd, 1) := by decide +kernel
theorem dX12_choices_143 : decode cX12_choices 143 = .ok (.istore 7, 2) := by decide +kernel
theorem dX12_choices_145 : decode cX12_choices 145 = .ok (.iinc 8 (-1), 3) := by decide +kernel
theorem dX12_choices_148 : decode cX12_choices 148 = .ok (.goto (-61), 3) := by decide +kernel
theorem dX12_choices_151 : decode cX12_choices 151 = .ok (.iload_n 2, 1) := by decide +kernel
theorem dX12_choices_152 : decode cX12_choices 152 = .ok (.ifCond .ne 11, 3) := by decide +kernel
theorem dX12_choices_155 : decode cX12_choices 155 = .ok (.aload_n 0, 1) := by decide +kernel
theorem dX12_choices_156 : decode cX12_choices 156 = .ok (.iload_n 1, 1) := by decide +kernel
theorem dX12_choices_157 : decode cX12_choices 157 = .ok (.invokevirtual 266, 3) := by decide +kernel
theorem dX12_choices_160 : decode cX12_choices 160 = .ok (.goto 25, 3) := by decide +kernel
theorem dX12_choices_163 : decode cX12_choices 163 = .ok (.iload_n 2, 1) := by decide +kernel
theorem dX12_choices_164 : decode cX12_choices 164 = .ok (.iconst 1, 1) := by decide +kernel
theorem dX12_choices_165 : decode cX12_choices 165 = .ok (.if_icmp .ne 8, 3) := by decide +kernel
theorem dX12_choices_168 : decode cX12_choices 168 = .ok (.iload 5, 2) := by decide +kernel
theorem dX12_choices_170 : decode cX12_choices 170 = .ok (.goto 15, 3) := by decide +kernel
theorem dX12_choices_173 : decode cX12_choices 173 = .ok (.iload_n 2, 1) := by decide +kernel
theorem dX12_choices_174 : decode cX12_choices 174 = .ok (.iconst 2, 1) := by decide +kernel
theorem dX12_choices_175 : decode cX12_choices 175 = .ok (.if_icmp .ne 8, 3) := by decide +kernel
theorem dX12_choices_178 : decode cX12_choices 178 = .ok (.iload 6, 2) := by decide +kernel
theorem dX12_choices_180 : decode cX12_choices 180 = .ok (.goto 5, 3) := by decide +kernel
theorem dX12_choices_183 : decode cX12_choices 183 = .ok (.iload 7, 2) := by decide +kernel
theorem dX12_choices_185 : decode cX12_choices 185 = .ok (.ireturn, 1) := by decide +kernel
theorem dX12_begin_0 : decode cX12_begin 0 = .ok (.aload_n 0, 1) := by decide +kernel
theorem dX12_begin_1 : decode cX12_begin 1 = .ok (.lconst 0, 1) := by decide +kernel
theorem dX12_begin_2 : decode cX12_begin 2 = .ok (.putfield 279, 3) := by decide +kernel
theorem dX12_begin_5 : decode cX12_begin 5 = .ok (.aload_n 0, 1) := by decide +kernel
theorem dX12_begin_6 : decode cX12_begin 6 = .ok (.lconst 0, 1) := by decide +kernel
theorem dX12_begin_7 : decode cX12_begin 7 = .ok (.putfield 282, 3) := by decide +kernel
theorem dX12_begin_10 : decode cX12_begin 10 = .ok (.aload_n 0, 1) := by decide +kernel
theorem dX12_begin_11 : decode cX12_begin 11 = .ok (.iconst (-1), 1) := by decide +kernel
theorem dX12_begin_12 : decode cX12_begin 12 = .ok (.putfield 285, 3) := by decide +kernel
theorem dX12_begin_15 : decode cX12_begin 15 = .ok (.aload_n 0, 1) := by decide +kernel
theorem dX12_begin_16 : decode cX12_begin 16 = .ok (.iconst (-1), 1) := by decide +kernel
theorem dX12_begin_17 : decode cX12_begin 17 = .ok (.putfield 288, 3) := by decide +kernel
theorem dX12_begin_20 : decode cX12_begin 20 = .ok (.return_, 1) := by decide +kernel
theorem dX12_tell_0 : decode cX12_tell 0 = .ok (.aload_n 0, 1) := by decide +kernel
theorem dX12_tell_1 : decode cX12_tell 1 = .ok (.dup, 1) := by decide +kernel
theorem dX12_tell_2 : decode cX12_tell 2 = .ok (.getfield 279, 3) := by decide +kernel
theorem dX12_tell_5 : decode cX12_tell 5 = .ok (.iload_n 1, 1) := by decide +kernel
theorem dX12_tell_6 : decode cX12_tell 6 = .ok (.ifCond .eq 10, 3) := by decide +kernel
theorem dX12_tell_9 : decode cX12_tell 9 = .ok (.aload_n 0, 1) := by decide +kernel
theorem dX12_tell_10 : decode cX12_tell 10 = .ok (.getfield 225, 3) := by decide +kernel
theorem dX12_tell_13 : decode cX12_tell 13 = .ok (.goto 4, 3) := by decide +kernel
theorem dX12_tell_16 : decode cX12_tell 16 = .ok (.lconst 0, 1) := by decide +kernel
theorem dX12_tell_17 : decode cX12_tell 17 = .ok (.ladd, 1) := by decide +kernel
theorem dX12_tell_18 : decode cX12_tell 18 = .ok (.putfield 279, 3) := by decide +kernel
theorem dX12_tell_21 : decode cX12_tell 21 = .ok (.aload_n 0, 1) := by decide +kernel
theorem dX12_tell_22 : decode cX12_tell 22 = .ok (.dup, 1) := by decide +kernel
theorem dX12_tell_23 : decode cX12_tell 23 = .ok (.getfield 282, 3) := by decide +kernel
theorem dX12_tell_26 : decode cX12_tell 26 = .ok (.aload_n 0, 1) := by decide +kernel
theorem dX12_tell_27 : decode cX12_tell 27 = .ok (.getfield 225, 3) := by decide +kernel
theorem dX12_tell_30 : decode cX12_tell 30 = .ok (.ladd, 1) := by decide +kernel
theorem dX12_tell_31 : decode cX12_tell 31 = .ok (.putfield 282, 3) := by decide +kernel
theorem dX12_tell_34 : decode cX12_tell 34 = .ok (.return_, 1) := by decide +kernel
theorem dX12_note_0 : decode cX12_note 0 = .ok (.aload_n 0, 1) := by decide +kernel
theorem dX12_note_1 : decode cX12_note 1 = .ok (.aload_n 0, 1) := by decide +kernel
theorem dX12_note_2 : decode cX12_note 2 = .ok (.getfield 285, 3) := by decide +kernel
theorem dX12_note_5 : decode cX12_note 5 = .ok (.ifCond .lt 11, 3) := by decide +kernel
theorem dX12_note_8 : decode cX12_note 8 = .ok (.iload_n 1, 1) := by decide +kernel
theorem dX12_note_9 : decode cX12_note 9 = .ok (.aload_n 0, 1) := by decide +kernel
theorem dX12_note_10 : decode cX12_note 10 = .ok (.getfield 285, 3) := by decide +kernel
theorem dX12_note_13 : decode cX12_note 13 = .ok (.if_icmp .ge 7, 3) := by decide +kernel
theorem dX12_note_16 : decode cX12_note 16 = .ok (.iload_n 1, 1) := by decide +kernel
theorem dX12_note_17 : decode cX12_note 17 = .ok (.goto 7, 3) := by decide +kernel
theorem dX12_note_20 : decode cX12_note 20 = .ok (.aload_n 0, 1) := by decide +kernel
theorem dX12_note_21 : decode cX12_note 21 = .ok (.getfield 285, 3) := by decide +kernel
theorem dX12_note_24 : decode cX12_note 24 = .ok (.putfield 285, 3) := by decide +kernel
theorem dX12_note_27 : decode cX12_note 27 = .ok (.aload_n 0, 1) := by decide +kernel
theorem dX12_note_28 : decode cX12_note 28 = .ok (.iload_n 1, 1) := by decide +kernel
theorem dX12_note_29 : decode cX12_note 29 = .ok (.aload_n 0, 1) := by decide +kernel
theorem dX12_note_30 : decode cX12_note 30 = .ok (.getfield 288, 3) := by decide +kernel
theorem dX12_note_33 : decode cX12_note 33 = .ok (.if_icmp .le 7, 3) := by decide +kernel
theorem dX12_note_36 : decode cX12_note 36 = .ok (.iload_n 1, 1) := by decide +kernel
theorem dX12_note_37 : decode cX12_note 37 = .ok (.goto 7, 3) := by decide +kernel
theorem dX12_note_40 : decode cX12_note 40 = .ok (.aload_n 0, 1) := by decide +kernel
theorem dX12_note_41 : decode cX12_note 41 = .ok (.getfield 288, 3) := by decide +kernel
theorem dX12_note_44 : decode cX12_note 44 = .ok (.putfield 288, 3) := by decide +kernel
theorem dX12_note_47 : decode cX12_note 47 = .ok (.return_, 1) := by decide +kernel
theorem dX12_share_0 : decode cX12_share 0 = .ok (.aload_n 0, 1) := by decide +kernel
theorem dX12_share_1 : decode cX12_share 1 = .ok (.getfield 279, 3) := by decide +kernel
theorem dX12_share_4 : decode cX12_share 4 = .ok (.aload_n 0, 1) := by decide +kernel
theorem dX12_share_5 : decode cX12_share 5 = .ok (.getfield 282, 3) := by decide +kernel
theorem dX12_share_8 : decode cX12_share 8 = .ok (.invokestatic 291, 3) := by decide +kernel
theorem dX12_share_11 : decode cX12_share 11 = .ok (.lstore_n 2, 1) := by decide +kernel
theorem dX12_share_12 : decode cX12_share 12 = .ok (.iload_n 1, 1) := by decide +kernel
theorem dX12_share_13 : decode cX12_share 13 = .ok (.ifCond .ne 12, 3) := by decide +kernel
theorem dX12_share_16 : decode cX12_share 16 = .ok (.aload_n 0, 1) := by decide +kernel
theorem dX12_share_17 : decode cX12_share 17 = .ok (.getfield 279, 3) := by decide +kernel
theorem dX12_share_20 : decode cX12_share 20 = .ok (.lload_n 2, 1) := by decide +kernel
theorem dX12_share_21 : decode cX12_share 21 = .ok (.ldiv, 1) := by decide +kernel
theorem dX12_share_22 : decode cX12_share 22 = .ok (.goto 9, 3) := by decide +kernel
theorem dX12_share_25 : decode cX12_share 25 = .ok (.aload_n 0, 1) := by decide +kernel
theorem dX12_share_26 : decode cX12_share 26 = .ok (.getfield 282, 3) := by decide +kernel
theorem dX12_share_29 : decode cX12_share 29 = .ok (.lload_n 2, 1) := by decide +kernel
theorem dX12_share_30 : decode cX12_share 30 = .ok (.ldiv, 1) := by decide +kernel
theorem dX12_share_31 : decode cX12_share 31 = .ok (.lreturn, 1) := by decide +kernel
theorem dX12_goThrough_0 : decode cX12_goThrough 0 = .ok (.aload_n 0, 1) := by decide +kernel
theorem dX12_goThrough_1 : decode cX12_goThrough 1 = .ok (.iload_n 1, 1) := by decide +kernel
theorem dX12_goThrough_2 : decode cX12_goThrough 2 = .ok (.invokevirtual 276, 3) := by decide +kernel
theorem dX12_goThrough_5 : decode cX12_goThrough 5 = .ok (.ifCond .ne 5, 3) := by decide +kernel
theorem dX12_goThrough_8 : decode cX12_goThrough 8 = .ok (.iconst 0, 1) := by decide +kernel
theorem dX12_goThrough_9 : decode cX12_goThrough 9 = .ok (.ireturn, 1) := by decide +kernel
theorem dX12_goThrough_10 : decode cX12_goThrough 10 = .ok (.aload_n 0, 1) := by decide +kernel
theorem dX12_goThrough_11 : decode cX12_goThrough 11 = .ok (.invokevirtual 295, 3) := by decide +kernel
theorem dX12_goThrough_14 : decode cX12_goThrough 14 = .ok (.iconst 0, 1) := by decide +kernel
theorem dX12_goThrough_15 : decode cX12_goThrough 15 = .ok (.istore 4, 2) := by decide +kernel
theorem dX12_goThrough_17 : decode cX12_goThrough 17 = .ok (.iload 4, 2) := by decide +kernel
theorem dX12_goThrough_19 : decode cX12_goThrough 19 = .ok (.aload_n 0, 1) := by decide +kernel
theorem dX12_goThrough_20 : decode cX12_goThrough 20 = .ok (.iload_n 1, 1) := by decide +kernel
theorem dX12_goThrough_21 : decode cX12_goThrough 21 = .ok (.invokevirtual 266, 3) := by decide +kernel
theorem dX12_goThrough_24 : decode cX12_goThrough 24 = .ok (.if_icmp .ge 75, 3) := by decide +kernel
theorem dX12_goThrough_27 : decode cX12_goThrough 27 = .ok (.aload_n 0, 1) := by decide +kernel
theorem dX12_goThrough_28 : decode cX12_goThrough 28 = .ok (.getfield 98, 3) := by decide +kernel
theorem dX12_goThrough_31 : decode cX12_goThrough 31 = .ok (.sipush 729, 3) := by decide +kernel
theorem dX12_goThrough_34 : decode cX12_goThrough 34 = .ok (.iload_n 1, 1) := by decide +kernel
theorem dX12_goThrough_35 : decode cX12_goThrough 35 = .ok (.imul, 1) := by decide +kernel
theorem dX12_goThrough_36 : decode cX12_goThrough 36 = .ok (.iload 4, 2) := by decide +kernel
theorem dX12_goThrough_38 : decode cX12_goThrough 38 = .ok (.iadd, 1) := by decide +kernel
theorem dX12_goThrough_39 : decode cX12_goThrough 39 = .ok (.baload, 1) := by decide +kernel
theorem dX12_goThrough_40 : decode cX12_goThrough 40 = .ok (.ifCond .eq 53, 3) := by decide +kernel
theorem dX12_goThrough_43 : decode cX12_goThrough 43 = .ok (.aload_n 0, 1) := by decide +kernel
theorem dX12_goThrough_44 : decode cX12_goThrough 44 = .ok (.iload_n 1, 1) := by decide +kernel
theorem dX12_goThrough_45 : decode cX12_goThrough 45 = .ok (.iload 4, 2) := by decide +kernel
theorem dX12_goThrough_47 : decode cX12_goThrough 47 = .ok (.invokevirtual 246, 3) := by decide +kernel
theorem dX12_goThrough_50 : decode cX12_goThrough 50 = .ok (.aload_n 0, 1) := by decide +kernel
theorem dX12_goThrough_51 : decode cX12_goThrough 51 = .ok (.iload_n 1, 1) := by decide +kernel
theorem dX12_goThrough_52 : decode cX12_goThrough 52 = .ok (.iload_n 2, 1) := by decide +kernel
theorem dX12_goThrough_53 : decode cX12_goThrough 53 = .ok (.invokevirtual 249, 3) := by decide +kernel
theorem dX12_goThrough_56 : decode cX12_goThrough 56 = .ok (.aload_n 0, 1) := by decide +kernel
theorem dX12_goThrough_57 : decode cX12_goThrough 57 = .ok (.aload_n 0, 1) := by decide +kernel
theorem dX12_goThrough_58 : decode cX12_goThrough 58 = .ok (.getfield 62, 3) := by decide +kernel
theorem dX12_goThrough_61 : decode cX12_goThrough 61 = .ok (.iload_n 3, 1) := by decide +kernel
theorem dX12_goThrough_62 : decode cX12_goThrough 62 = .ok (.iaload, 1) := by decide +kernel
theorem dX12_goThrough_63 : decode cX12_goThrough 63 = .ok (.ifCond .lt 7, 3) := by decide +kernel
theorem dX12_goThrough_66 : decode cX12_goThrough 66 = .ok (.iconst 1, 1) := by decide +kernel
theorem dX12_goThrough_67 : decode cX12_goThrough 67 = .ok (.goto 4, 3) := by decide +kernel
theorem dX12_goThrough_70 : decode cX12_goThrough 70 = .ok (.iconst 0, 1) := by decide +kernel
theorem dX12_goThrough_71 : decode cX12_goThrough 71 = .ok (.invokevirtual 298, 3) := by decide +kernel
theorem dX12_goThrough_74 : decode cX12_goThrough 74 = .ok (.aload_n 0, 1) := by decide +kernel
theorem dX12_goThrough_75 : decode cX12_goThrough 75 = .ok (.getfield 62, 3) := by decide +kernel
theorem dX12_goThrough_78 : decode cX12_goThrough 78 = .ok (.iload_n 3, 1) := by decide +kernel
theorem dX12_goThrough_79 : decode cX12_goThrough 79 = .ok (.iaload, 1) := by decide +kernel
theorem dX12_goThrough_80 : decode cX12_goThrough 80 = .ok (.ifCond .lt 13, 3) := by decide +kernel
theorem dX12_goThrough_83 : decode cX12_goThrough 83 = .ok (.aload_n 0, 1) := by decide +kernel
theorem dX12_goThrough_84 : decode cX12_goThrough 84 = .ok (.aload_n 0, 1) := by decide +kernel
theorem dX12_goThrough_85 : decode cX12_goThrough 85 = .ok (.getfield 62, 3) := by decide +kernel
theorem dX12_goThrough_88 : decode cX12_goThrough 88 = .ok (.iload_n 3, 1) := by decide +kernel
theorem dX12_goThrough_89 : decode cX12_goThrough 89 = .ok (.iaload, 1) := by decide +kernel
theorem dX12_goThrough_90 : decode cX12_goThrough 90 = .ok (.invokevirtual 302, 3) := by decide +kernel
theorem dX12_goThrough_93 : decode cX12_goThrough 93 = .ok (.iinc 4 1, 3) := by decide +kernel
theorem dX12_goThrough_96 : decode cX12_goThrough 96 = .ok (.goto (-79), 3) := by decide +kernel
theorem dX12_goThrough_99 : decode cX12_goThrough 99 = .ok (.iconst 1, 1) := by decide +kernel
theorem dX12_goThrough_100 : decode cX12_goThrough 100 = .ok (.ireturn, 1) := by decide +kernel
theorem dX12_odds_0 : decode cX12_odds 0 = .ok (.aload_n 0, 1) := by decide +kernel
theorem dX12_odds_1 : decode cX12_odds 1 = .ok (.iload_n 1, 1) := by decide +kernel
theorem dX12_odds_2 : decode cX12_odds 2 = .ok (.iload_n 3, 1) := by decide +kernel
theorem dX12_odds_3 : decode cX12_odds 3 = .ok (.invokevirtual 186, 3) := by decide +kernel
theorem dX12_odds_6 : decode cX12_odds 6 = .ok (.ifCond .eq 11, 3) := by decide +kernel
theorem dX12_odds_9 : decode cX12_odds 9 = .ok (.aload_n 0, 1) := by decide +kernel
theorem dX12_odds_10 : decode cX12_odds 10 = .ok (.iload_n 2, 1) := by decide +kernel
theorem dX12_odds_11 : decode cX12_odds 11 = .ok (.invokevirtual 207, 3) := by decide +kernel
theorem dX12_odds_14 : decode cX12_odds 14 = .ok (.ifCond .ne 7, 3) := by decide +kernel
theorem dX12_odds_17 : decode cX12_odds 17 = .ok (.ldc2_w 306, 3) := by decide +kernel
theorem dX12_odds_20 : decode cX12_odds 20 = .ok (.lreturn, 1) := by decide +kernel
theorem dX12_odds_21 : decode cX12_odds 21 = .ok (.iload 4, 2) := by decide +kernel
theorem dX12_odds_23 : decode cX12_odds 23 = .ok (.i2l, 1) := by decide +kernel
theorem dX12_odds_24 : decode cX12_odds 24 = .ok (.lconst 0, 1) := by decide +kernel
theorem dX12_odds_25 : decode cX12_odds 25 = .ok (.lconst 1, 1) := by decide +kernel
theorem dX12_odds_26 : decode cX12_odds 26 = .ok (.invokestatic 165, 3) := by decide +kernel
theorem dX12_odds_29 : decode cX12_odds 29 = .ok (.ifCond .ne 7, 3) := by decide +kernel
theorem dX12_odds_32 : decode cX12_odds 32 = .ok (.ldc2_w 308, 3) := by decide +kernel
theorem dX12_odds_35 : decode cX12_odds 35 = .ok (.lreturn, 1) := by decide +kernel
theorem dX12_odds_36 : decode cX12_odds 36 = .ok (.aload_n 0, 1) := by decide +kernel
theorem dX12_odds_37 : decode cX12_odds 37 = .ok (.iload_n 1, 1) := by decide +kernel
theorem dX12_odds_38 : decode cX12_odds 38 = .ok (.iload_n 2, 1) := by decide +kernel
theorem dX12_odds_39 : decode cX12_odds 39 = .ok (.iload_n 3, 1) := by decide +kernel
theorem dX12_odds_40 : decode cX12_odds 40 = .ok (.invokevirtual 310, 3) := by decide +kernel
theorem dX12_odds_43 : decode cX12_odds 43 = .ok (.ifCond .eq 12, 3) := by decide +kernel
theorem dX12_odds_46 : decode cX12_odds 46 = .ok (.aload_n 0, 1) := by decide +kernel
theorem dX12_odds_47 : decode cX12_odds 47 = .ok (.iload 4, 2) := by decide +kernel
theorem dX12_odds_49 : decode cX12_odds 49 = .ok (.invokevirtual 314, 3) := by decide +kernel
theorem dX12_odds_52 : decode cX12_odds 52 = .ok (.goto 6, 3) := by decide +kernel
theorem dX12_odds_55 : decode cX12_odds 55 = .ok (.ldc2_w 318, 3) := by decide +kernel
theorem dX12_odds_58 : decode cX12_odds 58 = .ok (.lreturn, 1) := by decide +kernel
theorem dX12_step_0 : decode cX12_step 0 = .ok (.aload_n 0, 1) := by decide +kernel
theorem dX12_step_1 : decode cX12_step 1 = .ok (.iload_n 1, 1) := by decide +kernel
theorem dX12_step_2 : decode cX12_step 2 = .ok (.iload_n 3, 1) := by decide +kernel
theorem dX12_step_3 : decode cX12_step 3 = .ok (.invokevirtual 186, 3) := by decide +kernel
theorem dX12_step_6 : decode cX12_step 6 = .ok (.ifCond .eq 11, 3) := by decide +kernel
theorem dX12_step_9 : decode cX12_step 9 = .ok (.aload_n 0, 1) := by decide +kernel
theorem dX12_step_10 : decode cX12_step 10 = .ok (.iload_n 2, 1) := by decide +kernel
theorem dX12_step_11 : decode cX12_step 11 = .ok (.invokevirtual 207, 3) := by decide +kernel
theorem dX12_step_14 : decode cX12_step 14 = .ok (.ifCond .ne 7, 3) := by decide +kernel
theorem dX12_step_17 : decode cX12_step 17 = .ok (.sipush (-1001), 3) := by decide +kernel
theorem dX12_step_20 : decode cX12_step 20 = .ok (.ireturn, 1) := by decide +kernel
theorem dX12_step_21 : decode cX12_step 21 = .ok (.iload 4, 2) := by decide +kernel
theorem dX12_step_23 : decode cX12_step 23 = .ok (.i2l, 1) := by decide +kernel
theorem dX12_step_24 : decode cX12_step 24 = .ok (.lconst 0, 1) := by decide +kernel
theorem dX12_step_25 : decode cX12_step 25 = .ok (.lconst 1, 1) := by decide +kernel
theorem dX12_step_26 : decode cX12_step 26 = .ok (.invokestatic 165, 3) := by decide +kernel
theorem dX12_step_29 : decode cX12_step 29 = .ok (.ifCond .ne 7, 3) := by decide +kernel
theorem dX12_step_32 : decode cX12_step 32 = .ok (.sipush (-1002), 3) := by decide +kernel
theorem dX12_step_35 : decode cX12_step 35 = .ok (.ireturn, 1) := by decide +kernel
theorem dX12_step_36 : decode cX12_step 36 = .ok (.aload_n 0, 1) := by decide +kernel
theorem dX12_step_37 : decode cX12_step 37 = .ok (.iload_n 1, 1) := by decide +kernel
theorem dX12_step_38 : decode cX12_step 38 = .ok (.iload_n 2, 1) := by decide +kernel
theorem dX12_step_39 : decode cX12_step 39 = .ok (.iload_n 3, 1) := by decide +kernel
theorem dX12_step_40 : decode cX12_step 40 = .ok (.invokevirtual 310, 3) := by decide +kernel
theorem dX12_step_43 : decode cX12_step 43 = .ok (.ifCond .ne 7, 3) := by decide +kernel
theorem dX12_step_46 : decode cX12_step 46 = .ok (.sipush (-1005), 3) := by decide +kernel
theorem dX12_step_49 : decode cX12_step 49 = .ok (.ireturn, 1) := by decide +kernel
theorem dX12_step_50 : decode cX12_step 50 = .ok (.iload 4, 2) := by decide +kernel
theorem dX12_step_52 : decode cX12_step 52 = .ok (.ifCond .ne 10, 3) := by decide +kernel
theorem dX12_step_55 : decode cX12_step 55 = .ok (.aload_n 0, 1) := by decide +kernel
theorem dX12_step_56 : decode cX12_step 56 = .ok (.getfield 285, 3) := by decide +kernel
theorem dX12_step_59 : decode cX12_step 59 = .ok (.goto 23, 3) := by decide +kernel
theorem dX12_step_62 : decode cX12_step 62 = .ok (.aload_n 0, 1) := by decide +kernel
theorem dX12_step_63 : decode cX12_step 63 = .ok (.getfield 279, 3) := by decide +kernel
theorem dX12_step_66 : decode cX12_step 66 = .ok (.aload_n 0, 1) := by decide +kernel
theorem dX12_step_67 : decode cX12_step 67 = .ok (.getfield 282, 3) := by decide +kernel
theorem dX12_step_70 : decode cX12_step 70 = .ok (.lcmp, 1) := by decide +kernel
theorem dX12_step_71 : decode cX12_step 71 = .ok (.ifCond .ge 7, 3) := by decide +kernel
theorem dX12_step_74 : decode cX12_step 74 = .ok (.iconst (-1), 1) := by decide +kernel
theorem dX12_step_75 : decode cX12_step 75 = .ok (.goto 7, 3) := by decide +kernel
theorem dX12_step_78 : decode cX12_step 78 = .ok (.aload_n 0, 1) := by decide +kernel
theorem dX12_step_79 : decode cX12_step 79 = .ok (.getfield 288, 3) := by decide +kernel
theorem dX12_step_82 : decode cX12_step 82 = .ok (.ireturn, 1) := by decide +kernel
theorem dX12_isHouse_0 : decode cX12_isHouse 0 = .ok (.iload_n 1, 1) := by decide +kernel
theorem dX12_isHouse_1 : decode cX12_isHouse 1 = .ok (.i2l, 1) := by decide +kernel
theorem dX12_isHouse_2 : decode cX12_isHouse 2 = .ok (.lconst 0, 1) := by decide +kernel
theorem dX12_isHouse_3 : decode cX12_isHouse 3 = .ok (.aload_n 0, 1) := by decide +kernel
theorem dX12_isHouse_4 : decode cX12_isHouse 4 = .ok (.getfield 213, 3) := by decide +kernel
theorem dX12_isHouse_7 : decode cX12_isHouse 7 = .ok (.iconst 1, 1) := by decide +kernel
theorem dX12_isHouse_8 : decode cX12_isHouse 8 = .ok (.isub, 1) := by decide +kernel
theorem dX12_isHouse_9 : decode cX12_isHouse 9 = .ok (.i2l, 1) := by decide +kernel
theorem dX12_isHouse_10 : decode cX12_isHouse 10 = .ok (.invokestatic 165, 3) := by decide +kernel
theorem dX12_isHouse_13 : decode cX12_isHouse 13 = .ok (.ireturn, 1) := by decide +kernel
theorem dX12_house_0 : decode cX12_house 0 = .ok (.iload_n 1, 1) := by decide +kernel
theorem dX12_house_1 : decode cX12_house 1 = .ok (.invokestatic 169, 3) := by decide +kernel
theorem dX12_house_4 : decode cX12_house 4 = .ok (.ifCond .ne 7, 3) := by decide +kernel
theorem dX12_house_7 : decode cX12_house 7 = .ok (.sipush (-1001), 3) := by decide +kernel
theorem dX12_house_10 : decode cX12_house 10 = .ok (.ireturn, 1) := by decide +kernel
theorem dX12_house_11 : decode cX12_house 11 = .ok (.iload_n 2, 1) := by decide +kernel
theorem dX12_house_12 : decode cX12_house 12 = .ok (.i2l, 1) := by decide +kernel
theorem dX12_house_13 : decode cX12_house 13 = .ok (.lconst 1, 1) := by decide +kernel
theorem dX12_house_14 : decode cX12_house 14 = .ok (.ldc2_w 182, 3) := by decide +kernel
theorem dX12_house_17 : decode cX12_house 17 = .ok (.invokestatic 165, 3) := by decide +kernel
theorem dX12_house_20 : decode cX12_house 20 = .ok (.ifCond .eq 15, 3) := by decide +kernel
theorem dX12_house_23 : decode cX12_house 23 = .ok (.iload_n 3, 1) := by decide +kernel
theorem dX12_house_24 : decode cX12_house 24 = .ok (.i2l, 1) := by decide +kernel
theorem dX12_house_25 : decode cX12_house 25 = .ok (.lconst 0, 1) := by decide +kernel
theorem dX12_house_26 : decode cX12_house 26 = .ok (.ldc2_w 320, 3) := by decide +kernel
theorem dX12_house_29 : decode cX12_house 29 = .ok (.invokestatic 165, 3) := by decide +kernel
theorem dX12_house_32 : decode cX12_house 32 = .ok (.ifCond .ne 7, 3) := by decide +kernel
theorem dX12_house_35 : decode cX12_house 35 = .ok (.sipush (-1002), 3) := by decide +kernel
theorem dX12_house_38 : decode cX12_house 38 = .ok (.ireturn, 1) := by decide +kernel
theorem dX12_house_39 : decode cX12_house 39 = .ok (.aload_n 0, 1) := by decide +kernel
theorem dX12_house_40 : decode cX12_house 40 = .ok (.getfield 213, 3) := by decide +kernel
theorem dX12_house_43 : decode cX12_house 43 = .ok (.bipush 8, 2) := by decide +kernel
theorem dX12_house_45 : decode cX12_house 45 = .ok (.if_icmp .ne 7, 3) := by decide +kernel
theorem dX12_house_48 : decode cX12_house 48 = .ok (.sipush (-1004), 3) := by decide +kernel
theorem dX12_house_51 : decode cX12_house 51 = .ok (.ireturn, 1) := by decide +kernel
theorem dX12_house_52 : decode cX12_house 52 = .ok (.aload_n 0, 1) := by decide +kernel
theorem dX12_house_53 : decode cX12_house 53 = .ok (.getfield 101, 3) := by decide +kernel
theorem dX12_house_56 : decode cX12_house 56 = .ok (.aload_n 0, 1) := by decide +kernel
theorem dX12_house_57 : decode cX12_house 57 = .ok (.getfield 213, 3) := by decide +kernel
theorem dX12_house_60 : decode cX12_house 60 = .ok (.iload_n 1, 1) := by decide +kernel
theorem dX12_house_61 : decode cX12_house 61 = .ok (.iastore, 1) := by decide +kernel
theorem dX12_house_62 : decode cX12_house 62 = .ok (.aload_n 0, 1) := by decide +kernel
theorem dX12_house_63 : decode cX12_house 63 = .ok (.getfield 104, 3) := by decide +kernel
theorem dX12_house_66 : decode cX12_house 66 = .ok (.aload_n 0, 1) := by decide +kernel
theorem dX12_house_67 : decode cX12_house 67 = .ok (.getfield 213, 3) := by decide +kernel
theorem dX12_house_70 : decode cX12_house 70 = .ok (.iload_n 2, 1) := by decide +kernel
theorem dX12_house_71 : decode cX12_house 71 = .ok (.iastore, 1) := by decide +kernel
theorem dX12_house_72 : decode cX12_house 72 = .ok (.aload_n 0, 1) := by decide +kernel
theorem dX12_house_73 : decode cX12_house 73 = .ok (.getfield 107, 3) := by decide +kernel
theorem dX12_house_76 : decode cX12_house 76 = .ok (.aload_n 0, 1) := by decide +kernel
theorem dX12_house_77 : decode cX12_house 77 = .ok (.getfield 213, 3) := by decide +kernel
theorem dX12_house_80 : decode cX12_house 80 = .ok (.iload_n 3, 1) := by decide +kernel
theorem dX12_house_81 : decode cX12_house 81 = .ok (.iastore, 1) := by decide +kernel
theorem dX12_house_82 : decode cX12_house 82 = .ok (.aload_n 0, 1) := by decide +kernel
theorem dX12_house_83 : decode cX12_house 83 = .ok (.dup, 1) := by decide +kernel
theorem dX12_house_84 : decode cX12_house 84 = .ok (.getfield 213, 3) := by decide +kernel
theorem dX12_house_87 : decode cX12_house 87 = .ok (.iconst 1, 1) := by decide +kernel
theorem dX12_house_88 : decode cX12_house 88 = .ok (.iadd, 1) := by decide +kernel
theorem dX12_house_89 : decode cX12_house 89 = .ok (.putfield 213, 3) := by decide +kernel
theorem dX12_house_92 : decode cX12_house 92 = .ok (.aload_n 0, 1) := by decide +kernel
theorem dX12_house_93 : decode cX12_house 93 = .ok (.getfield 213, 3) := by decide +kernel
theorem dX12_house_96 : decode cX12_house 96 = .ok (.iconst 1, 1) := by decide +kernel
theorem dX12_house_97 : decode cX12_house 97 = .ok (.isub, 1) := by decide +kernel
theorem dX12_house_98 : decode cX12_house 98 = .ok (.ireturn, 1) := by decide +kernel
theorem dX12_part_0 : decode cX12_part 0 = .ok (.aload_n 0, 1) := by decide +kernel
theorem dX12_part_1 : decode cX12_part 1 = .ok (.getfield 101, 3) := by decide +kernel
theorem dX12_part_4 : decode cX12_part 4 = .ok (.iload_n 1, 1) := by decide +kernel
theorem dX12_part_5 : decode cX12_part 5 = .ok (.iaload, 1) := by decide +kernel
theorem dX12_part_6 : decode cX12_part 6 = .ok (.istore_n 3, 1) := by decide +kernel
theorem dX12_part_7 : decode cX12_part 7 = .ok (.aload_n 0, 1) := by decide +kernel
theorem dX12_part_8 : decode cX12_part 8 = .ok (.iload_n 3, 1) := by decide +kernel
theorem dX12_part_9 : decode cX12_part 9 = .ok (.iload_n 2, 1) := by decide +kernel
theorem dX12_part_10 : decode cX12_part 10 = .ok (.invokevirtual 192, 3) := by decide +kernel
theorem dX12_part_13 : decode cX12_part 13 = .ok (.istore 4, 2) := by decide +kernel
theorem dX12_part_15 : decode cX12_part 15 = .ok (.iload 4, 2) := by decide +kernel
theorem dX12_part_17 : decode cX12_part 17 = .ok (.aload_n 0, 1) := by decide +kernel
theorem dX12_part_18 : decode cX12_part 18 = .ok (.getfield 22, 3) := by decide +kernel
theorem dX12_part_21 : decode cX12_part 21 = .ok (.bipush 6, 2) := by decide +kernel
theorem dX12_part_23 : decode cX12_part 23 = .ok (.iload_n 3, 1) := by decide +kernel
theorem dX12_part_24 : decode cX12_part 24 = .ok (.imul, 1) := by decide +kernel
theorem dX12_part_25 : decode cX12_part 25 = .ok (.iload_n 2, 1) := by decide +kernel
theorem dX12_part_26 : decode cX12_part 26 = .ok (.iadd, 1) := by decide +kernel
theorem dX12_part_27 : decode cX12_part 27 = .ok (.iaload, 1) := by decide +kernel
theorem dX12_part_28 : decode cX12_part 28 = .ok (.iadd, 1) := by decide +kernel
theorem dX12_part_29 : decode cX12_part 29 = .ok (.istore 5, 2) := by decide +kernel
theorem dX12_part_31 : decode cX12_part 31 = .ok (.iload 5, 2) := by decide +kernel
theorem dX12_part_33 : decode cX12_part 33 = .ok (.iconst 2, 1) := by decide +kernel
theorem dX12_part_34 : decode cX12_part 34 = .ok (.aload_n 0, 1) := by decide +kernel
theorem dX12_part_35 : decode cX12_part 35 = .ok (.getfield 104, 3) := by decide +kernel
theorem dX12_part_38 : decode cX12_part 38 = .ok (.iload_n 1, 1) := by decide +kernel
theorem dX12_part_39 : decode cX12_part 39 = .ok (.iaload, 1) := by decide +kernel
theorem dX12_part_40 : decode cX12_part 40 = .ok (.imul, 1) := by decide +kernel
theorem dX12_part_41 : decode cX12_part 41 = .ok (.if_icmp .le 14, 3) := by decide +kernel
theorem dX12_part_44 : decode cX12_part 44 = .ok (.iconst 2, 1) := by decide +kernel
theorem dX12_part_45 : decode cX12_part 45 = .ok (.aload_n 0, 1) := by decide +kernel
theorem dX12_part_46 : decode cX12_part 46 = .ok (.getfield 104, 3) := by decide +kernel
theorem dX12_part_49 : decode cX12_part 49 = .ok (.iload_n 1, 1) := by decide +kernel
theorem dX12_part_50 : decode cX12_part 50 = .ok (.iaload, 1) := by decide +kernel
theorem dX12_part_51 : decode cX12_part 51 = .ok (.imul, 1) := by decide +kernel
theorem dX12_part_52 : decode cX12_part 52 = .ok (.goto 5, 3) := by decide +kernel
theorem dX12_part_55 : decode cX12_part 55 = .ok (.iload 5, 2) := by decide +kernel
theorem dX12_part_57 : decode cX12_part 57 = .ok (.istore 5, 2) := by decide +kernel
theorem dX12_part_59 : decode cX12_part 59 = .ok (.aload_n 0, 1) := by decide +kernel
theorem dX12_part_60 : decode cX12_part 60 = .ok (.getfield 62, 3) := by decide +kernel
theorem dX12_part_63 : decode cX12_part 63 = .ok (.iload_n 2, 1) := by decide +kernel
theorem dX12_part_64 : decode cX12_part 64 = .ok (.iaload, 1) := by decide +kernel
theorem dX12_part_65 : decode cX12_part 65 = .ok (.ifCond .lt 10, 3) := by decide +kernel
theorem dX12_part_68 : decode cX12_part 68 = .ok (.iload 5, 2) := by decide +kernel
theorem dX12_part_70 : decode cX12_part 70 = .ok (.iload 4, 2) := by decide +kernel
theorem dX12_part_72 : decode cX12_part 72 = .ok (.if_icmp .gt 7, 3) := by decide +kernel
theorem dX12_part_75 : decode cX12_part 75 = .ok (.iconst 0, 1) := by decide +kernel
theorem dX12_part_76 : decode cX12_part 76 = .ok (.goto 32, 3) := by decide +kernel
theorem dX12_part_79 : decode cX12_part 79 = .ok (.iload 5, 2) := by decide +kernel
theorem dX12_part_81 : decode cX12_part 81 = .ok (.iload 4, 2) := by decide +kernel
theorem dX12_part_83 : decode cX12_part 83 = .ok (.isub, 1) := by decide +kernel
theorem dX12_part_84 : decode cX12_part 84 = .ok (.aload_n 0, 1) := by decide +kernel
theorem dX12_part_85 : decode cX12_part 85 = .ok (.getfield 43, 3) := by decide +kernel
theorem dX12_part_88 : decode cX12_part 88 = .ok (.iconst 5, 1) := by decide +kernel
theorem dX12_part_89 : decode cX12_part 89 = .ok (.aload_n 0, 1) := by decide +kernel
theorem dX12_part_90 : decode cX12_part 90 = .ok (.getfield 19, 3) := by decide +kernel
theorem dX12_part_93 : decode cX12_part 93 = .ok (.bipush 6, 2) := by decide +kernel
theorem dX12_part_95 : decode cX12_part 95 = .ok (.iload_n 3, 1) := by decide +kernel
theorem dX12_part_96 : decode cX12_part 96 = .ok (.imul, 1) := by decide +kernel
theorem dX12_part_97 : decode cX12_part 97 = .ok (.iload_n 2, 1) := by decide +kernel
theorem dX12_part_98 : decode cX12_part 98 = .ok (.iadd, 1) := by decide +kernel
theorem dX12_part_99 : decode cX12_part 99 = .ok (.iaload, 1) := by decide +kernel
theorem dX12_part_100 : decode cX12_part 100 = .ok (.imul, 1) := by decide +kernel
theorem dX12_part_101 : decode cX12_part 101 = .ok (.iconst 3, 1) := by decide +kernel
theorem dX12_part_102 : decode cX12_part 102 = .ok (.iadd, 1) := by decide +kernel
theorem dX12_part_103 : decode cX12_part 103 = .ok (.iaload, 1) := by decide +kernel
theorem dX12_part_104 : decode cX12_part 104 = .ok (.imul, 1) := by decide +kernel
theorem dX12_part_105 : decode cX12_part 105 = .ok (.bipush 100, 2) := by decide +kernel
theorem dX12_part_107 : decode cX12_part 107 = .ok (.idiv, 1) := by decide +kernel
theorem dX12_part_108 : decode cX12_part 108 = .ok (.ireturn, 1) := by decide +kernel
theorem dX12_sinkOf_0 : decode cX12_sinkOf 0 = .ok (.iconst 0, 1) := by decide +kernel
theorem dX12_sinkOf_1 : decode cX12_sinkOf 1 = .ok (.istore_n 2, 1) := by decide +kernel
theorem dX12_sinkOf_2 : decode cX12_sinkOf 2 = .ok (.iconst 0, 1) := by decide +kernel
theorem dX12_sinkOf_3 : decode cX12_sinkOf 3 = .ok (.istore_n 3, 1) := by decide +kernel
theorem dX12_sinkOf_4 : decode cX12_sinkOf 4 = .ok (.iload_n 3, 1) := by decide +kernel
theorem dX12_sinkOf_5 : decode cX12_sinkOf 5 = .ok (.aload_n 0, 1) := by decide +kernel
theorem dX12_sinkOf_6 : decode cX12_sinkOf 6 = .ok (.getfield 16, 3) := by decide +kernel
theorem dX12_sinkOf_9 : decode cX12_sinkOf 9 = .ok (.aload_n 0, 1) := by decide +kernel
theorem dX12_sinkOf_10 : decode cX12_sinkOf 10 = .ok (.getfield 101, 3) := by decide +kernel
theorem dX12_sinkOf_13 : decode cX12_sinkOf 13 = .ok (.iload_n 1, 1) := by decide +kernel
theorem dX12_sinkOf_14 : decode cX12_sinkOf 14 = .ok (.iaload, 1) := by decide +kernel
theorem dX12_sinkOf_15 : decode cX12_sinkOf 15 = .ok (.iaload, 1) := by decide +kernel
theorem dX12_sinkOf_16 : decode cX12_sinkOf 16 = .ok (.if_icmp .ge 18, 3) := by decide +kernel
theorem dX12_sinkOf_19 : decode cX12_sinkOf 19 = .ok (.iload_n 2, 1) := by decide +kernel
theorem dX12_sinkOf_20 : decode cX12_sinkOf 20 = .ok (.aload_n 0, 1) := by decide +kernel
theorem dX12_sinkOf_21 : decode cX12_sinkOf 21 = .ok (.iload_n 1, 1) := by decide +kernel
theorem dX12_sinkOf_22 : decode cX12_sinkOf 22 = .ok (.iload_n 3, 1) := by decide +kernel
theorem dX12_sinkOf_23 : decode cX12_sinkOf 23 = .ok (.invokevirtual 322, 3) := by decide +kernel
theorem dX12_sinkOf_26 : decode cX12_sinkOf 26 = .ok (.iadd, 1) := by decide +kernel
theorem dX12_sinkOf_27 : decode cX12_sinkOf 27 = .ok (.istore_n 2, 1) := by decide +kernel
theorem dX12_sinkOf_28 : decode cX12_sinkOf 28 = .ok (.iinc 3 1, 3) := by decide +kernel
theorem dX12_sinkOf_31 : decode cX12_sinkOf 31 = .ok (.goto (-27), 3) := by decide +kernel
theorem dX12_sinkOf_34 : decode cX12_sinkOf 34 = .ok (.iload_n 2, 1) := by decide +kernel
theorem dX12_sinkOf_35 : decode cX12_sinkOf 35 = .ok (.ireturn, 1) := by decide +kernel
theorem dX12_firstSink_0 : decode cX12_firstSink 0 = .ok (.aload_n 0, 1) := by decide +kernel
theorem dX12_firstSink_1 : decode cX12_firstSink 1 = .ok (.invokevirtual 243, 3) := by decide +kernel
theorem dX12_firstSink_4 : decode cX12_firstSink 4 = .ok (.aload_n 0, 1) := by decide +kernel
theorem dX12_firstSink_5 : decode cX12_firstSink 5 = .ok (.aload_n 0, 1) := by decide +kernel
theorem dX12_firstSink_6 : decode cX12_firstSink 6 = .ok (.getfield 101, 3) := by decide +kernel
theorem dX12_firstSink_9 : decode cX12_firstSink 9 = .ok (.iload_n 1, 1) := by decide +kernel
theorem dX12_firstSink_10 : decode cX12_firstSink 10 = .ok (.iaload, 1) := by decide +kernel
theorem dX12_firstSink_11 : decode cX12_firstSink 11 = .ok (.iconst 0, 1) := by decide +kernel
theorem dX12_firstSink_12 : decode cX12_firstSink 12 = .ok (.invokevirtual 246, 3) := by decide +kernel
theorem dX12_firstSink_15 : decode cX12_firstSink 15 = .ok (.aload_n 0, 1) := by decide +kernel
theorem dX12_firstSink_16 : decode cX12_firstSink 16 = .ok (.aload_n 0, 1) := by decide +kernel
theorem dX12_firstSink_17 : decode cX12_firstSink 17 = .ok (.getfield 101, 3) := by decide +kernel
theorem dX12_firstSink_20 : decode cX12_firstSink 20 = .ok (.iload_n 1, 1) := by decide +kernel
theorem dX12_firstSink_21 : decode cX12_firstSink 21 = .ok (.iaload, 1) := by decide +kernel
theorem dX12_firstSink_22 : decode cX12_firstSink 22 = .ok (.iload_n 2, 1) := by decide +kernel
theorem dX12_firstSink_23 : decode cX12_firstSink 23 = .ok (.invokevirtual 249, 3) := by decide +kernel
theorem dX12_firstSink_26 : decode cX12_firstSink 26 = .ok (.aload_n 0, 1) := by decide +kernel
theorem dX12_firstSink_27 : decode cX12_firstSink 27 = .ok (.iload_n 1, 1) := by decide +kernel
theorem dX12_firstSink_28 : decode cX12_firstSink 28 = .ok (.invokevirtual 325, 3) := by decide +kernel
theorem dX12_firstSink_31 : decode cX12_firstSink 31 = .ok (.ireturn, 1) := by decide +kernel
theorem dX12_goHouse_0 : decode cX12_goHouse 0 = .ok (.aload_n 0, 1) := by decide +kernel
theorem dX12_goHouse_1 : decode cX12_goHouse 1 = .ok (.getfield 101, 3) := by decide +kernel
theorem dX12_goHouse_4 : decode cX12_goHouse 4 = .ok (.iload_n 1, 1) := by decide +kernel
theorem dX12_goHouse_5 : decode cX12_goHouse 5 = .ok (.iaload, 1) := by decide +kernel
theorem dX12_goHouse_6 : decode cX12_goHouse 6 = .ok (.istore_n 3, 1) := by decide +kernel
theorem dX12_goHouse_7 : decode cX12_goHouse 7 = .ok (.aload_n 0, 1) := by decide +kernel
theorem dX12_goHouse_8 : decode cX12_goHouse 8 = .ok (.iload_n 3, 1) := by decide +kernel
theorem dX12_goHouse_9 : decode cX12_goHouse 9 = .ok (.invokevirtual 276, 3) := by decide +kernel
theorem dX12_goHouse_12 : decode cX12_goHouse 12 = .ok (.ifCond .ne 5, 3) := by decide +kernel
theorem dX12_goHouse_15 : decode cX12_goHouse 15 = .ok (.iconst 0, 1) := by decide +kernel
theorem dX12_goHouse_16 : decode cX12_goHouse 16 = .ok (.ireturn, 1) := by decide +kernel
theorem dX12_goHouse_17 : decode cX12_goHouse 17 = .ok (.aload_n 0, 1) := by decide +kernel
theorem dX12_goHouse_18 : decode cX12_goHouse 18 = .ok (.invokevirtual 295, 3) := by decide +kernel
theorem dX12_goHouse_21 : decode cX12_goHouse 21 = .ok (.iconst 0, 1) := by decide +kernel
theorem dX12_goHouse_22 : decode cX12_goHouse 22 = .ok (.istore 4, 2) := by decide +kernel
theorem dX12_goHouse_24 : decode cX12_goHouse 24 = .ok (.iload 4, 2) := by decide +kernel
theorem dX12_goHouse_26 : decode cX12_goHouse 26 = .ok (.aload_n 0, 1) := by decide +kernel
theorem dX12_goHouse_27 : decode cX12_goHouse 27 = .ok (.iload_n 3, 1) := by decide +kernel
theorem dX12_goHouse_28 : decode cX12_goHouse 28 = .ok (.invokevirtual 266, 3) := by decide +kernel
theorem dX12_goHouse_31 : decode cX12_goHouse 31 = .ok (.if_icmp .ge 71, 3) := by decide +kernel
theorem dX12_goHouse_34 : decode cX12_goHouse 34 = .ok (.aload_n 0, 1) := by decide +kernel
theorem dX12_goHouse_35 : decode cX12_goHouse 35 = .ok (.getfield 98, 3) := by decide +kernel
theorem dX12_goHouse_38 : decode cX12_goHouse 38 = .ok (.sipush 729, 3) := by decide +kernel
theorem dX12_goHouse_41 : decode cX12_goHouse 41 = .ok (.iload_n 3, 1) := by decide +kernel
theorem dX12_goHouse_42 : decode cX12_goHouse 42 = .ok (.imul, 1) := by decide +kernel
theorem dX12_goHouse_43 : decode cX12_goHouse 43 = .ok (.iload 4, 2) := by decide +kernel
theorem dX12_goHouse_45 : decode cX12_goHouse 45 = .ok (.iadd, 1) := by decide +kernel
theorem dX12_goHouse_46 : decode cX12_goHouse 46 = .ok (.baload, 1) := by decide +kernel
theorem dX12_goHouse_47 : decode cX12_goHouse 47 = .ok (.ifCond .eq 49, 3) := by decide +kernel
theorem dX12_goHouse_50 : decode cX12_goHouse 50 = .ok (.aload_n 0, 1) := by decide +kernel
theorem dX12_goHouse_51 : decode cX12_goHouse 51 = .ok (.iload_n 3, 1) := by decide +kernel
theorem dX12_goHouse_52 : decode cX12_goHouse 52 = .ok (.iload 4, 2) := by decide +kernel
theorem dX12_goHouse_54 : decode cX12_goHouse 54 = .ok (.invokevirtual 246, 3) := by decide +kernel
theorem dX12_goHouse_57 : decode cX12_goHouse 57 = .ok (.aload_n 0, 1) := by decide +kernel
theorem dX12_goHouse_58 : decode cX12_goHouse 58 = .ok (.iload_n 3, 1) := by decide +kernel
theorem dX12_goHouse_59 : decode cX12_goHouse 59 = .ok (.iload_n 2, 1) := by decide +kernel
theorem dX12_goHouse_60 : decode cX12_goHouse 60 = .ok (.invokevirtual 249, 3) := by decide +kernel
theorem dX12_goHouse_63 : decode cX12_goHouse 63 = .ok (.aload_n 0, 1) := by decide +kernel
theorem dX12_goHouse_64 : decode cX12_goHouse 64 = .ok (.aload_n 0, 1) := by decide +kernel
theorem dX12_goHouse_65 : decode cX12_goHouse 65 = .ok (.iload_n 1, 1) := by decide +kernel
theorem dX12_goHouse_66 : decode cX12_goHouse 66 = .ok (.invokevirtual 325, 3) := by decide +kernel
theorem dX12_goHouse_69 : decode cX12_goHouse 69 = .ok (.aload_n 0, 1) := by decide +kernel
theorem dX12_goHouse_70 : decode cX12_goHouse 70 = .ok (.getfield 43, 3) := by decide +kernel
theorem dX12_goHouse_73 : decode cX12_goHouse 73 = .ok (.bipush 23, 2) := by decide +kernel
theorem dX12_goHouse_75 : decode cX12_goHouse 75 = .ok (.iaload, 1) := by decide +kernel
theorem dX12_goHouse_76 : decode cX12_goHouse 76 = .ok (.if_icmp .lt 7, 3) := by decide +kernel
theorem dX12_goHouse_79 : decode cX12_goHouse 79 = .ok (.iconst 1, 1) := by decide +kernel
theorem dX12_goHouse_80 : decode cX12_goHouse 80 = .ok (.goto 4, 3) := by decide +kernel
theorem dX12_goHouse_83 : decode cX12_goHouse 83 = .ok (.iconst 0, 1) := by decide +kernel
theorem dX12_goHouse_84 : decode cX12_goHouse 84 = .ok (.invokevirtual 298, 3) := by decide +kernel
theorem dX12_goHouse_87 : decode cX12_goHouse 87 = .ok (.aload_n 0, 1) := by decide +kernel
theorem dX12_goHouse_88 : decode cX12_goHouse 88 = .ok (.aload_n 0, 1) := by decide +kernel
theorem dX12_goHouse_89 : decode cX12_goHouse 89 = .ok (.iload_n 1, 1) := by decide +kernel
theorem dX12_goHouse_90 : decode cX12_goHouse 90 = .ok (.invokevirtual 325, 3) := by decide +kernel
theorem dX12_goHouse_93 : decode cX12_goHouse 93 = .ok (.invokevirtual 302, 3) := by decide +kernel
theorem dX12_goHouse_96 : decode cX12_goHouse 96 = .ok (.iinc 4 1, 3) := by decide +kernel
theorem dX12_goHouse_99 : decode cX12_goHouse 99 = .ok (.goto (-75), 3) := by decide +kernel
theorem dX12_goHouse_102 : decode cX12_goHouse 102 = .ok (.iconst 1, 1) := by decide +kernel
theorem dX12_goHouse_103 : decode cX12_goHouse 103 = .ok (.ireturn, 1) := by decide +kernel
theorem dX12_sink_0 : decode cX12_sink 0 = .ok (.aload_n 0, 1) := by decide +kernel
theorem dX12_sink_1 : decode cX12_sink 1 = .ok (.iload_n 1, 1) := by decide +kernel
theorem dX12_sink_2 : decode cX12_sink 2 = .ok (.invokevirtual 328, 3) := by decide +kernel
theorem dX12_sink_5 : decode cX12_sink 5 = .ok (.ifCond .eq 11, 3) := by decide +kernel
theorem dX12_sink_8 : decode cX12_sink 8 = .ok (.aload_n 0, 1) := by decide +kernel
theorem dX12_sink_9 : decode cX12_sink 9 = .ok (.iload_n 2, 1) := by decide +kernel
theorem dX12_sink_10 : decode cX12_sink 10 = .ok (.invokevirtual 207, 3) := by decide +kernel
theorem dX12_sink_13 : decode cX12_sink 13 = .ok (.ifCond .ne 7, 3) := by decide +kernel
theorem dX12_sink_16 : decode cX12_sink 16 = .ok (.sipush (-1001), 3) := by decide +kernel
theorem dX12_sink_19 : decode cX12_sink 19 = .ok (.ireturn, 1) := by decide +kernel
theorem dX12_sink_20 : decode cX12_sink 20 = .ok (.iload_n 3, 1) := by decide +kernel
theorem dX12_sink_21 : decode cX12_sink 21 = .ok (.i2l, 1) := by decide +kernel
theorem dX12_sink_22 : decode cX12_sink 22 = .ok (.lconst 0, 1) := by decide +kernel
theorem dX12_sink_23 : decode cX12_sink 23 = .ok (.ldc2_w 252, 3) := by decide +kernel
theorem dX12_sink_26 : decode cX12_sink 26 = .ok (.invokestatic 165, 3) := by decide +kernel
theorem dX12_sink_29 : decode cX12_sink 29 = .ok (.ifCond .ne 7, 3) := by decide +kernel
theorem dX12_sink_32 : decode cX12_sink 32 = .ok (.sipush (-1002), 3) := by decide +kernel
theorem dX12_sink_35 : decode cX12_sink 35 = .ok (.ireturn, 1) := by decide +kernel
theorem dX12_sink_36 : decode cX12_sink 36 = .ok (.iload_n 3, 1) := by decide +kernel
theorem dX12_sink_37 : decode cX12_sink 37 = .ok (.iconst 2, 1) := by decide +kernel
theorem dX12_sink_38 : decode cX12_sink 38 = .ok (.if_icmp .ne 10, 3) := by decide +kernel
theorem dX12_sink_41 : decode cX12_sink 41 = .ok (.aload_n 0, 1) := by decide +kernel
theorem dX12_sink_42 : decode cX12_sink 42 = .ok (.iload_n 1, 1) := by decide +kernel
theorem dX12_sink_43 : decode cX12_sink 43 = .ok (.iload_n 2, 1) := by decide +kernel
theorem dX12_sink_44 : decode cX12_sink 44 = .ok (.invokevirtual 331, 3) := by decide +kernel
theorem dX12_sink_47 : decode cX12_sink 47 = .ok (.ireturn, 1) := by decide +kernel
theorem dX12_sink_48 : decode cX12_sink 48 = .ok (.aload_n 0, 1) := by decide +kernel
theorem dX12_sink_49 : decode cX12_sink 49 = .ok (.iload_n 1, 1) := by decide +kernel
theorem dX12_sink_50 : decode cX12_sink 50 = .ok (.iload_n 2, 1) := by decide +kernel
theorem dX12_sink_51 : decode cX12_sink 51 = .ok (.invokevirtual 334, 3) := by decide +kernel
theorem dX12_sink_54 : decode cX12_sink 54 = .ok (.ifCond .ne 9, 3) := by decide +kernel
theorem dX12_sink_57 : decode cX12_sink 57 = .ok (.sipush (-1005), 3) := by decide +kernel
theorem dX12_sink_60 : decode cX12_sink 60 = .ok (.goto 18, 3) := by decide +kernel
theorem dX12_sink_63 : decode cX12_sink 63 = .ok (.iload_n 3, 1) := by decide +kernel
theorem dX12_sink_64 : decode cX12_sink 64 = .ok (.ifCond .ne 10, 3) := by decide +kernel
theorem dX12_sink_67 : decode cX12_sink 67 = .ok (.aload_n 0, 1) := by decide +kernel
theorem dX12_sink_68 : decode cX12_sink 68 = .ok (.getfield 285, 3) := by decide +kernel
theorem dX12_sink_71 : decode cX12_sink 71 = .ok (.goto 7, 3) := by decide +kernel
theorem dX12_sink_74 : decode cX12_sink 74 = .ok (.aload_n 0, 1) := by decide +kernel
theorem dX12_sink_75 : decode cX12_sink 75 = .ok (.getfield 288, 3) := by decide +kernel
theorem dX12_sink_78 : decode cX12_sink 78 = .ok (.ireturn, 1) := by decide +kernel
theorem dX12_sunk_0 : decode cX12_sunk 0 = .ok (.aload_n 0, 1) := by decide +kernel
theorem dX12_sunk_1 : decode cX12_sunk 1 = .ok (.iload_n 1, 1) := by decide +kernel
theorem dX12_sunk_2 : decode cX12_sunk 2 = .ok (.invokevirtual 328, 3) := by decide +kernel
theorem dX12_sunk_5 : decode cX12_sunk 5 = .ok (.ifCond .eq 11, 3) := by decide +kernel
theorem dX12_sunk_8 : decode cX12_sunk 8 = .ok (.aload_n 0, 1) := by decide +kernel
theorem dX12_sunk_9 : decode cX12_sunk 9 = .ok (.iload_n 2, 1) := by decide +kernel
theorem dX12_sunk_10 : decode cX12_sunk 10 = .ok (.invokevirtual 207, 3) := by decide +kernel
theorem dX12_sunk_13 : decode cX12_sunk 13 = .ok (.ifCond .ne 7, 3) := by decide +kernel
theorem dX12_sunk_16 : decode cX12_sunk 16 = .ok (.ldc2_w 306, 3) := by decide +kernel
theorem dX12_sunk_19 : decode cX12_sunk 19 = .ok (.lreturn, 1) := by decide +kernel
theorem dX12_sunk_20 : decode cX12_sunk 20 = .ok (.iload_n 3, 1) := by decide +kernel
theorem dX12_sunk_21 : decode cX12_sunk 21 = .ok (.i2l, 1) := by decide +kernel
theorem dX12_sunk_22 : decode cX12_sunk 22 = .ok (.lconst 0, 1) := by decide +kernel
theorem dX12_sunk_23 : decode cX12_sunk 23 = .ok (.lconst 1, 1) := by decide +kernel
theorem dX12_sunk_24 : decode cX12_sunk 24 = .ok (.invokestatic 165, 3) := by decide +kernel
theorem dX12_sunk_27 : decode cX12_sunk 27 = .ok (.ifCond .ne 7, 3) := by decide +kernel
theorem dX12_sunk_30 : decode cX12_sunk 30 = .ok (.ldc2_w 308, 3) := by decide +kernel
theorem dX12_sunk_33 : decode cX12_sunk 33 = .ok (.lreturn, 1) := by decide +kernel
theorem dX12_sunk_34 : decode cX12_sunk 34 = .ok (.aload_n 0, 1) := by decide +kernel
theorem dX12_sunk_35 : decode cX12_sunk 35 = .ok (.iload_n 1, 1) := by decide +kernel
theorem dX12_sunk_36 : decode cX12_sunk 36 = .ok (.iload_n 2, 1) := by decide +kernel
theorem dX12_sunk_37 : decode cX12_sunk 37 = .ok (.invokevirtual 334, 3) := by decide +kernel
theorem dX12_sunk_40 : decode cX12_sunk 40 = .ok (.ifCond .eq 11, 3) := by decide +kernel
theorem dX12_sunk_43 : decode cX12_sunk 43 = .ok (.aload_n 0, 1) := by decide +kernel
theorem dX12_sunk_44 : decode cX12_sunk 44 = .ok (.iload_n 3, 1) := by decide +kernel
theorem dX12_sunk_45 : decode cX12_sunk 45 = .ok (.invokevirtual 314, 3) := by decide +kernel
theorem dX12_sunk_48 : decode cX12_sunk 48 = .ok (.goto 6, 3) := by decide +kernel
theorem dX12_sunk_51 : decode cX12_sunk 51 = .ok (.ldc2_w 318, 3) := by decide +kernel
theorem dX12_sunk_54 : decode cX12_sunk 54 = .ok (.lreturn, 1) := by decide +kernel
theorem dX12_led_0 : decode cX12_led 0 = .ok (.aload_n 0, 1) := by decide +kernel
theorem dX12_led_1 : decode cX12_led 1 = .ok (.iload_n 1, 1) := by decide +kernel
theorem dX12_led_2 : decode cX12_led 2 = .ok (.invokevirtual 328, 3) := by decide +kernel
theorem dX12_led_5 : decode cX12_led 5 = .ok (.ifCond .eq 11, 3) := by decide +kernel
theorem dX12_led_8 : decode cX12_led 8 = .ok (.aload_n 0, 1) := by decide +kernel
theorem dX12_led_9 : decode cX12_led 9 = .ok (.iload_n 2, 1) := by decide +kernel
theorem dX12_led_10 : decode cX12_led 10 = .ok (.invokevirtual 207, 3) := by decide +kernel
theorem dX12_led_13 : decode cX12_led 13 = .ok (.ifCond .ne 7, 3) := by decide +kernel
theorem dX12_led_16 : decode cX12_led 16 = .ok (.sipush (-1001), 3) := by decide +kernel
theorem dX12_led_19 : decode cX12_led 19 = .ok (.ireturn, 1) := by decide +kernel
theorem dX12_led_20 : decode cX12_led 20 = .ok (.iload_n 3, 1) := by decide +kernel
theorem dX12_led_21 : decode cX12_led 21 = .ok (.i2l, 1) := by decide +kernel
theorem dX12_led_22 : decode cX12_led 22 = .ok (.lconst 0, 1) := by decide +kernel
theorem dX12_led_23 : decode cX12_led 23 = .ok (.lconst 1, 1) := by decide +kernel
theorem dX12_led_24 : decode cX12_led 24 = .ok (.invokestatic 165, 3) := by decide +kernel
theorem dX12_led_27 : decode cX12_led 27 = .ok (.ifCond .ne 7, 3) := by decide +kernel
theorem dX12_led_30 : decode cX12_led 30 = .ok (.sipush (-1002), 3) := by decide +kernel
theorem dX12_led_33 : decode cX12_led 33 = .ok (.ireturn, 1) := by decide +kernel
theorem dX12_led_34 : decode cX12_led 34 = .ok (.aload_n 0, 1) := by decide +kernel
theorem dX12_led_35 : decode cX12_led 35 = .ok (.iload_n 1, 1) := by decide +kernel
theorem dX12_led_36 : decode cX12_led 36 = .ok (.iload_n 2, 1) := by decide +kernel
theorem dX12_led_37 : decode cX12_led 37 = .ok (.invokevirtual 331, 3) := by decide +kernel
theorem dX12_led_40 : decode cX12_led 40 = .ok (.aload_n 0, 1) := by decide +kernel
theorem dX12_led_41 : decode cX12_led 41 = .ok (.getfield 43, 3) := by decide +kernel
theorem dX12_led_44 : decode cX12_led 44 = .ok (.bipush 23, 2) := by decide +kernel
theorem dX12_led_46 : decode cX12_led 46 = .ok (.iaload, 1) := by decide +kernel
theorem dX12_led_47 : decode cX12_led 47 = .ok (.if_icmp .ge 7, 3) := by decide +kernel
theorem dX12_led_50 : decode cX12_led 50 = .ok (.sipush (-1003), 3) := by decide +kernel
theorem dX12_led_53 : decode cX12_led 53 = .ok (.ireturn, 1) := by decide +kernel
theorem dX12_led_54 : decode cX12_led 54 = .ok (.iconst 0, 1) := by decide +kernel
theorem dX12_led_55 : decode cX12_led 55 = .ok (.istore 4, 2) := by decide +kernel
theorem dX12_led_57 : decode cX12_led 57 = .ok (.iconst 0, 1) := by decide +kernel
theorem dX12_led_58 : decode cX12_led 58 = .ok (.istore 5, 2) := by decide +kernel
theorem dX12_led_60 : decode cX12_led 60 = .ok (.iload 5, 2) := by decide +kernel
theorem dX12_led_62 : decode cX12_led 62 = .ok (.aload_n 0, 1) := by decide +kernel
theorem dX12_led_63 : decode cX12_led 63 = .ok (.getfield 16, 3) := by decide +kernel
theorem dX12_led_66 : decode cX12_led 66 = .ok (.aload_n 0, 1) := by decide +kernel
theorem dX12_led_67 : decode cX12_led 67 = .ok (.getfield 101, 3) := by decide +kernel
theorem dX12_led_70 : decode cX12_led 70 = .ok (.iload_n 1, 1) := by decide +kernel
theorem dX12_led_71 : decode cX12_led 71 = .ok (.iaload, 1) := by decide +kernel
theorem dX12_led_72 : decode cX12_led 72 = .ok (.iaload, 1) := by decide +kernel
theorem dX12_led_73 : decode cX12_led 73 = .ok (.if_icmp .ge 35, 3) := by decide +kernel
theorem dX12_led_76 : decode cX12_led 76 = .ok (.aload_n 0, 1) := by decide +kernel
theorem dX12_led_77 : decode cX12_led 77 = .ok (.iload_n 1, 1) := by decide +kernel
theorem dX12_led_78 : decode cX12_led 78 = .ok (.iload 5, 2) := by decide +kernel
theorem dX12_led_80 : decode cX12_led 80 = .ok (.invokevirtual 322, 3) := by decide +kernel
theorem dX12_led_83 : decode cX12_led 83 = .ok (.aload_n 0, 1) := by decide +kernel
theorem dX12_led_84 : decode cX12_led 84 = .ok (.iload_n 1, 1) := by decide +kernel
theorem dX12_led_85 : decode cX12_led 85 = .ok (.iload 4, 2) := by decide +kernel
theorem dX12_led_87 : decode cX12_led 87 = .ok (.invokevirtual 322, 3) := by decide +kernel
theorem dX12_led_90 : decode cX12_led 90 = .ok (.if_icmp .le 8, 3) := by decide +kernel
theorem dX12_led_93 : decode cX12_led 93 = .ok (.iload 5, 2) := by decide +kernel
theorem dX12_led_95 : decode cX12_led 95 = .ok (.goto 5, 3) := by decide +kernel
theorem dX12_led_98 : decode cX12_led 98 = .ok (.iload 4, 2) := by decide +kernel
theorem dX12_led_100 : decode cX12_led 100 = .ok (.istore 4, 2) := by decide +kernel
theorem dX12_led_102 : decode cX12_led 102 = .ok (.iinc 5 1, 3) := by decide +kernel
theorem dX12_led_105 : decode cX12_led 105 = .ok (.goto (-45), 3) := by decide +kernel
theorem dX12_led_108 : decode cX12_led 108 = .ok (.iload_n 3, 1) := by decide +kernel
theorem dX12_led_109 : decode cX12_led 109 = .ok (.ifCond .ne 8, 3) := by decide +kernel
theorem dX12_led_112 : decode cX12_led 112 = .ok (.iload 4, 2) := by decide +kernel
theorem dX12_led_114 : decode cX12_led 114 = .ok (.goto 10, 3) := by decide +kernel
theorem dX12_led_117 : decode cX12_led 117 = .ok (.aload_n 0, 1) := by decide +kernel
theorem dX12_led_118 : decode cX12_led 118 = .ok (.getfield 62, 3) := by decide +kernel
theorem dX12_led_121 : decode cX12_led 121 = .ok (.iload 4, 2) := by decide +kernel
theorem dX12_led_123 : decode cX12_led 123 = .ok (.iaload, 1) := by decide +kernel
theorem dX12_led_124 : decode cX12_led 124 = .ok (.ireturn, 1) := by decide +kernel
theorem dX12_lean_0 : decode cX12_lean 0 = .ok (.aload_n 0, 1) := by decide +kernel
theorem dX12_lean_1 : decode cX12_lean 1 = .ok (.iload_n 1, 1) := by decide +kernel
theorem dX12_lean_2 : decode cX12_lean 2 = .ok (.invokevirtual 328, 3) := by decide +kernel
theorem dX12_lean_5 : decode cX12_lean 5 = .ok (.ifCond .eq 19, 3) := by decide +kernel
theorem dX12_lean_8 : decode cX12_lean 8 = .ok (.aload_n 0, 1) := by decide +kernel
theorem dX12_lean_9 : decode cX12_lean 9 = .ok (.iload_n 2, 1) := by decide +kernel
theorem dX12_lean_10 : decode cX12_lean 10 = .ok (.invokevirtual 328, 3) := by decide +kernel
theorem dX12_lean_13 : decode cX12_lean 13 = .ok (.ifCond .eq 11, 3) := by decide +kernel
theorem dX12_lean_16 : decode cX12_lean 16 = .ok (.aload_n 0, 1) := by decide +kernel
theorem dX12_lean_17 : decode cX12_lean 17 = .ok (.iload_n 3, 1) := by decide +kernel
theorem dX12_lean_18 : decode cX12_lean 18 = .ok (.invokevirtual 207, 3) := by decide +kernel
theorem dX12_lean_21 : decode cX12_lean 21 = .ok (.ifCond .ne 7, 3) := by decide +kernel
theorem dX12_lean_24 : decode cX12_lean 24 = .ok (.sipush (-1001), 3) := by decide +kernel
theorem dX12_lean_27 : decode cX12_lean 27 = .ok (.ireturn, 1) := by decide +kernel
theorem dX12_lean_28 : decode cX12_lean 28 = .ok (.aload_n 0, 1) := by decide +kernel
theorem dX12_lean_29 : decode cX12_lean 29 = .ok (.iload_n 1, 1) := by decide +kernel
theorem dX12_lean_30 : decode cX12_lean 30 = .ok (.iload_n 3, 1) := by decide +kernel
theorem dX12_lean_31 : decode cX12_lean 31 = .ok (.invokevirtual 331, 3) := by decide +kernel
theorem dX12_lean_34 : decode cX12_lean 34 = .ok (.aload_n 0, 1) := by decide +kernel
theorem dX12_lean_35 : decode cX12_lean 35 = .ok (.iload_n 2, 1) := by decide +kernel
theorem dX12_lean_36 : decode cX12_lean 36 = .ok (.iload_n 3, 1) := by decide +kernel
theorem dX12_lean_37 : decode cX12_lean 37 = .ok (.invokevirtual 331, 3) := by decide +kernel
theorem dX12_lean_40 : decode cX12_lean 40 = .ok (.isub, 1) := by decide +kernel
theorem dX12_lean_41 : decode cX12_lean 41 = .ok (.istore 4, 2) := by decide +kernel
theorem dX12_lean_43 : decode cX12_lean 43 = .ok (.iload 4, 2) := by decide +kernel
theorem dX12_lean_45 : decode cX12_lean 45 = .ok (.ifCond .ge 9, 3) := by decide +kernel
theorem dX12_lean_48 : decode cX12_lean 48 = .ok (.iload 4, 2) := by decide +kernel
theorem dX12_lean_50 : decode cX12_lean 50 = .ok (.ineg, 1) := by decide +kernel
theorem dX12_lean_51 : decode cX12_lean 51 = .ok (.goto 5, 3) := by decide +kernel
theorem dX12_lean_54 : decode cX12_lean 54 = .ok (.iload 4, 2) := by decide +kernel
theorem dX12_lean_56 : decode cX12_lean 56 = .ok (.ireturn, 1) := by decide +kernel
theorem dX12_tank_0 : decode cX12_tank 0 = .ok (.aload_n 0, 1) := by decide +kernel
theorem dX12_tank_1 : decode cX12_tank 1 = .ok (.iload_n 1, 1) := by decide +kernel
theorem dX12_tank_2 : decode cX12_tank 2 = .ok (.iload_n 2, 1) := by decide +kernel
theorem dX12_tank_3 : decode cX12_tank 3 = .ok (.invokevirtual 186, 3) := by decide +kernel
theorem dX12_tank_6 : decode cX12_tank 6 = .ok (.ifCond .ne 7, 3) := by decide +kernel
theorem dX12_tank_9 : decode cX12_tank 9 = .ok (.sipush (-1001), 3) := by decide +kernel
theorem dX12_tank_12 : decode cX12_tank 12 = .ok (.ireturn, 1) := by decide +kernel
theorem dX12_tank_13 : decode cX12_tank 13 = .ok (.iload_n 3, 1) := by decide +kernel
theorem dX12_tank_14 : decode cX12_tank 14 = .ok (.i2l, 1) := by decide +kernel
theorem dX12_tank_15 : decode cX12_tank 15 = .ok (.lconst 1, 1) := by decide +kernel
theorem dX12_tank_16 : decode cX12_tank 16 = .ok (.ldc2_w 176, 3) := by decide +kernel
theorem dX12_tank_19 : decode cX12_tank 19 = .ok (.invokestatic 165, 3) := by decide +kernel
theorem dX12_tank_22 : decode cX12_tank 22 = .ok (.ifCond .eq 16, 3) := by decide +kernel
theorem dX12_tank_25 : decode cX12_tank 25 = .ok (.iload 4, 2) := by decide +kernel
theorem dX12_tank_27 : decode cX12_tank 27 = .ok (.i2l, 1) := by decide +kernel
theorem dX12_tank_28 : decode cX12_tank 28 = .ok (.lconst 1, 1) := by decide +kernel
theorem dX12_tank_29 : decode cX12_tank 29 = .ok (.ldc2_w 337, 3) := by decide +kernel
theorem dX12_tank_32 : decode cX12_tank 32 = .ok (.invokestatic 165, 3) := by decide +kernel
theorem dX12_tank_35 : decode cX12_tank 35 = .ok (.ifCond .ne 7, 3) := by decide +kernel
theorem dX12_tank_38 : decode cX12_tank 38 = .ok (.sipush (-1002), 3) := by decide +kernel
theorem dX12_tank_41 : decode cX12_tank 41 = .ok (.ireturn, 1) := by decide +kernel
theorem dX12_tank_42 : decode cX12_tank 42 = .ok (.aload_n 0, 1) := by decide +kernel
theorem dX12_tank_43 : decode cX12_tank 43 = .ok (.getfield 216, 3) := by decide +kernel
theorem dX12_tank_46 : decode cX12_tank 46 = .ok (.bipush 8, 2) := by decide +kernel
theorem dX12_tank_48 : decode cX12_tank 48 = .ok (.if_icmp .ne 7, 3) := by decide +kernel
theorem dX12_tank_51 : decode cX12_tank 51 = .ok (.sipush (-1004), 3) := by decide +kernel
theorem dX12_tank_54 : decode cX12_tank 54 = .ok (.ireturn, 1) := by decide +kernel
theorem dX12_tank_55 : decode cX12_tank 55 = .ok (.aload_n 0, 1) := by decide +kernel
theorem dX12_tank_56 : decode cX12_tank 56 = .ok (.getfield 110, 3) := by decide +kernel
theorem dX12_tank_59 : decode cX12_tank 59 = .ok (.aload_n 0, 1) := by decide +kernel
theorem dX12_tank_60 : decode cX12_tank 60 = .ok (.getfield 216, 3) := by decide +kernel
theorem dX12_tank_63 : decode cX12_tank 63 = .ok (.iload_n 1, 1) := by decide +kernel
theorem dX12_tank_64 : decode cX12_tank 64 = .ok (.iastore, 1) := by decide +kernel
theorem dX12_tank_65 : decode cX12_tank 65 = .ok (.aload_n 0, 1) := by decide +kernel
theorem dX12_tank_66 : decode cX12_tank 66 = .ok (.getfield 113, 3) := by decide +kernel
theorem dX12_tank_69 : decode cX12_tank 69 = .ok (.aload_n 0, 1) := by decide +kernel
theorem dX12_tank_70 : decode cX12_tank 70 = .ok (.getfield 216, 3) := by decide +kernel
theorem dX12_tank_73 : decode cX12_tank 73 = .ok (.iload_n 2, 1) := by decide +kernel
theorem dX12_tank_74 : decode cX12_tank 74 = .ok (.iastore, 1) := by decide +kernel
theorem dX12_tank_75 : decode cX12_tank 75 = .ok (.aload_n 0, 1) := by decide +kernel
theorem dX12_tank_76 : decode cX12_tank 76 = .ok (.getfield 116, 3) := by decide +kernel
theorem dX12_tank_79 : decode cX12_tank 79 = .ok (.aload_n 0, 1) := by decide +kernel
theorem dX12_tank_80 : decode cX12_tank 80 = .ok (.getfield 216, 3) := by decide +kernel
theorem dX12_tank_83 : decode cX12_tank 83 = .ok (.iload_n 3, 1) := by decide +kernel
theorem dX12_tank_84 : decode cX12_tank 84 = .ok (.iastore, 1) := by decide +kernel
theorem dX12_tank_85 : decode cX12_tank 85 = .ok (.aload_n 0, 1) := by decide +kernel
theorem dX12_tank_86 : decode cX12_tank 86 = .ok (.getfield 119, 3) := by decide +kernel
theorem dX12_tank_89 : decode cX12_tank 89 = .ok (.aload_n 0, 1) := by decide +kernel
theorem dX12_tank_90 : decode cX12_tank 90 = .ok (.getfield 216, 3) := by decide +kernel
theorem dX12_tank_93 : decode cX12_tank 93 = .ok (.iload 4, 2) := by decide +kernel
theorem dX12_tank_95 : decode cX12_tank 95 = .ok (.iastore, 1) := by decide +kernel
theorem dX12_tank_96 : decode cX12_tank 96 = .ok (.aload_n 0, 1) := by decide +kernel
theorem dX12_tank_97 : decode cX12_tank 97 = .ok (.dup, 1) := by decide +kernel
theorem dX12_tank_98 : decode cX12_tank 98 = .ok (.getfield 216, 3) := by decide +kernel
theorem dX12_tank_101 : decode cX12_tank 101 = .ok (.iconst 1, 1) := by decide +kernel
theorem dX12_tank_102 : decode cX12_tank 102 = .ok (.iadd, 1) := by decide +kernel
theorem dX12_tank_103 : decode cX12_tank 103 = .ok (.putfield 216, 3) := by decide +kernel
theorem dX12_tank_106 : decode cX12_tank 106 = .ok (.aload_n 0, 1) := by decide +kernel
theorem dX12_tank_107 : decode cX12_tank 107 = .ok (.getfield 216, 3) := by decide +kernel
theorem dX12_tank_110 : decode cX12_tank 110 = .ok (.iconst 1, 1) := by decide +kernel
theorem dX12_tank_111 : decode cX12_tank 111 = .ok (.isub, 1) := by decide +kernel
theorem dX12_tank_112 : decode cX12_tank 112 = .ok (.ireturn, 1) := by decide +kernel
theorem dX12_floats_0 : decode cX12_floats 0 = .ok (.iload_n 1, 1) := by decide +kernel
theorem dX12_floats_1 : decode cX12_floats 1 = .ok (.i2l, 1) := by decide +kernel
theorem dX12_floats_2 : decode cX12_floats 2 = .ok (.lconst 0, 1) := by decide +kernel
theorem dX12_floats_3 : decode cX12_floats 3 = .ok (.aload_n 0, 1) := by decide +kernel
theorem dX12_floats_4 : decode cX12_floats 4 = .ok (.getfield 216, 3) := by decide +kernel
theorem dX12_floats_7 : decode cX12_floats 7 = .ok (.iconst 1, 1) := by decide +kernel
theorem dX12_floats_8 : decode cX12_floats 8 = .ok (.isub, 1) := by decide +kernel
theorem dX12_floats_9 : decode cX12_floats 9 = .ok (.i2l, 1) := by decide +kernel
theorem dX12_floats_10 : decode cX12_floats 10 = .ok (.invokestatic 165, 3) := by decide +kernel
theorem dX12_floats_13 : decode cX12_floats 13 = .ok (.ifCond .eq 11, 3) := by decide +kernel
theorem dX12_floats_16 : decode cX12_floats 16 = .ok (.aload_n 0, 1) := by decide +kernel
theorem dX12_floats_17 : decode cX12_floats 17 = .ok (.iload_n 2, 1) := by decide +kernel
theorem dX12_floats_18 : decode cX12_floats 18 = .ok (.invokevirtual 207, 3) := by decide +kernel
theorem dX12_floats_21 : decode cX12_floats 21 = .ok (.ifCond .ne 7, 3) := by decide +kernel
theorem dX12_floats_24 : decode cX12_floats 24 = .ok (.sipush (-1001), 3) := by decide +kernel
theorem dX12_floats_27 : decode cX12_floats 27 = .ok (.ireturn, 1) := by decide +kernel
theorem dX12_floats_28 : decode cX12_floats 28 = .ok (.aload_n 0, 1) := by decide +kernel
theorem dX12_floats_29 : decode cX12_floats 29 = .ok (.aload_n 0, 1) := by decide +kernel
theorem dX12_floats_30 : decode cX12_floats 30 = .ok (.getfield 110, 3) := by decide +kernel
theorem dX12_floats_33 : decode cX12_floats 33 = .ok (.iload_n 1, 1) := by decide +kernel
theorem dX12_floats_34 : decode cX12_floats 34 = .ok (.iaload, 1) := by decide +kernel
theorem dX12_floats_35 : decode cX12_floats 35 = .ok (.iload_n 2, 1) := by decide +kernel
theorem dX12_floats_36 : decode cX12_floats 36 = .ok (.aload_n 0, 1) := by decide +kernel
theorem dX12_floats_37 : decode cX12_floats 37 = .ok (.getfield 113, 3) := by decide +kernel
theorem dX12_floats_40 : decode cX12_floats 40 = .ok (.iload_n 1, 1) := by decide +kernel
theorem dX12_floats_41 : decode cX12_floats 41 = .ok (.iaload, 1) := by decide +kernel
theorem dX12_floats_42 : decode cX12_floats 42 = .ok (.invokevirtual 310, 3) := by decide +kernel
theorem dX12_floats_45 : decode cX12_floats 45 = .ok (.ifCond .ne 7, 3) := by decide +kernel
theorem dX12_floats_48 : decode cX12_floats 48 = .ok (.sipush (-1005), 3) := by decide +kernel
theorem dX12_floats_51 : decode cX12_floats 51 = .ok (.ireturn, 1) := by decide +kernel
theorem dX12_floats_52 : decode cX12_floats 52 = .ok (.aload_n 0, 1) := by decide +kernel
theorem dX12_floats_53 : decode cX12_floats 53 = .ok (.getfield 116, 3) := by decide +kernel
theorem dX12_floats_56 : decode cX12_floats 56 = .ok (.iload_n 1, 1) := by decide +kernel
theorem dX12_floats_57 : decode cX12_floats 57 = .ok (.iaload, 1) := by decide +kernel
theorem dX12_floats_58 : decode cX12_floats 58 = .ok (.aload_n 0, 1) := by decide +kernel
theorem dX12_floats_59 : decode cX12_floats 59 = .ok (.getfield 119, 3) := by decide +kernel
theorem dX12_floats_62 : decode cX12_floats 62 = .ok (.iload_n 1, 1) := by decide +kernel
theorem dX12_floats_63 : decode cX12_floats 63 = .ok (.iaload, 1) := by decide +kernel
theorem dX12_floats_64 : decode cX12_floats 64 = .ok (.aload_n 0, 1) := by decide +kernel
theorem dX12_floats_65 : decode cX12_floats 65 = .ok (.getfield 43, 3) := by decide +kernel
theorem dX12_floats_68 : decode cX12_floats 68 = .ok (.bipush 20, 2) := by decide +kernel
theorem dX12_floats_70 : decode cX12_floats 70 = .ok (.iaload, 1) := by decide +kernel
theorem dX12_floats_71 : decode cX12_floats 71 = .ok (.imul, 1) := by decide +kernel
theorem dX12_floats_72 : decode cX12_floats 72 = .ok (.if_icmp .ge 7, 3) := by decide +kernel
theorem dX12_floats_75 : decode cX12_floats 75 = .ok (.iconst 1, 1) := by decide +kernel
theorem dX12_floats_76 : decode cX12_floats 76 = .ok (.goto 4, 3) := by decide +kernel
theorem dX12_floats_79 : decode cX12_floats 79 = .ok (.iconst 0, 1) := by decide +kernel
theorem dX12_floats_80 : decode cX12_floats 80 = .ok (.istore_n 3, 1) := by decide +kernel
theorem dX12_floats_81 : decode cX12_floats 81 = .ok (.iload_n 3, 1) := by decide +kernel
theorem dX12_floats_82 : decode cX12_floats 82 = .ok (.ifCond .eq 12, 3) := by decide +kernel
theorem dX12_floats_85 : decode cX12_floats 85 = .ok (.aload_n 0, 1) := by decide +kernel
theorem dX12_floats_86 : decode cX12_floats 86 = .ok (.getfield 279, 3) := by decide +kernel
theorem dX12_floats_89 : decode cX12_floats 89 = .ok (.lconst 0, 1) := by decide +kernel
theorem dX12_floats_90 : decode cX12_floats 90 = .ok (.lcmp, 1) := by decide +kernel
theorem dX12_floats_91 : decode cX12_floats 91 = .ok (.ifCond .ne 7, 3) := by decide +kernel
theorem dX12_floats_94 : decode cX12_floats 94 = .ok (.iconst 0, 1) := by decide +kernel
theorem dX12_floats_95 : decode cX12_floats 95 = .ok (.goto 20, 3) := by decide +kernel
theorem dX12_floats_98 : decode cX12_floats 98 = .ok (.aload_n 0, 1) := by decide +kernel
theorem dX12_floats_99 : decode cX12_floats 99 = .ok (.getfield 279, 3) := by decide +kernel
theorem dX12_floats_102 : decode cX12_floats 102 = .ok (.aload_n 0, 1) := by decide +kernel
theorem dX12_floats_103 : decode cX12_floats 103 = .ok (.getfield 282, 3) := by decide +kernel
theorem dX12_floats_106 : decode cX12_floats 106 = .ok (.lcmp, 1) := by decide +kernel
theorem dX12_floats_107 : decode cX12_floats 107 = .ok (.ifCond .ge 7, 3) := by decide +kernel
theorem dX12_floats_110 : decode cX12_floats 110 = .ok (.iconst 1, 1) := by decide +kernel
theorem dX12_floats_111 : decode cX12_floats 111 = .ok (.goto 4, 3) := by decide +kernel
theorem dX12_floats_114 : decode cX12_floats 114 = .ok (.iconst 2, 1) := by decide +kernel
theorem dX12_floats_115 : decode cX12_floats 115 = .ok (.ireturn, 1) := by decide +kernel
theorem dX12_layerAt_0 : decode cX12_layerAt 0 = .ok (.iconst 0, 1) := by decide +kernel
theorem dX12_layerAt_1 : decode cX12_layerAt 1 = .ok (.istore_n 3, 1) := by decide +kernel
theorem dX12_layerAt_2 : decode cX12_layerAt 2 = .ok (.iload_n 3, 1) := by decide +kernel
theorem dX12_layerAt_3 : decode cX12_layerAt 3 = .ok (.aload_n 0, 1) := by decide +kernel
theorem dX12_layerAt_4 : decode cX12_layerAt 4 = .ok (.getfield 16, 3) := by decide +kernel
theorem dX12_layerAt_7 : decode cX12_layerAt 7 = .ok (.iload_n 1, 1) := by decide +kernel
theorem dX12_layerAt_8 : decode cX12_layerAt 8 = .ok (.iaload, 1) := by decide +kernel
theorem dX12_layerAt_9 : decode cX12_layerAt 9 = .ok (.if_icmp .ge 50, 3) := by decide +kernel
theorem dX12_layerAt_12 : decode cX12_layerAt 12 = .ok (.aload_n 0, 1) := by decide +kernel
theorem dX12_layerAt_13 : decode cX12_layerAt 13 = .ok (.getfield 7, 3) := by decide +kernel
theorem dX12_layerAt_16 : decode cX12_layerAt 16 = .ok (.iload_n 1, 1) := by decide +kernel
theorem dX12_layerAt_17 : decode cX12_layerAt 17 = .ok (.iaload, 1) := by decide +kernel
theorem dX12_layerAt_18 : decode cX12_layerAt 18 = .ok (.aload_n 0, 1) := by decide +kernel
theorem dX12_layerAt_19 : decode cX12_layerAt 19 = .ok (.iload_n 1, 1) := by decide +kernel
theorem dX12_layerAt_20 : decode cX12_layerAt 20 = .ok (.iload_n 3, 1) := by decide +kernel
theorem dX12_layerAt_21 : decode cX12_layerAt 21 = .ok (.invokevirtual 192, 3) := by decide +kernel
theorem dX12_layerAt_24 : decode cX12_layerAt 24 = .ok (.isub, 1) := by decide +kernel
theorem dX12_layerAt_25 : decode cX12_layerAt 25 = .ok (.istore 4, 2) := by decide +kernel
theorem dX12_layerAt_27 : decode cX12_layerAt 27 = .ok (.iload 4, 2) := by decide +kernel
theorem dX12_layerAt_29 : decode cX12_layerAt 29 = .ok (.iload_n 2, 1) := by decide +kernel
theorem dX12_layerAt_30 : decode cX12_layerAt 30 = .ok (.if_icmp .lt 23, 3) := by decide +kernel
theorem dX12_layerAt_33 : decode cX12_layerAt 33 = .ok (.iload 4, 2) := by decide +kernel
theorem dX12_layerAt_35 : decode cX12_layerAt 35 = .ok (.aload_n 0, 1) := by decide +kernel
theorem dX12_layerAt_36 : decode cX12_layerAt 36 = .ok (.getfield 22, 3) := by decide +kernel
theorem dX12_layerAt_39 : decode cX12_layerAt 39 = .ok (.bipush 6, 2) := by decide +kernel
theorem dX12_layerAt_41 : decode cX12_layerAt 41 = .ok (.iload_n 1, 1) := by decide +kernel
theorem dX12_layerAt_42 : decode cX12_layerAt 42 = .ok (.imul, 1) := by decide +kernel
theorem dX12_layerAt_43 : decode cX12_layerAt 43 = .ok (.iload_n 3, 1) := by decide +kernel
theorem dX12_layerAt_44 : decode cX12_layerAt 44 = .ok (.iadd, 1) := by decide +kernel
theorem dX12_layerAt_45 : decode cX12_layerAt 45 = .ok (.iaload, 1) := by decide +kernel
theorem dX12_layerAt_46 : decode cX12_layerAt 46 = .ok (.isub, 1) := by decide +kernel
theorem dX12_layerAt_47 : decode cX12_layerAt 47 = .ok (.iload_n 2, 1) := by decide +kernel
theorem dX12_layerAt_48 : decode cX12_layerAt 48 = .ok (.if_icmp .ge 5, 3) := by decide +kernel
theorem dX12_layerAt_51 : decode cX12_layerAt 51 = .ok (.iload_n 3, 1) := by decide +kernel
theorem dX12_layerAt_52 : decode cX12_layerAt 52 = .ok (.ireturn, 1) := by decide +kernel
theorem dX12_layerAt_53 : decode cX12_layerAt 53 = .ok (.iinc 3 1, 3) := by decide +kernel
theorem dX12_layerAt_56 : decode cX12_layerAt 56 = .ok (.goto (-54), 3) := by decide +kernel
theorem dX12_layerAt_59 : decode cX12_layerAt 59 = .ok (.iconst (-1), 1) := by decide +kernel
theorem dX12_layerAt_60 : decode cX12_layerAt 60 = .ok (.ireturn, 1) := by decide +kernel
theorem dX12_above_0 : decode cX12_above 0 = .ok (.iconst 0, 1) := by decide +kernel
theorem dX12_above_1 : decode cX12_above 1 = .ok (.istore_n 3, 1) := by decide +kernel
theorem dX12_above_2 : decode cX12_above 2 = .ok (.iconst 0, 1) := by decide +kernel
theorem dX12_above_3 : decode cX12_above 3 = .ok (.istore 4, 2) := by decide +kernel
theorem dX12_above_5 : decode cX12_above 5 = .ok (.iload 4, 2) := by decide +kernel
theorem dX12_above_7 : decode cX12_above 7 = .ok (.aload_n 0, 1) := by decide +kernel
theorem dX12_above_8 : decode cX12_above 8 = .ok (.getfield 16, 3) := by decide +kernel
theorem dX12_above_11 : decode cX12_above 11 = .ok (.iload_n 1, 1) := by decide +kernel
theorem dX12_above_12 : decode cX12_above 12 = .ok (.iaload, 1) := by decide +kernel
theorem dX12_above_13 : decode cX12_above 13 = .ok (.if_icmp .ge 83, 3) := by decide +kernel
theorem dX12_above_16 : decode cX12_above 16 = .ok (.aload_n 0, 1) := by decide +kernel
theorem dX12_above_17 : decode cX12_above 17 = .ok (.getfield 7, 3) := by decide +kernel
theorem dX12_above_20 : decode cX12_above 20 = .ok (.iload_n 1, 1) := by decide +kernel
theorem dX12_above_21 : decode cX12_above 21 = .ok (.iaload, 1) := by decide +kernel
theorem dX12_above_22 : decode cX12_above 22 = .ok (.aload_n 0, 1) := by decide +kernel
theorem dX12_above_23 : decode cX12_above 23 = .ok (.iload_n 1, 1) := by decide +kernel
theorem dX12_above_24 : decode cX12_above 24 = .ok (.iload 4, 2) := by decide +kernel
theorem dX12_above_26 : decode cX12_above 26 = .ok (.invokevirtual 192, 3) := by decide +kernel
theorem dX12_above_29 : decode cX12_above 29 = .ok (.isub, 1) := by decide +kernel
theorem dX12_above_30 : decode cX12_above 30 = .ok (.istore 5, 2) := by decide +kernel
theorem dX12_above_32 : decode cX12_above 32 = .ok (.iload 5, 2) := by decide +kernel
theorem dX12_above_34 : decode cX12_above 34 = .ok (.aload_n 0, 1) := by decide +kernel
theorem dX12_above_35 : decode cX12_above 35 = .ok (.getfield 22, 3) := by decide +kernel
theorem dX12_above_38 : decode cX12_above 38 = .ok (.bipush 6, 2) := by decide +kernel
theorem dX12_above_40 : decode cX12_above 40 = .ok (.iload_n 1, 1) := by decide +kernel
theorem dX12_above_41 : decode cX12_above 41 = .ok (.imul, 1) := by decide +kernel
theorem dX12_above_42 : decode cX12_above 42 = .ok (.iload 4, 2) := by decide +kernel
theorem dX12_above_44 : decode cX12_above 44 = .ok (.iadd, 1) := by decide +kernel
theorem dX12_above_45 : decode cX12_above 45 = .ok (.iaload, 1) := by decide +kernel
theorem dX12_above_46 : decode cX12_above 46 = .ok (.isub, 1) := by decide +kernel
theorem dX12_above_47 : decode cX12_above 47 = .ok (.istore 6, 2) := by decide +kernel
theorem dX12_above_49 : decode cX12_above 49 = .ok (.iload 6, 2) := by decide +kernel
theorem dX12_above_51 : decode cX12_above 51 = .ok (.iload_n 2, 1) := by decide +kernel
theorem dX12_above_52 : decode cX12_above 52 = .ok (.if_icmp .ge 7, 3) := by decide +kernel
theorem dX12_above_55 : decode cX12_above 55 = .ok (.iload_n 2, 1) := by decide +kernel
theorem dX12_above_56 : decode cX12_above 56 = .ok (.goto 5, 3) := by decide +kernel
theorem dX12_above_59 : decode cX12_above 59 = .ok (.iload 6, 2) := by decide +kernel
theorem dX12_above_61 : decode cX12_above 61 = .ok (.istore 6, 2) := by decide +kernel
theorem dX12_above_63 : decode cX12_above 63 = .ok (.iload_n 3, 1) := by decide +kernel
theorem dX12_above_64 : decode cX12_above 64 = .ok (.iload 5, 2) := by decide +kernel
theorem dX12_above_66 : decode cX12_above 66 = .ok (.iload 6, 2) := by decide +kernel
theorem dX12_above_68 : decode cX12_above 68 = .ok (.if_icmp .le 19, 3) := by decide +kernel
theorem dX12_above_71 : decode cX12_above 71 = .ok (.iload 5, 2) := by decide +kernel
theorem dX12_above_73 : decode cX12_above 73 = .ok (.iload 6, 2) := by decide +kernel
theorem dX12_above_75 : decode cX12_above 75 = .ok (.isub, 1) := by decide +kernel
theorem dX12_above_76 : decode cX12_above 76 = .ok (.aload_n 0, 1) := by decide +kernel
theorem dX12_above_77 : decode cX12_above 77 = .ok (.iload_n 1, 1) := by decide +kernel
theorem dX12_above_78 : decode cX12_above 78 = .ok (.iload 4, 2) := by decide +kernel
theorem dX12_above_80 : decode cX12_above 80 = .ok (.invokevirtual 199, 3) := by decide +kernel
theorem dX12_above_83 : decode cX12_above 83 = .ok (.imul, 1) := by decide +kernel
theorem dX12_above_84 : decode cX12_above 84 = .ok (.goto 4, 3) := by decide +kernel
theorem dX12_above_87 : decode cX12_above 87 = .ok (.iconst 0, 1) := by decide +kernel
theorem dX12_above_88 : decode cX12_above 88 = .ok (.iadd, 1) := by decide +kernel
theorem dX12_above_89 : decode cX12_above 89 = .ok (.istore_n 3, 1) := by decide +kernel
theorem dX12_above_90 : decode cX12_above 90 = .ok (.iinc 4 1, 3) := by decide +kernel
theorem dX12_above_93 : decode cX12_above 93 = .ok (.goto (-88), 3) := by decide +kernel
theorem dX12_above_96 : decode cX12_above 96 = .ok (.iload_n 3, 1) := by decide +kernel
theorem dX12_above_97 : decode cX12_above 97 = .ok (.ireturn, 1) := by decide +kernel
theorem dX12_middle_0 : decode cX12_middle 0 = .ok (.aload_n 0, 1) := by decide +kernel
theorem dX12_middle_1 : decode cX12_middle 1 = .ok (.getfield 7, 3) := by decide +kernel
theorem dX12_middle_4 : decode cX12_middle 4 = .ok (.iload_n 1, 1) := by decide +kernel
theorem dX12_middle_5 : decode cX12_middle 5 = .ok (.iaload, 1) := by decide +kernel
theorem dX12_middle_6 : decode cX12_middle 6 = .ok (.aload_n 0, 1) := by decide +kernel
theorem dX12_middle_7 : decode cX12_middle 7 = .ok (.iload_n 1, 1) := by decide +kernel
theorem dX12_middle_8 : decode cX12_middle 8 = .ok (.iload_n 2, 1) := by decide +kernel
theorem dX12_middle_9 : decode cX12_middle 9 = .ok (.invokevirtual 192, 3) := by decide +kernel
theorem dX12_middle_12 : decode cX12_middle 12 = .ok (.isub, 1) := by decide +kernel
theorem dX12_middle_13 : decode cX12_middle 13 = .ok (.aload_n 0, 1) := by decide +kernel
theorem dX12_middle_14 : decode cX12_middle 14 = .ok (.getfield 22, 3) := by decide +kernel
theorem dX12_middle_17 : decode cX12_middle 17 = .ok (.bipush 6, 2) := by decide +kernel
theorem dX12_middle_19 : decode cX12_middle 19 = .ok (.iload_n 1, 1) := by decide +kernel
theorem dX12_middle_20 : decode cX12_middle 20 = .ok (.imul, 1) := by decide +kernel
theorem dX12_middle_21 : decode cX12_middle 21 = .ok (.iload_n 2, 1) := by decide +kernel
theorem dX12_middle_22 : decode cX12_middle 22 = .ok (.iadd, 1) := by decide +kernel
theorem dX12_middle_23 : decode cX12_middle 23 = .ok (.iaload, 1) := by decide +kernel
theorem dX12_middle_24 : decode cX12_middle 24 = .ok (.iconst 2, 1) := by decide +kernel
theorem dX12_middle_25 : decode cX12_middle 25 = .ok (.idiv, 1) := by decide +kernel
theorem dX12_middle_26 : decode cX12_middle 26 = .ok (.isub, 1) := by decide +kernel
theorem dX12_middle_27 : decode cX12_middle 27 = .ok (.ireturn, 1) := by decide +kernel
theorem dX12_findSlip_0 : decode cX12_findSlip 0 = .ok (.aload_n 0, 1) := by decide +kernel
theorem dX12_findSlip_1 : decode cX12_findSlip 1 = .ok (.invokevirtual 243, 3) := by decide +kernel
theorem dX12_findSlip_4 : decode cX12_findSlip 4 = .ok (.aload_n 0, 1) := by decide +kernel
theorem dX12_findSlip_5 : decode cX12_findSlip 5 = .ok (.lconst 0, 1) := by decide +kernel
theorem dX12_findSlip_6 : decode cX12_findSlip 6 = .ok (.putfield 339, 3) := by decide +kernel
theorem dX12_findSlip_9 : decode cX12_findSlip 9 = .ok (.iload_n 2, 1) := by decide +kernel
theorem dX12_findSlip_10 : decode cX12_findSlip 10 = .ok (.iload_n 3, 1) := by decide +kernel
theorem dX12_findSlip_11 : decode cX12_findSlip 11 = .ok (.if_icmp .ge 7, 3) := by decide +kernel
theorem dX12_findSlip_14 : decode cX12_findSlip 14 = .ok (.iload_n 2, 1) := by decide +kernel
theorem dX12_findSlip_15 : decode cX12_findSlip 15 = .ok (.goto 4, 3) := by decide +kernel
theorem dX12_findSlip_18 : decode cX12_findSlip 18 = .ok (.iload_n 3, 1) := by decide +kernel
theorem dX12_findSlip_19 : decode cX12_findSlip 19 = .ok (.istore 5, 2) := by decide +kernel
theorem dX12_findSlip_21 : decode cX12_findSlip 21 = .ok (.iload_n 2, 1) := by decide +kernel
theorem dX12_findSlip_22 : decode cX12_findSlip 22 = .ok (.iload_n 3, 1) := by decide +kernel
theorem dX12_findSlip_23 : decode cX12_findSlip 23 = .ok (.if_icmp .ge 7, 3) := by decide +kernel
theorem dX12_findSlip_26 : decode cX12_findSlip 26 = .ok (.iload_n 3, 1) := by decide +kernel
theorem dX12_findSlip_27 : decode cX12_findSlip 27 = .ok (.goto 4, 3) := by decide +kernel
theorem dX12_findSlip_30 : decode cX12_findSlip 30 = .ok (.iload_n 2, 1) := by decide +kernel
theorem dX12_findSlip_31 : decode cX12_findSlip 31 = .ok (.istore 6, 2) := by decide +kernel
theorem dX12_findSlip_33 : decode cX12_findSlip 33 = .ok (.iload 5, 2) := by decide +kernel
theorem dX12_findSlip_35 : decode cX12_findSlip 35 = .ok (.istore 7, 2) := by decide +kernel
theorem dX12_findSlip_37 : decode cX12_findSlip 37 = .ok (.iload 7, 2) := by decide +kernel
theorem dX12_findSlip_39 : decode cX12_findSlip 39 = .ok (.iload 6, 2) := by decide +kernel
theorem dX12_findSlip_41 : decode cX12_findSlip 41 = .ok (.if_icmp .gt 118, 3) := by decide +kernel
theorem dX12_findSlip_44 : decode cX12_findSlip 44 = .ok (.aload_n 0, 1) := by decide +kernel
theorem dX12_findSlip_45 : decode cX12_findSlip 45 = .ok (.iload 7, 2) := by decide +kernel
theorem dX12_findSlip_47 : decode cX12_findSlip 47 = .ok (.iload 4, 2) := by decide +kernel
theorem dX12_findSlip_49 : decode cX12_findSlip 49 = .ok (.invokevirtual 342, 3) := by decide +kernel
theorem dX12_findSlip_52 : decode cX12_findSlip 52 = .ok (.istore 8, 2) := by decide +kernel
theorem dX12_findSlip_54 : decode cX12_findSlip 54 = .ok (.iload 8, 2) := by decide +kernel
theorem dX12_findSlip_56 : decode cX12_findSlip 56 = .ok (.ifCond .ge 5, 3) := by decide +kernel
theorem dX12_findSlip_59 : decode cX12_findSlip 59 = .ok (.iconst 0, 1) := by decide +kernel
theorem dX12_findSlip_60 : decode cX12_findSlip 60 = .ok (.ireturn, 1) := by decide +kernel
theorem dX12_findSlip_61 : decode cX12_findSlip 61 = .ok (.aload_n 0, 1) := by decide +kernel
theorem dX12_findSlip_62 : decode cX12_findSlip 62 = .ok (.iload 7, 2) := by decide +kernel
theorem dX12_findSlip_64 : decode cX12_findSlip 64 = .ok (.iconst 0, 1) := by decide +kernel
theorem dX12_findSlip_65 : decode cX12_findSlip 65 = .ok (.invokevirtual 246, 3) := by decide +kernel
theorem dX12_findSlip_68 : decode cX12_findSlip 68 = .ok (.aload_n 0, 1) := by decide +kernel
theorem dX12_findSlip_69 : decode cX12_findSlip 69 = .ok (.iload 7, 2) := by decide +kernel
theorem dX12_findSlip_71 : decode cX12_findSlip 71 = .ok (.iload_n 1, 1) := by decide +kernel
theorem dX12_findSlip_72 : decode cX12_findSlip 72 = .ok (.invokevirtual 249, 3) := by decide +kernel
theorem dX12_findSlip_75 : decode cX12_findSlip 75 = .ok (.aload_n 0, 1) := by decide +kernel
theorem dX12_findSlip_76 : decode cX12_findSlip 76 = .ok (.iload 7, 2) := by decide +kernel
theorem dX12_findSlip_78 : decode cX12_findSlip 78 = .ok (.iload 8, 2) := by decide +kernel
theorem dX12_findSlip_80 : decode cX12_findSlip 80 = .ok (.invokevirtual 202, 3) := by decide +kernel
theorem dX12_findSlip_83 : decode cX12_findSlip 83 = .ok (.sipush 1000, 3) := by decide +kernel
theorem dX12_findSlip_86 : decode cX12_findSlip 86 = .ok (.aload_n 0, 1) := by decide +kernel
theorem dX12_findSlip_87 : decode cX12_findSlip 87 = .ok (.getfield 59, 3) := by decide +kernel
theorem dX12_findSlip_90 : decode cX12_findSlip 90 = .ok (.iload 8, 2) := by decide +kernel
theorem dX12_findSlip_92 : decode cX12_findSlip 92 = .ok (.iaload, 1) := by decide +kernel
theorem dX12_findSlip_93 : decode cX12_findSlip 93 = .ok (.isub, 1) := by decide +kernel
theorem dX12_findSlip_94 : decode cX12_findSlip 94 = .ok (.imul, 1) := by decide +kernel
theorem dX12_findSlip_95 : decode cX12_findSlip 95 = .ok (.sipush 1000, 3) := by decide +kernel
theorem dX12_findSlip_98 : decode cX12_findSlip 98 = .ok (.idiv, 1) := by decide +kernel
theorem dX12_findSlip_99 : decode cX12_findSlip 99 = .ok (.aload_n 0, 1) := by decide +kernel
theorem dX12_findSlip_100 : decode cX12_findSlip 100 = .ok (.getfield 43, 3) := by decide +kernel
theorem dX12_findSlip_103 : decode cX12_findSlip 103 = .ok (.iconst 5, 1) := by decide +kernel
theorem dX12_findSlip_104 : decode cX12_findSlip 104 = .ok (.aload_n 0, 1) := by decide +kernel
theorem dX12_findSlip_105 : decode cX12_findSlip 105 = .ok (.getfield 19, 3) := by decide +kernel
theorem dX12_findSlip_108 : decode cX12_findSlip 108 = .ok (.bipush 6, 2) := by decide +kernel
theorem dX12_findSlip_110 : decode cX12_findSlip 110 = .ok (.iload 7, 2) := by decide +kernel
theorem dX12_findSlip_112 : decode cX12_findSlip 112 = .ok (.imul, 1) := by decide +kernel
theorem dX12_findSlip_113 : decode cX12_findSlip 113 = .ok (.iload 8, 2) := by decide +kernel
theorem dX12_findSlip_115 : decode cX12_findSlip 115 = .ok (.iadd, 1) := by decide +kernel
theorem dX12_findSlip_116 : decode cX12_findSlip 116 = .ok (.iaload, 1) := by decide +kernel
theorem dX12_findSlip_117 : decode cX12_findSlip 117 = .ok (.imul, 1) := by decide +kernel
theorem dX12_findSlip_118 : decode cX12_findSlip 118 = .ok (.iconst 4, 1) := by decide +kernel
theorem dX12_findSlip_119 : decode cX12_findSlip 119 = .ok (.iadd, 1) := by decide +kernel
theorem dX12_findSlip_120 : decode cX12_findSlip 120 = .ok (.iaload, 1) := by decide +kernel
theorem dX12_findSlip_121 : decode cX12_findSlip 121 = .ok (.imul, 1) := by decide +kernel
theorem dX12_findSlip_122 : decode cX12_findSlip 122 = .ok (.bipush 100, 2) := by decide +kernel
theorem dX12_findSlip_124 : decode cX12_findSlip 124 = .ok (.idiv, 1) := by decide +kernel
theorem dX12_findSlip_125 : decode cX12_findSlip 125 = .ok (.istore 9, 2) := by decide +kernel
theorem dX12_findSlip_127 : decode cX12_findSlip 127 = .ok (.aload_n 0, 1) := by decide +kernel
theorem dX12_findSlip_128 : decode cX12_findSlip 128 = .ok (.dup, 1) := by decide +kernel
theorem dX12_findSlip_129 : decode cX12_findSlip 129 = .ok (.getfield 339, 3) := by decide +kernel
theorem dX12_findSlip_132 : decode cX12_findSlip 132 = .ok (.aload_n 0, 1) := by decide +kernel
theorem dX12_findSlip_133 : decode cX12_findSlip 133 = .ok (.getfield 62, 3) := by decide +kernel
theorem dX12_findSlip_136 : decode cX12_findSlip 136 = .ok (.iload 8, 2) := by decide +kernel
theorem dX12_findSlip_138 : decode cX12_findSlip 138 = .ok (.iaload, 1) := by decide +kernel
theorem dX12_findSlip_139 : decode cX12_findSlip 139 = .ok (.ifCond .lt 7, 3) := by decide +kernel
theorem dX12_findSlip_142 : decode cX12_findSlip 142 = .ok (.lconst 0, 1) := by decide +kernel
theorem dX12_findSlip_143 : decode cX12_findSlip 143 = .ok (.goto 6, 3) := by decide +kernel
theorem dX12_findSlip_146 : decode cX12_findSlip 146 = .ok (.iload 9, 2) := by decide +kernel
theorem dX12_findSlip_148 : decode cX12_findSlip 148 = .ok (.i2l, 1) := by decide +kernel
theorem dX12_findSlip_149 : decode cX12_findSlip 149 = .ok (.ladd, 1) := by decide +kernel
theorem dX12_findSlip_150 : decode cX12_findSlip 150 = .ok (.putfield 339, 3) := by decide +kernel
theorem dX12_findSlip_153 : decode cX12_findSlip 153 = .ok (.iinc 7 1, 3) := by decide +kernel
theorem dX12_findSlip_156 : decode cX12_findSlip 156 = .ok (.goto (-119), 3) := by decide +kernel
theorem dX12_findSlip_159 : decode cX12_findSlip 159 = .ok (.aload_n 0, 1) := by decide +kernel
theorem dX12_findSlip_160 : decode cX12_findSlip 160 = .ok (.aload_n 0, 1) := by decide +kernel
theorem dX12_findSlip_161 : decode cX12_findSlip 161 = .ok (.iload_n 2, 1) := by decide +kernel
theorem dX12_findSlip_162 : decode cX12_findSlip 162 = .ok (.iload 4, 2) := by decide +kernel
theorem dX12_findSlip_164 : decode cX12_findSlip 164 = .ok (.invokevirtual 345, 3) := by decide +kernel
theorem dX12_findSlip_167 : decode cX12_findSlip 167 = .ok (.aload_n 0, 1) := by decide +kernel
theorem dX12_findSlip_168 : decode cX12_findSlip 168 = .ok (.iload_n 3, 1) := by decide +kernel
theorem dX12_findSlip_169 : decode cX12_findSlip 169 = .ok (.iload 4, 2) := by decide +kernel
theorem dX12_findSlip_171 : decode cX12_findSlip 171 = .ok (.invokevirtual 345, 3) := by decide +kernel
theorem dX12_findSlip_174 : decode cX12_findSlip 174 = .ok (.isub, 1) := by decide +kernel
theorem dX12_findSlip_175 : decode cX12_findSlip 175 = .ok (.i2l, 1) := by decide +kernel
theorem dX12_findSlip_176 : decode cX12_findSlip 176 = .ok (.putfield 348, 3) := by decide +kernel
theorem dX12_findSlip_179 : decode cX12_findSlip 179 = .ok (.aload_n 0, 1) := by decide +kernel
theorem dX12_findSlip_180 : decode cX12_findSlip 180 = .ok (.getfield 348, 3) := by decide +kernel
theorem dX12_findSlip_183 : decode cX12_findSlip 183 = .ok (.lconst 0, 1) := by decide +kernel
theorem dX12_findSlip_184 : decode cX12_findSlip 184 = .ok (.lcmp, 1) := by decide +kernel
theorem dX12_findSlip_185 : decode cX12_findSlip 185 = .ok (.ifCond .le 7, 3) := by decide +kernel
theorem dX12_findSlip_188 : decode cX12_findSlip 188 = .ok (.iconst 1, 1) := by decide +kernel
theorem dX12_findSlip_189 : decode cX12_findSlip 189 = .ok (.goto 4, 3) := by decide +kernel
theorem dX12_findSlip_192 : decode cX12_findSlip 192 = .ok (.iconst 0, 1) := by decide +kernel
theorem dX12_findSlip_193 : decode cX12_findSlip 193 = .ok (.ireturn, 1) := by decide +kernel
theorem dX12_margin_0 : decode cX12_margin 0 = .ok (.aload_n 0, 1) := by decide +kernel
theorem dX12_margin_1 : decode cX12_margin 1 = .ok (.iload_n 1, 1) := by decide +kernel
theorem dX12_margin_2 : decode cX12_margin 2 = .ok (.invokevirtual 207, 3) := by decide +kernel
theorem dX12_margin_5 : decode cX12_margin 5 = .ok (.ifCond .eq 20, 3) := by decide +kernel
theorem dX12_margin_8 : decode cX12_margin 8 = .ok (.aload_n 0, 1) := by decide +kernel
theorem dX12_margin_9 : decode cX12_margin 9 = .ok (.iload_n 2, 1) := by decide +kernel
theorem dX12_margin_10 : decode cX12_margin 10 = .ok (.iload 4, 2) := by decide +kernel
theorem dX12_margin_12 : decode cX12_margin 12 = .ok (.invokevirtual 186, 3) := by decide +kernel
theorem dX12_margin_15 : decode cX12_margin 15 = .ok (.ifCond .eq 10, 3) := by decide +kernel
theorem dX12_margin_18 : decode cX12_margin 18 = .ok (.iload_n 3, 1) := by decide +kernel
theorem dX12_margin_19 : decode cX12_margin 19 = .ok (.invokestatic 169, 3) := by decide +kernel
theorem dX12_margin_22 : decode cX12_margin 22 = .ok (.ifCond .ne 7, 3) := by decide +kernel
theorem dX12_margin_25 : decode cX12_margin 25 = .ok (.ldc2_w 306, 3) := by decide +kernel
theorem dX12_margin_28 : decode cX12_margin 28 = .ok (.lreturn, 1) := by decide +kernel
theorem dX12_margin_29 : decode cX12_margin 29 = .ok (.iload 5, 2) := by decide +kernel
theorem dX12_margin_31 : decode cX12_margin 31 = .ok (.i2l, 1) := by decide +kernel
theorem dX12_margin_32 : decode cX12_margin 32 = .ok (.lconst 0, 1) := by decide +kernel
theorem dX12_margin_33 : decode cX12_margin 33 = .ok (.ldc2_w 252, 3) := by decide +kernel
theorem dX12_margin_36 : decode cX12_margin 36 = .ok (.invokestatic 165, 3) := by decide +kernel
theorem dX12_margin_39 : decode cX12_margin 39 = .ok (.ifCond .eq 8, 3) := by decide +kernel
theorem dX12_margin_42 : decode cX12_margin 42 = .ok (.iload_n 2, 1) := by decide +kernel
theorem dX12_margin_43 : decode cX12_margin 43 = .ok (.iload_n 3, 1) := by decide +kernel
theorem dX12_margin_44 : decode cX12_margin 44 = .ok (.if_icmp .ne 7, 3) := by decide +kernel
theorem dX12_margin_47 : decode cX12_margin 47 = .ok (.ldc2_w 308, 3) := by decide +kernel
theorem dX12_margin_50 : decode cX12_margin 50 = .ok (.lreturn, 1) := by decide +kernel
theorem dX12_margin_51 : decode cX12_margin 51 = .ok (.aload_n 0, 1) := by decide +kernel
theorem dX12_margin_52 : decode cX12_margin 52 = .ok (.iload_n 2, 1) := by decide +kernel
theorem dX12_margin_53 : decode cX12_margin 53 = .ok (.iload 4, 2) := by decide +kernel
theorem dX12_margin_55 : decode cX12_margin 55 = .ok (.invokevirtual 351, 3) := by decide +kernel
theorem dX12_margin_58 : decode cX12_margin 58 = .ok (.istore 6, 2) := by decide +kernel
theorem dX12_margin_60 : decode cX12_margin 60 = .ok (.iload 5, 2) := by decide +kernel
theorem dX12_margin_62 : decode cX12_margin 62 = .ok (.iconst 2, 1) := by decide +kernel
theorem dX12_margin_63 : decode cX12_margin 63 = .ok (.if_icmp .ne 7, 3) := by decide +kernel
theorem dX12_margin_66 : decode cX12_margin 66 = .ok (.iload 6, 2) := by decide +kernel
theorem dX12_margin_68 : decode cX12_margin 68 = .ok (.i2l, 1) := by decide +kernel
theorem dX12_margin_69 : decode cX12_margin 69 = .ok (.lreturn, 1) := by decide +kernel
theorem dX12_margin_70 : decode cX12_margin 70 = .ok (.aload_n 0, 1) := by decide +kernel
theorem dX12_margin_71 : decode cX12_margin 71 = .ok (.iload_n 1, 1) := by decide +kernel
theorem dX12_margin_72 : decode cX12_margin 72 = .ok (.iload_n 2, 1) := by decide +kernel
theorem dX12_margin_73 : decode cX12_margin 73 = .ok (.iload_n 3, 1) := by decide +kernel
theorem dX12_margin_74 : decode cX12_margin 74 = .ok (.iload 6, 2) := by decide +kernel
theorem dX12_margin_76 : decode cX12_margin 76 = .ok (.invokevirtual 354, 3) := by decide +kernel
theorem dX12_margin_79 : decode cX12_margin 79 = .ok (.ifCond .ne 7, 3) := by decide +kernel
theorem dX12_margin_82 : decode cX12_margin 82 = .ok (.ldc2_w 358, 3) := by decide +kernel
theorem dX12_margin_85 : decode cX12_margin 85 = .ok (.lreturn, 1) := by decide +kernel
theorem dX12_margin_86 : decode cX12_margin 86 = .ok (.aload_n 0, 1) := by decide +kernel
theorem dX12_margin_87 : decode cX12_margin 87 = .ok (.getfield 339, 3) := by decide +kernel
theorem dX12_margin_90 : decode cX12_margin 90 = .ok (.aload_n 0, 1) := by decide +kernel
theorem dX12_margin_91 : decode cX12_margin 91 = .ok (.getfield 348, 3) := by decide +kernel
theorem dX12_margin_94 : decode cX12_margin 94 = .ok (.invokestatic 291, 3) := by decide +kernel
theorem dX12_margin_97 : decode cX12_margin 97 = .ok (.lstore 7, 2) := by decide +kernel
theorem dX12_margin_99 : decode cX12_margin 99 = .ok (.iload 5, 2) := by decide +kernel
theorem dX12_margin_101 : decode cX12_margin 101 = .ok (.ifCond .ne 13, 3) := by decide +kernel
theorem dX12_margin_104 : decode cX12_margin 104 = .ok (.aload_n 0, 1) := by decide +kernel
theorem dX12_margin_105 : decode cX12_margin 105 = .ok (.getfield 339, 3) := by decide +kernel
theorem dX12_margin_108 : decode cX12_margin 108 = .ok (.lload 7, 2) := by decide +kernel
theorem dX12_margin_110 : decode cX12_margin 110 = .ok (.ldiv, 1) := by decide +kernel
theorem dX12_margin_111 : decode cX12_margin 111 = .ok (.goto 10, 3) := by decide +kernel
theorem dX12_margin_114 : decode cX12_margin 114 = .ok (.aload_n 0, 1) := by decide +kernel
theorem dX12_margin_115 : decode cX12_margin 115 = .ok (.getfield 348, 3) := by decide +kernel
theorem dX12_margin_118 : decode cX12_margin 118 = .ok (.lload 7, 2) := by decide +kernel
theorem dX12_margin_120 : decode cX12_margin 120 = .ok (.ldiv, 1) := by decide +kernel
theorem dX12_margin_121 : decode cX12_margin 121 = .ok (.lreturn, 1) := by decide +kernel
theorem dX12_least_0 : decode cX12_least 0 = .ok (.aload_n 0, 1) := by decide +kernel
theorem dX12_least_1 : decode cX12_least 1 = .ok (.iload_n 1, 1) := by decide +kernel
theorem dX12_least_2 : decode cX12_least 2 = .ok (.invokevirtual 207, 3) := by decide +kernel
theorem dX12_least_5 : decode cX12_least 5 = .ok (.ifCond .ne 7, 3) := by decide +kernel
theorem dX12_least_8 : decode cX12_least 8 = .ok (.ldc2_w 306, 3) := by decide +kernel
theorem dX12_least_11 : decode cX12_least 11 = .ok (.lreturn, 1) := by decide +kernel
theorem dX12_least_12 : decode cX12_least 12 = .ok (.iload_n 2, 1) := by decide +kernel
theorem dX12_least_13 : decode cX12_least 13 = .ok (.i2l, 1) := by decide +kernel
theorem dX12_least_14 : decode cX12_least 14 = .ok (.lconst 0, 1) := by decide +kernel
theorem dX12_least_15 : decode cX12_least 15 = .ok (.ldc2_w 360, 3) := by decide +kernel
theorem dX12_least_18 : decode cX12_least 18 = .ok (.invokestatic 165, 3) := by decide +kernel
theorem dX12_least_21 : decode cX12_least 21 = .ok (.ifCond .ne 7, 3) := by decide +kernel
theorem dX12_least_24 : decode cX12_least 24 = .ok (.ldc2_w 308, 3) := by decide +kernel
theorem dX12_least_27 : decode cX12_least 27 = .ok (.lreturn, 1) := by decide +kernel
theorem dX12_least_28 : decode cX12_least 28 = .ok (.iconst (-1), 1) := by decide +kernel
theorem dX12_least_29 : decode cX12_least 29 = .ok (.istore_n 3, 1) := by decide +kernel
theorem dX12_least_30 : decode cX12_least 30 = .ok (.iconst (-1), 1) := by decide +kernel
theorem dX12_least_31 : decode cX12_least 31 = .ok (.istore 4, 2) := by decide +kernel
theorem dX12_least_33 : decode cX12_least 33 = .ok (.iconst (-1), 1) := by decide +kernel
theorem dX12_least_34 : decode cX12_least 34 = .ok (.istore 5, 2) := by decide +kernel
theorem dX12_least_36 : decode cX12_least 36 = .ok (.lconst 0, 1) := by decide +kernel
theorem dX12_least_37 : decode cX12_least 37 = .ok (.lstore 6, 2) := by decide +kernel
theorem dX12_least_39 : decode cX12_least 39 = .ok (.lconst 0, 1) := by decide +kernel
theorem dX12_least_40 : decode cX12_least 40 = .ok (.lstore 8, 2) := by decide +kernel
theorem dX12_least_42 : decode cX12_least 42 = .ok (.iconst 0, 1) := by decide +kernel
theorem dX12_least_43 : decode cX12_least 43 = .ok (.istore 10, 2) := by decide +kernel
theorem dX12_least_45 : decode cX12_least 45 = .ok (.iload 10, 2) := by decide +kernel
theorem dX12_least_47 : decode cX12_least 47 = .ok (.bipush 6, 2) := by decide +kernel
theorem dX12_least_49 : decode cX12_least 49 = .ok (.if_icmp .ge 122, 3) := by decide +kernel
theorem dX12_least_52 : decode cX12_least 52 = .ok (.iconst 0, 1) := by decide +kernel
theorem dX12_least_53 : decode cX12_least 53 = .ok (.istore 11, 2) := by decide +kernel
theorem dX12_least_55 : decode cX12_least 55 = .ok (.iload 11, 2) := by decide +kernel
theorem dX12_least_57 : decode cX12_least 57 = .ok (.bipush 6, 2) := by decide +kernel
theorem dX12_least_59 : decode cX12_least 59 = .ok (.if_icmp .ge 106, 3) := by decide +kernel
theorem dX12_least_62 : decode cX12_least 62 = .ok (.iconst 0, 1) := by decide +kernel
theorem dX12_least_63 : decode cX12_least 63 = .ok (.istore 12, 2) := by decide +kernel
theorem dX12_least_65 : decode cX12_least 65 = .ok (.iload 12, 2) := by decide +kernel
theorem dX12_least_67 : decode cX12_least 67 = .ok (.aload_n 0, 1) := by decide +kernel
theorem dX12_least_68 : decode cX12_least 68 = .ok (.getfield 16, 3) := by decide +kernel
theorem dX12_least_71 : decode cX12_least 71 = .ok (.iload 10, 2) := by decide +kernel
theorem dX12_least_73 : decode cX12_least 73 = .ok (.iaload, 1) := by decide +kernel
theorem dX12_least_74 : decode cX12_least 74 = .ok (.if_icmp .ge 85, 3) := by decide +kernel
theorem dX12_least_77 : decode cX12_least 77 = .ok (.iload 10, 2) := by decide +kernel
theorem dX12_least_79 : decode cX12_least 79 = .ok (.iload 11, 2) := by decide +kernel
theorem dX12_least_81 : decode cX12_least 81 = .ok (.if_icmp .eq 78, 3) := by decide +kernel
theorem dX12_least_84 : decode cX12_least 84 = .ok (.aload_n 0, 1) := by decide +kernel
theorem dX12_least_85 : decode cX12_least 85 = .ok (.iload_n 1, 1) := by decide +kernel
theorem dX12_least_86 : decode cX12_least 86 = .ok (.iload 10, 2) := by decide +kernel
theorem dX12_least_88 : decode cX12_least 88 = .ok (.iload 11, 2) := by decide +kernel
theorem dX12_least_90 : decode cX12_least 90 = .ok (.aload_n 0, 1) := by decide +kernel
theorem dX12_least_91 : decode cX12_least 91 = .ok (.iload 10, 2) := by decide +kernel
theorem dX12_least_93 : decode cX12_least 93 = .ok (.iload 12, 2) := by decide +kernel
theorem dX12_least_95 : decode cX12_least 95 = .ok (.invokevirtual 351, 3) := by decide +kernel
theorem dX12_least_98 : decode cX12_least 98 = .ok (.invokevirtual 354, 3) := by decide +kernel
theorem dX12_least_101 : decode cX12_least 101 = .ok (.istore 13, 2) := by decide +kernel
theorem dX12_least_103 : decode cX12_least 103 = .ok (.iload 13, 2) := by decide +kernel
theorem dX12_least_105 : decode cX12_least 105 = .ok (.ifCond .eq 48, 3) := by decide +kernel
theorem dX12_least_108 : decode cX12_least 108 = .ok (.iload_n 3, 1) := by decide +kernel
theorem dX12_least_109 : decode cX12_least 109 = .ok (.ifCond .lt 21, 3) := by decide +kernel
theorem dX12_least_112 : decode cX12_least 112 = .ok (.aload_n 0, 1) := by decide +kernel
theorem dX12_least_113 : decode cX12_least 113 = .ok (.getfield 339, 3) := by decide +kernel
theorem dX12_least_116 : decode cX12_least 116 = .ok (.lload 8, 2) := by decide +kernel
theorem dX12_least_118 : decode cX12_least 118 = .ok (.lmul, 1) := by decide +kernel
theorem dX12_least_119 : decode cX12_least 119 = .ok (.lload 6, 2) := by decide +kernel
theorem dX12_least_121 : decode cX12_least 121 = .ok (.aload_n 0, 1) := by decide +kernel
theorem dX12_least_122 : decode cX12_least 122 = .ok (.getfield 348, 3) := by decide +kernel
theorem dX12_least_125 : decode cX12_least 125 = .ok (.lmul, 1) := by decide +kernel
theorem dX12_least_126 : decode cX12_least 126 = .ok (.lcmp, 1) := by decide +kernel
theorem dX12_least_127 : decode cX12_least 127 = .ok (.ifCond .ge 26, 3) := by decide +kernel
theorem dX12_least_130 : decode cX12_least 130 = .ok (.iload 10, 2) := by decide +kernel
theorem dX12_least_132 : decode cX12_least 132 = .ok (.istore_n 3, 1) := by decide +kernel
theorem dX12_least_133 : decode cX12_least 133 = .ok (.iload 11, 2) := by decide +kernel
theorem dX12_least_135 : decode cX12_least 135 = .ok (.istore 4, 2) := by decide +kernel
theorem dX12_least_137 : decode cX12_least 137 = .ok (.iload 12, 2) := by decide +kernel
theorem dX12_least_139 : decode cX12_least 139 = .ok (.istore 5, 2) := by decide +kernel
theorem dX12_least_141 : decode cX12_least 141 = .ok (.aload_n 0, 1) := by decide +kernel
theorem dX12_least_142 : decode cX12_least 142 = .ok (.getfield 339, 3) := by decide +kernel
theorem dX12_least_145 : decode cX12_least 145 = .ok (.lstore 6, 2) := by decide +kernel
theorem dX12_least_147 : decode cX12_least 147 = .ok (.aload_n 0, 1) := by decide +kernel
theorem dX12_least_148 : decode cX12_least 148 = .ok (.getfield 348, 3) := by decide +kernel
theorem dX12_least_151 : decode cX12_least 151 = .ok (.lstore 8, 2) := by decide +kernel
theorem dX12_least_153 : decode cX12_least 153 = .ok (.iinc 12 1, 3) := by decide +kernel
theorem dX12_least_156 : decode cX12_least 156 = .ok (.goto (-91), 3) := by decide +kernel
theorem dX12_least_159 : decode cX12_least 159 = .ok (.iinc 11 1, 3) := by decide +kernel
theorem dX12_least_162 : decode cX12_least 162 = .ok (.goto (-107), 3) := by decide +kernel
theorem dX12_least_165 : decode cX12_least 165 = .ok (.iinc 10 1, 3) := by decide +kernel
theorem dX12_least_168 : decode cX12_least 168 = .ok (.goto (-123), 3) := by decide +kernel
theorem dX12_least_171 : decode cX12_least 171 = .ok (.iload_n 3, 1) := by decide +kernel
theorem dX12_least_172 : decode cX12_least 172 = .ok (.ifCond .ge 7, 3) := by decide +kernel
theorem dX12_least_175 : decode cX12_least 175 = .ok (.ldc2_w 362, 3) := by decide +kernel
theorem dX12_least_178 : decode cX12_least 178 = .ok (.lreturn, 1) := by decide +kernel
theorem dX12_least_179 : decode cX12_least 179 = .ok (.lload 6, 2) := by decide +kernel
theorem dX12_least_181 : decode cX12_least 181 = .ok (.lload 8, 2) := by decide +kernel
theorem dX12_least_183 : decode cX12_least 183 = .ok (.invokestatic 291, 3) := by decide +kernel
theorem dX12_least_186 : decode cX12_least 186 = .ok (.lstore 10, 2) := by decide +kernel
theorem dX12_least_188 : decode cX12_least 188 = .ok (.iload_n 2, 1) := by decide +kernel
theorem dX12_least_189 : decode cX12_least 189 = .ok (.ifCond .ne 8, 3) := by decide +kernel
theorem dX12_least_192 : decode cX12_least 192 = .ok (.iload_n 3, 1) := by decide +kernel
theorem dX12_least_193 : decode cX12_least 193 = .ok (.i2l, 1) := by decide +kernel
theorem dX12_least_194 : decode cX12_least 194 = .ok (.goto 43, 3) := by decide +kernel
theorem dX12_least_197 : decode cX12_least 197 = .ok (.iload_n 2, 1) := by decide +kernel
theorem dX12_least_198 : decode cX12_least 198 = .ok (.iconst 1, 1) := by decide +kernel
theorem dX12_least_199 : decode cX12_least 199 = .ok (.if_icmp .ne 9, 3) := by decide +kernel
theorem dX12_least_202 : decode cX12_least 202 = .ok (.iload 4, 2) := by decide +kernel
theorem dX12_least_204 : decode cX12_least 204 = .ok (.i2l, 1) := by decide +kernel
theorem dX12_least_205 : decode cX12_least 205 = .ok (.goto 32, 3) := by decide +kernel
theorem dX12_least_208 : decode cX12_least 208 = .ok (.iload_n 2, 1) := by decide +kernel
theorem dX12_least_209 : decode cX12_least 209 = .ok (.iconst 2, 1) := by decide +kernel
theorem dX12_least_210 : decode cX12_least 210 = .ok (.if_icmp .ne 9, 3) := by decide +kernel
theorem dX12_least_213 : decode cX12_least 213 = .ok (.iload 5, 2) := by decide +kernel
theorem dX12_least_215 : decode cX12_least 215 = .ok (.i2l, 1) := by decide +kernel
theorem dX12_least_216 : decode cX12_least 216 = .ok (.goto 21, 3) := by decide +kernel
theorem dX12_least_219 : decode cX12_least 219 = .ok (.iload_n 2, 1) := by decide +kernel
theorem dX12_least_220 : decode cX12_least 220 = .ok (.iconst 3, 1) := by decide +kernel
theorem dX12_least_221 : decode cX12_least 221 = .ok (.if_icmp .ne 11, 3) := by decide +kernel
theorem dX12_least_224 : decode cX12_least 224 = .ok (.lload 6, 2) := by decide +kernel
theorem dX12_least_226 : decode cX12_least 226 = .ok (.lload 10, 2) := by decide +kernel
theorem dX12_least_228 : decode cX12_least 228 = .ok (.ldiv, 1) := by decide +kernel
theorem dX12_least_229 : decode cX12_least 229 = .ok (.goto 8, 3) := by decide +kernel
theorem dX12_least_232 : decode cX12_least 232 = .ok (.lload 8, 2) := by decide +kernel
theorem dX12_least_234 : decode cX12_least 234 = .ok (.lload 10, 2) := by decide +kernel
theorem dX12_least_236 : decode cX12_least 236 = .ok (.ldiv, 1) := by decide +kernel
theorem dX12_least_237 : decode cX12_least 237 = .ok (.lreturn, 1) := by decide +kernel
theorem dX12_work_0 : decode cX12_work 0 = .ok (.iload_n 1, 1) := by decide +kernel
theorem dX12_work_1 : decode cX12_work 1 = .ok (.invokestatic 169, 3) := by decide +kernel
theorem dX12_work_4 : decode cX12_work 4 = .ok (.ifCond .ne 7, 3) := by decide +kernel
theorem dX12_work_7 : decode cX12_work 7 = .ok (.sipush (-1001), 3) := by decide +kernel
theorem dX12_work_10 : decode cX12_work 10 = .ok (.ireturn, 1) := by decide +kernel
theorem dX12_work_11 : decode cX12_work 11 = .ok (.iload_n 2, 1) := by decide +kernel
theorem dX12_work_12 : decode cX12_work 12 = .ok (.i2l, 1) := by decide +kernel
theorem dX12_work_13 : decode cX12_work 13 = .ok (.lconst 0, 1) := by decide +kernel
theorem dX12_work_14 : decode cX12_work 14 = .ok (.lconst 1, 1) := by decide +kernel
theorem dX12_work_15 : decode cX12_work 15 = .ok (.invokestatic 165, 3) := by decide +kernel
theorem dX12_work_18 : decode cX12_work 18 = .ok (.ifCond .eq 38, 3) := by decide +kernel
theorem dX12_work_21 : decode cX12_work 21 = .ok (.iload_n 3, 1) := by decide +kernel
theorem dX12_work_22 : decode cX12_work 22 = .ok (.i2l, 1) := by decide +kernel
theorem dX12_work_23 : decode cX12_work 23 = .ok (.lconst 1, 1) := by decide +kernel
theorem dX12_work_24 : decode cX12_work 24 = .ok (.iload_n 2, 1) := by decide +kernel
theorem dX12_work_25 : decode cX12_work 25 = .ok (.ifCond .ne 9, 3) := by decide +kernel
theorem dX12_work_28 : decode cX12_work 28 = .ok (.ldc2_w 364, 3) := by decide +kernel
theorem dX12_work_31 : decode cX12_work 31 = .ok (.goto 6, 3) := by decide +kernel
theorem dX12_work_34 : decode cX12_work 34 = .ok (.ldc2_w 184, 3) := by decide +kernel
theorem dX12_work_37 : decode cX12_work 37 = .ok (.invokestatic 165, 3) := by decide +kernel
theorem dX12_work_40 : decode cX12_work 40 = .ok (.ifCond .eq 16, 3) := by decide +kernel
theorem dX12_work_43 : decode cX12_work 43 = .ok (.iload 4, 2) := by decide +kernel
theorem dX12_work_45 : decode cX12_work 45 = .ok (.i2l, 1) := by decide +kernel
theorem dX12_work_46 : decode cX12_work 46 = .ok (.lconst 1, 1) := by decide +kernel
theorem dX12_work_47 : decode cX12_work 47 = .ok (.ldc2_w 176, 3) := by decide +kernel
theorem dX12_work_50 : decode cX12_work 50 = .ok (.invokestatic 165, 3) := by decide +kernel
theorem dX12_work_53 : decode cX12_work 53 = .ok (.ifCond .ne 7, 3) := by decide +kernel
theorem dX12_work_56 : decode cX12_work 56 = .ok (.sipush (-1002), 3) := by decide +kernel
theorem dX12_work_59 : decode cX12_work 59 = .ok (.ireturn, 1) := by decide +kernel
theorem dX12_work_60 : decode cX12_work 60 = .ok (.aload_n 0, 1) := by decide +kernel
theorem dX12_work_61 : decode cX12_work 61 = .ok (.getfield 219, 3) := by decide +kernel
theorem dX12_work_64 : decode cX12_work 64 = .ok (.bipush 6, 2) := by decide +kernel
theorem dX12_work_66 : decode cX12_work 66 = .ok (.if_icmp .ne 7, 3) := by decide +kernel
theorem dX12_work_69 : decode cX12_work 69 = .ok (.sipush (-1004), 3) := by decide +kernel
theorem dX12_work_72 : decode cX12_work 72 = .ok (.ireturn, 1) := by decide +kernel
theorem dX12_work_73 : decode cX12_work 73 = .ok (.aload_n 0, 1) := by decide +kernel
theorem dX12_work_74 : decode cX12_work 74 = .ok (.getfield 122, 3) := by decide +kernel
theorem dX12_work_77 : decode cX12_work 77 = .ok (.aload_n 0, 1) := by decide +kernel
theorem dX12_work_78 : decode cX12_work 78 = .ok (.getfield 219, 3) := by decide +kernel
theorem dX12_work_81 : decode cX12_work 81 = .ok (.iload_n 1, 1) := by decide +kernel
theorem dX12_work_82 : decode cX12_work 82 = .ok (.iastore, 1) := by decide +kernel
theorem dX12_work_83 : decode cX12_work 83 = .ok (.aload_n 0, 1) := by decide +kernel
theorem dX12_work_84 : decode cX12_work 84 = .ok (.getfield 125, 3) := by decide +kernel
theorem dX12_work_87 : decode cX12_work 87 = .ok (.aload_n 0, 1) := by decide +kernel
theorem dX12_work_88 : decode cX12_work 88 = .ok (.getfield 219, 3) := by decide +kernel
theorem dX12_work_91 : decode cX12_work 91 = .ok (.iload_n 2, 1) := by decide +kernel
theorem dX12_work_92 : decode cX12_work 92 = .ok (.iastore, 1) := by decide +kernel
theorem dX12_work_93 : decode cX12_work 93 = .ok (.aload_n 0, 1) := by decide +kernel
theorem dX12_work_94 : decode cX12_work 94 = .ok (.getfield 128, 3) := by decide +kernel
theorem dX12_work_97 : decode cX12_work 97 = .ok (.aload_n 0, 1) := by decide +kernel
theorem dX12_work_98 : decode cX12_work 98 = .ok (.getfield 219, 3) := by decide +kernel
theorem dX12_work_101 : decode cX12_work 101 = .ok (.iload_n 3, 1) := by decide +kernel
theorem dX12_work_102 : decode cX12_work 102 = .ok (.iastore, 1) := by decide +kernel
theorem dX12_work_103 : decode cX12_work 103 = .ok (.aload_n 0, 1) := by decide +kernel
theorem dX12_work_104 : decode cX12_work 104 = .ok (.getfield 131, 3) := by decide +kernel
theorem dX12_work_107 : decode cX12_work 107 = .ok (.aload_n 0, 1) := by decide +kernel
theorem dX12_work_108 : decode cX12_work 108 = .ok (.getfield 219, 3) := by decide +kernel
theorem dX12_work_111 : decode cX12_work 111 = .ok (.iload 4, 2) := by decide +kernel
theorem dX12_work_113 : decode cX12_work 113 = .ok (.iastore, 1) := by decide +kernel
theorem dX12_work_114 : decode cX12_work 114 = .ok (.aload_n 0, 1) := by decide +kernel
theorem dX12_work_115 : decode cX12_work 115 = .ok (.dup, 1) := by decide +kernel
theorem dX12_work_116 : decode cX12_work 116 = .ok (.getfield 219, 3) := by decide +kernel
theorem dX12_work_119 : decode cX12_work 119 = .ok (.iconst 1, 1) := by decide +kernel
theorem dX12_work_120 : decode cX12_work 120 = .ok (.iadd, 1) := by decide +kernel
theorem dX12_work_121 : decode cX12_work 121 = .ok (.putfield 219, 3) := by decide +kernel
theorem dX12_work_124 : decode cX12_work 124 = .ok (.aload_n 0, 1) := by decide +kernel
theorem dX12_work_125 : decode cX12_work 125 = .ok (.getfield 219, 3) := by decide +kernel
theorem dX12_work_128 : decode cX12_work 128 = .ok (.iconst 1, 1) := by decide +kernel
theorem dX12_work_129 : decode cX12_work 129 = .ok (.isub, 1) := by decide +kernel
theorem dX12_work_130 : decode cX12_work 130 = .ok (.ireturn, 1) := by decide +kernel
theorem dX12_hasHouse_0 : decode cX12_hasHouse 0 = .ok (.iconst 0, 1) := by decide +kernel
theorem dX12_hasHouse_1 : decode cX12_hasHouse 1 = .ok (.istore_n 2, 1) := by decide +kernel
theorem dX12_hasHouse_2 : decode cX12_hasHouse 2 = .ok (.iconst 0, 1) := by decide +kernel
theorem dX12_hasHouse_3 : decode cX12_hasHouse 3 = .ok (.istore_n 3, 1) := by decide +kernel
theorem dX12_hasHouse_4 : decode cX12_hasHouse 4 = .ok (.iload_n 3, 1) := by decide +kernel
theorem dX12_hasHouse_5 : decode cX12_hasHouse 5 = .ok (.aload_n 0, 1) := by decide +kernel
theorem dX12_hasHouse_6 : decode cX12_hasHouse 6 = .ok (.getfield 213, 3) := by decide +kernel
theorem dX12_hasHouse_9 : decode cX12_hasHouse 9 = .ok (.if_icmp .ge 29, 3) := by decide +kernel
theorem dX12_hasHouse_12 : decode cX12_hasHouse 12 = .ok (.iload_n 2, 1) := by decide +kernel
theorem dX12_hasHouse_13 : decode cX12_hasHouse 13 = .ok (.ifCond .ne 13, 3) := by decide +kernel
theorem dX12_hasHouse_16 : decode cX12_hasHouse 16 = .ok (.aload_n 0, 1) := by decide +kernel
theorem dX12_hasHouse_17 : decode cX12_hasHouse 17 = .ok (.getfield 101, 3) := by decide +kernel
theorem dX12_hasHouse_20 : decode cX12_hasHouse 20 = .ok (.iload_n 3, 1) := by decide +kernel
theorem dX12_hasHouse_21 : decode cX12_hasHouse 21 = .ok (.iaload, 1) := by decide +kernel
theorem dX12_hasHouse_22 : decode cX12_hasHouse 22 = .ok (.iload_n 1, 1) := by decide +kernel
theorem dX12_hasHouse_23 : decode cX12_hasHouse 23 = .ok (.if_icmp .ne 7, 3) := by decide +kernel
theorem dX12_hasHouse_26 : decode cX12_hasHouse 26 = .ok (.iconst 1, 1) := by decide +kernel
theorem dX12_hasHouse_27 : decode cX12_hasHouse 27 = .ok (.goto 4, 3) := by decide +kernel
theorem dX12_hasHouse_30 : decode cX12_hasHouse 30 = .ok (.iconst 0, 1) := by decide +kernel
theorem dX12_hasHouse_31 : decode cX12_hasHouse 31 = .ok (.istore_n 2, 1) := by decide +kernel
theorem dX12_hasHouse_32 : decode cX12_hasHouse 32 = .ok (.iinc 3 1, 3) := by decide +kernel
theorem dX12_hasHouse_35 : decode cX12_hasHouse 35 = .ok (.goto (-31), 3) := by decide +kernel
theorem dX12_hasHouse_38 : decode cX12_hasHouse 38 = .ok (.iload_n 2, 1) := by decide +kernel
theorem dX12_hasHouse_39 : decode cX12_hasHouse 39 = .ok (.ireturn, 1) := by decide +kernel
theorem dX12_findAllKept_0 : decode cX12_findAllKept 0 = .ok (.iconst 1, 1) := by decide +kernel
theorem dX12_findAllKept_1 : decode cX12_findAllKept 1 = .ok (.istore_n 1, 1) := by decide +kernel
theorem dX12_findAllKept_2 : decode cX12_findAllKept 2 = .ok (.iconst 0, 1) := by decide +kernel
theorem dX12_findAllKept_3 : decode cX12_findAllKept 3 = .ok (.istore_n 2, 1) := by decide +kernel
theorem dX12_findAllKept_4 : decode cX12_findAllKept 4 = .ok (.iload_n 2, 1) := by decide +kernel
theorem dX12_findAllKept_5 : decode cX12_findAllKept 5 = .ok (.bipush 6, 2) := by decide +kernel
theorem dX12_findAllKept_7 : decode cX12_findAllKept 7 = .ok (.if_icmp .ge 35, 3) := by decide +kernel
theorem dX12_findAllKept_10 : decode cX12_findAllKept 10 = .ok (.iload_n 1, 1) := by decide +kernel
theorem dX12_findAllKept_11 : decode cX12_findAllKept 11 = .ok (.ifCond .eq 23, 3) := by decide +kernel
theorem dX12_findAllKept_14 : decode cX12_findAllKept 14 = .ok (.aload_n 0, 1) := by decide +kernel
theorem dX12_findAllKept_15 : decode cX12_findAllKept 15 = .ok (.iload_n 2, 1) := by decide +kernel
theorem dX12_findAllKept_16 : decode cX12_findAllKept 16 = .ok (.invokevirtual 366, 3) := by decide +kernel
theorem dX12_findAllKept_19 : decode cX12_findAllKept 19 = .ok (.ifCond .eq 11, 3) := by decide +kernel
theorem dX12_findAllKept_22 : decode cX12_findAllKept 22 = .ok (.aload_n 0, 1) := by decide +kernel
theorem dX12_findAllKept_23 : decode cX12_findAllKept 23 = .ok (.iload_n 2, 1) := by decide +kernel
theorem dX12_findAllKept_24 : decode cX12_findAllKept 24 = .ok (.invokevirtual 276, 3) := by decide +kernel
theorem dX12_findAllKept_27 : decode cX12_findAllKept 27 = .ok (.ifCond .le 7, 3) := by decide +kernel
theorem dX12_findAllKept_30 : decode cX12_findAllKept 30 = .ok (.iconst 1, 1) := by decide +kernel
theorem dX12_findAllKept_31 : decode cX12_findAllKept 31 = .ok (.goto 4, 3) := by decide +kernel
theorem dX12_findAllKept_34 : decode cX12_findAllKept 34 = .ok (.iconst 0, 1) := by decide +kernel
theorem dX12_findAllKept_35 : decode cX12_findAllKept 35 = .ok (.istore_n 1, 1) := by decide +kernel
theorem dX12_findAllKept_36 : decode cX12_findAllKept 36 = .ok (.iinc 2 1, 3) := by decide +kernel
theorem dX12_findAllKept_39 : decode cX12_findAllKept 39 = .ok (.goto (-35), 3) := by decide +kernel
theorem dX12_findAllKept_42 : decode cX12_findAllKept 42 = .ok (.iload_n 1, 1) := by decide +kernel
theorem dX12_findAllKept_43 : decode cX12_findAllKept 43 = .ok (.ireturn, 1) := by decide +kernel
theorem dX12_isSafe_0 : decode cX12_isSafe 0 = .ok (.iconst 0, 1) := by decide +kernel
theorem dX12_isSafe_1 : decode cX12_isSafe 1 = .ok (.istore_n 3, 1) := by decide +kernel
theorem dX12_isSafe_2 : decode cX12_isSafe 2 = .ok (.iload_n 3, 1) := by decide +kernel
theorem dX12_isSafe_3 : decode cX12_isSafe 3 = .ok (.aload_n 0, 1) := by decide +kernel

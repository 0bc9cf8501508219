theorem dX5_divideExactly_22 : decode cX5_divideExactly 22 = .ok (.iload_n 3, 1) := by decide +kernel
theorem dX5_divideExactly_23 : decode cX5_divideExactly 23 = .ok (.imul, 1) := by decide +kernel
theorem dX5_divideExactly_24 : decode cX5_divideExactly 24 = .ok (.isub, 1) := by decide +kernel
theorem dX5_divideExactly_25 : decode cX5_divideExactly 25 = .ok (.imul, 1) := by decide +kernel
theorem dX5_divideExactly_26 : decode cX5_divideExactly 26 = .ok (.istore_n 3, 1) := by decide +kernel
theorem dX5_divideExactly_27 : decode cX5_divideExactly 27 = .ok (.iload 4, 2) := by decide +kernel
theorem dX5_divideExactly_29 : decode cX5_divideExactly 29 = .ok (.iconst 2, 1) := by decide +kernel
theorem dX5_divideExactly_30 : decode cX5_divideExactly 30 = .ok (.imul, 1) := by decide +kernel
theorem dX5_divideExactly_31 : decode cX5_divideExactly 31 = .ok (.istore 4, 2) := by decide +kernel
theorem dX5_divideExactly_33 : decode cX5_divideExactly 33 = .ok (.goto (-21), 3) := by decide +kernel
theorem dX5_divideExactly_36 : decode cX5_divideExactly 36 = .ok (.iconst 0, 1) := by decide +kernel
theorem dX5_divideExactly_37 : decode cX5_divideExactly 37 = .ok (.istore 4, 2) := by decide +kernel
theorem dX5_divideExactly_39 : decode cX5_divideExactly 39 = .ok (.iload 4, 2) := by decide +kernel
theorem dX5_divideExactly_41 : decode cX5_divideExactly 41 = .ok (.bipush 16, 2) := by decide +kernel
theorem dX5_divideExactly_43 : decode cX5_divideExactly 43 = .ok (.if_icmp .ge 107, 3) := by decide +kernel
theorem dX5_divideExactly_46 : decode cX5_divideExactly 46 = .ok (.aload_n 0, 1) := by decide +kernel
theorem dX5_divideExactly_47 : decode cX5_divideExactly 47 = .ok (.getfield 11, 3) := by decide +kernel
theorem dX5_divideExactly_50 : decode cX5_divideExactly 50 = .ok (.iload 4, 2) := by decide +kernel
theorem dX5_divideExactly_52 : decode cX5_divideExactly 52 = .ok (.iaload, 1) := by decide +kernel
theorem dX5_divideExactly_53 : decode cX5_divideExactly 53 = .ok (.iload_n 3, 1) := by decide +kernel
theorem dX5_divideExactly_54 : decode cX5_divideExactly 54 = .ok (.imul, 1) := by decide +kernel
theorem dX5_divideExactly_55 : decode cX5_divideExactly 55 = .ok (.ldc 36, 2) := by decide +kernel
theorem dX5_divideExactly_57 : decode cX5_divideExactly 57 = .ok (.iand, 1) := by decide +kernel
theorem dX5_divideExactly_58 : decode cX5_divideExactly 58 = .ok (.istore 5, 2) := by decide +kernel
theorem dX5_divideExactly_60 : decode cX5_divideExactly 60 = .ok (.lconst 0, 1) := by decide +kernel
theorem dX5_divideExactly_61 : decode cX5_divideExactly 61 = .ok (.lstore 6, 2) := by decide +kernel
theorem dX5_divideExactly_63 : decode cX5_divideExactly 63 = .ok (.iconst 0, 1) := by decide +kernel
theorem dX5_divideExactly_64 : decode cX5_divideExactly 64 = .ok (.istore 8, 2) := by decide +kernel
theorem dX5_divideExactly_66 : decode cX5_divideExactly 66 = .ok (.iload 8, 2) := by decide +kernel
theorem dX5_divideExactly_68 : decode cX5_divideExactly 68 = .ok (.iload 4, 2) := by decide +kernel
theorem dX5_divideExactly_70 : decode cX5_divideExactly 70 = .ok (.iadd, 1) := by decide +kernel
theorem dX5_divideExactly_71 : decode cX5_divideExactly 71 = .ok (.bipush 16, 2) := by decide +kernel
theorem dX5_divideExactly_73 : decode cX5_divideExactly 73 = .ok (.if_icmp .ge 62, 3) := by decide +kernel
theorem dX5_divideExactly_76 : decode cX5_divideExactly 76 = .ok (.lload 6, 2) := by decide +kernel
theorem dX5_divideExactly_78 : decode cX5_divideExactly 78 = .ok (.aload_n 0, 1) := by decide +kernel
theorem dX5_divideExactly_79 : decode cX5_divideExactly 79 = .ok (.getfield 11, 3) := by decide +kernel
theorem dX5_divideExactly_82 : decode cX5_divideExactly 82 = .ok (.iload 8, 2) := by decide +kernel
theorem dX5_divideExactly_84 : decode cX5_divideExactly 84 = .ok (.iload 4, 2) := by decide +kernel
theorem dX5_divideExactly_86 : decode cX5_divideExactly 86 = .ok (.iadd, 1) := by decide +kernel
theorem dX5_divideExactly_87 : decode cX5_divideExactly 87 = .ok (.iaload, 1) := by decide +kernel
theorem dX5_divideExactly_88 : decode cX5_divideExactly 88 = .ok (.i2l, 1) := by decide +kernel
theorem dX5_divideExactly_89 : decode cX5_divideExactly 89 = .ok (.iload 5, 2) := by decide +kernel
theorem dX5_divideExactly_91 : decode cX5_divideExactly 91 = .ok (.i2l, 1) := by decide +kernel
theorem dX5_divideExactly_92 : decode cX5_divideExactly 92 = .ok (.aload_n 1, 1) := by decide +kernel
theorem dX5_divideExactly_93 : decode cX5_divideExactly 93 = .ok (.getfield 11, 3) := by decide +kernel
theorem dX5_divideExactly_96 : decode cX5_divideExactly 96 = .ok (.iload 8, 2) := by decide +kernel
theorem dX5_divideExactly_98 : decode cX5_divideExactly 98 = .ok (.iaload, 1) := by decide +kernel
theorem dX5_divideExactly_99 : decode cX5_divideExactly 99 = .ok (.i2l, 1) := by decide +kernel
theorem dX5_divideExactly_100 : decode cX5_divideExactly 100 = .ok (.lmul, 1) := by decide +kernel
theorem dX5_divideExactly_101 : decode cX5_divideExactly 101 = .ok (.lsub, 1) := by decide +kernel
theorem dX5_divideExactly_102 : decode cX5_divideExactly 102 = .ok (.ladd, 1) := by decide +kernel
theorem dX5_divideExactly_103 : decode cX5_divideExactly 103 = .ok (.lstore 6, 2) := by decide +kernel
theorem dX5_divideExactly_105 : decode cX5_divideExactly 105 = .ok (.aload_n 0, 1) := by decide +kernel
theorem dX5_divideExactly_106 : decode cX5_divideExactly 106 = .ok (.getfield 11, 3) := by decide +kernel
theorem dX5_divideExactly_109 : decode cX5_divideExactly 109 = .ok (.iload 8, 2) := by decide +kernel
theorem dX5_divideExactly_111 : decode cX5_divideExactly 111 = .ok (.iload 4, 2) := by decide +kernel
theorem dX5_divideExactly_113 : decode cX5_divideExactly 113 = .ok (.iadd, 1) := by decide +kernel
theorem dX5_divideExactly_114 : decode cX5_divideExactly 114 = .ok (.lload 6, 2) := by decide +kernel
theorem dX5_divideExactly_116 : decode cX5_divideExactly 116 = .ok (.ldc2_w 40, 3) := by decide +kernel
theorem dX5_divideExactly_119 : decode cX5_divideExactly 119 = .ok (.land, 1) := by decide +kernel
theorem dX5_divideExactly_120 : decode cX5_divideExactly 120 = .ok (.l2i, 1) := by decide +kernel
theorem dX5_divideExactly_121 : decode cX5_divideExactly 121 = .ok (.iastore, 1) := by decide +kernel
theorem dX5_divideExactly_122 : decode cX5_divideExactly 122 = .ok (.lload 6, 2) := by decide +kernel
theorem dX5_divideExactly_124 : decode cX5_divideExactly 124 = .ok (.bipush 30, 2) := by decide +kernel
theorem dX5_divideExactly_126 : decode cX5_divideExactly 126 = .ok (.lshr, 1) := by decide +kernel
theorem dX5_divideExactly_127 : decode cX5_divideExactly 127 = .ok (.lstore 6, 2) := by decide +kernel
theorem dX5_divideExactly_129 : decode cX5_divideExactly 129 = .ok (.iinc 8 1, 3) := by decide +kernel
theorem dX5_divideExactly_132 : decode cX5_divideExactly 132 = .ok (.goto (-66), 3) := by decide +kernel
theorem dX5_divideExactly_135 : decode cX5_divideExactly 135 = .ok (.aload_n 0, 1) := by decide +kernel
theorem dX5_divideExactly_136 : decode cX5_divideExactly 136 = .ok (.getfield 15, 3) := by decide +kernel
theorem dX5_divideExactly_139 : decode cX5_divideExactly 139 = .ok (.iload 4, 2) := by decide +kernel
theorem dX5_divideExactly_141 : decode cX5_divideExactly 141 = .ok (.iload 5, 2) := by decide +kernel
theorem dX5_divideExactly_143 : decode cX5_divideExactly 143 = .ok (.iastore, 1) := by decide +kernel
theorem dX5_divideExactly_144 : decode cX5_divideExactly 144 = .ok (.iinc 4 1, 3) := by decide +kernel
theorem dX5_divideExactly_147 : decode cX5_divideExactly 147 = .ok (.goto (-108), 3) := by decide +kernel
theorem dX5_divideExactly_150 : decode cX5_divideExactly 150 = .ok (.aload_n 0, 1) := by decide +kernel
theorem dX5_divideExactly_151 : decode cX5_divideExactly 151 = .ok (.getfield 15, 3) := by decide +kernel
theorem dX5_divideExactly_154 : decode cX5_divideExactly 154 = .ok (.iconst 0, 1) := by decide +kernel
theorem dX5_divideExactly_155 : decode cX5_divideExactly 155 = .ok (.aload_n 0, 1) := by decide +kernel
theorem dX5_divideExactly_156 : decode cX5_divideExactly 156 = .ok (.getfield 11, 3) := by decide +kernel
theorem dX5_divideExactly_159 : decode cX5_divideExactly 159 = .ok (.iconst 0, 1) := by decide +kernel
theorem dX5_divideExactly_160 : decode cX5_divideExactly 160 = .ok (.bipush 16, 2) := by decide +kernel
theorem dX5_divideExactly_162 : decode cX5_divideExactly 162 = .ok (.invokestatic 30, 3) := by decide +kernel
theorem dX5_divideExactly_165 : decode cX5_divideExactly 165 = .ok (.aload_n 0, 1) := by decide +kernel
theorem dX5_divideExactly_166 : decode cX5_divideExactly 166 = .ok (.invokevirtual 37, 3) := by decide +kernel
theorem dX5_divideExactly_169 : decode cX5_divideExactly 169 = .ok (.return_, 1) := by decide +kernel
theorem dX5_mix_0 : decode cX5_mix 0 = .ok (.lload_n 1, 1) := by decide +kernel
theorem dX5_mix_1 : decode cX5_mix 1 = .ok (.lstore_n 3, 1) := by decide +kernel
theorem dX5_mix_2 : decode cX5_mix 2 = .ok (.iconst 0, 1) := by decide +kernel
theorem dX5_mix_3 : decode cX5_mix 3 = .ok (.istore 5, 2) := by decide +kernel
theorem dX5_mix_5 : decode cX5_mix 5 = .ok (.iload 5, 2) := by decide +kernel
theorem dX5_mix_7 : decode cX5_mix 7 = .ok (.aload_n 0, 1) := by decide +kernel
theorem dX5_mix_8 : decode cX5_mix 8 = .ok (.getfield 18, 3) := by decide +kernel
theorem dX5_mix_11 : decode cX5_mix 11 = .ok (.if_icmp .ge 31, 3) := by decide +kernel
theorem dX5_mix_14 : decode cX5_mix 14 = .ok (.iload 5, 2) := by decide +kernel
theorem dX5_mix_16 : decode cX5_mix 16 = .ok (.bipush 16, 2) := by decide +kernel
theorem dX5_mix_18 : decode cX5_mix 18 = .ok (.if_icmp .ge 24, 3) := by decide +kernel
theorem dX5_mix_21 : decode cX5_mix 21 = .ok (.ldc2_w 48, 3) := by decide +kernel
theorem dX5_mix_24 : decode cX5_mix 24 = .ok (.lload_n 3, 1) := by decide +kernel
theorem dX5_mix_25 : decode cX5_mix 25 = .ok (.lmul, 1) := by decide +kernel
theorem dX5_mix_26 : decode cX5_mix 26 = .ok (.aload_n 0, 1) := by decide +kernel
theorem dX5_mix_27 : decode cX5_mix 27 = .ok (.getfield 11, 3) := by decide +kernel
theorem dX5_mix_30 : decode cX5_mix 30 = .ok (.iload 5, 2) := by decide +kernel
theorem dX5_mix_32 : decode cX5_mix 32 = .ok (.iaload, 1) := by decide +kernel
theorem dX5_mix_33 : decode cX5_mix 33 = .ok (.i2l, 1) := by decide +kernel
theorem dX5_mix_34 : decode cX5_mix 34 = .ok (.ladd, 1) := by decide +kernel
theorem dX5_mix_35 : decode cX5_mix 35 = .ok (.lstore_n 3, 1) := by decide +kernel
theorem dX5_mix_36 : decode cX5_mix 36 = .ok (.iinc 5 1, 3) := by decide +kernel
theorem dX5_mix_39 : decode cX5_mix 39 = .ok (.goto (-34), 3) := by decide +kernel
theorem dX5_mix_42 : decode cX5_mix 42 = .ok (.lload_n 3, 1) := by decide +kernel
theorem dX5_mix_43 : decode cX5_mix 43 = .ok (.lreturn, 1) := by decide +kernel
theorem dX5_measure_0 : decode cX5_measure 0 = .ok (.aload_n 0, 1) := by decide +kernel
theorem dX5_measure_1 : decode cX5_measure 1 = .ok (.bipush 16, 2) := by decide +kernel
theorem dX5_measure_3 : decode cX5_measure 3 = .ok (.putfield 18, 3) := by decide +kernel
theorem dX5_measure_6 : decode cX5_measure 6 = .ok (.aload_n 0, 1) := by decide +kernel
theorem dX5_measure_7 : decode cX5_measure 7 = .ok (.getfield 18, 3) := by decide +kernel
theorem dX5_measure_10 : decode cX5_measure 10 = .ok (.ifCond .le 30, 3) := by decide +kernel
theorem dX5_measure_13 : decode cX5_measure 13 = .ok (.aload_n 0, 1) := by decide +kernel
theorem dX5_measure_14 : decode cX5_measure 14 = .ok (.getfield 11, 3) := by decide +kernel
theorem dX5_measure_17 : decode cX5_measure 17 = .ok (.aload_n 0, 1) := by decide +kernel
theorem dX5_measure_18 : decode cX5_measure 18 = .ok (.getfield 18, 3) := by decide +kernel
theorem dX5_measure_21 : decode cX5_measure 21 = .ok (.iconst 1, 1) := by decide +kernel
theorem dX5_measure_22 : decode cX5_measure 22 = .ok (.isub, 1) := by decide +kernel
theorem dX5_measure_23 : decode cX5_measure 23 = .ok (.iaload, 1) := by decide +kernel
theorem dX5_measure_24 : decode cX5_measure 24 = .ok (.ifCond .ne 16, 3) := by decide +kernel
theorem dX5_measure_27 : decode cX5_measure 27 = .ok (.aload_n 0, 1) := by decide +kernel
theorem dX5_measure_28 : decode cX5_measure 28 = .ok (.dup, 1) := by decide +kernel
theorem dX5_measure_29 : decode cX5_measure 29 = .ok (.getfield 18, 3) := by decide +kernel
theorem dX5_measure_32 : decode cX5_measure 32 = .ok (.iconst 1, 1) := by decide +kernel
theorem dX5_measure_33 : decode cX5_measure 33 = .ok (.isub, 1) := by decide +kernel
theorem dX5_measure_34 : decode cX5_measure 34 = .ok (.putfield 18, 3) := by decide +kernel
theorem dX5_measure_37 : decode cX5_measure 37 = .ok (.goto (-31), 3) := by decide +kernel
theorem dX5_measure_40 : decode cX5_measure 40 = .ok (.return_, 1) := by decide +kernel
theorem dX6_init_0 : decode cX6_init 0 = .ok (.aload_n 0, 1) := by decide +kernel
theorem dX6_init_1 : decode cX6_init 1 = .ok (.invokespecial 1, 3) := by decide +kernel
theorem dX6_init_4 : decode cX6_init 4 = .ok (.aload_n 0, 1) := by decide +kernel
theorem dX6_init_5 : decode cX6_init 5 = .ok (.new 7, 3) := by decide +kernel
theorem dX6_init_8 : decode cX6_init 8 = .ok (.dup, 1) := by decide +kernel
theorem dX6_init_9 : decode cX6_init 9 = .ok (.invokespecial 9, 3) := by decide +kernel
theorem dX6_init_12 : decode cX6_init 12 = .ok (.putfield 10, 3) := by decide +kernel
theorem dX6_init_15 : decode cX6_init 15 = .ok (.aload_n 0, 1) := by decide +kernel
theorem dX6_init_16 : decode cX6_init 16 = .ok (.new 7, 3) := by decide +kernel
theorem dX6_init_19 : decode cX6_init 19 = .ok (.dup, 1) := by decide +kernel
theorem dX6_init_20 : decode cX6_init 20 = .ok (.invokespecial 9, 3) := by decide +kernel
theorem dX6_init_23 : decode cX6_init 23 = .ok (.putfield 16, 3) := by decide +kernel
theorem dX6_init_26 : decode cX6_init 26 = .ok (.aload_n 0, 1) := by decide +kernel
theorem dX6_init_27 : decode cX6_init 27 = .ok (.iconst 2, 1) := by decide +kernel
theorem dX6_init_28 : decode cX6_init 28 = .ok (.anewarray 7, 3) := by decide +kernel
theorem dX6_init_31 : decode cX6_init 31 = .ok (.dup, 1) := by decide +kernel
theorem dX6_init_32 : decode cX6_init 32 = .ok (.iconst 0, 1) := by decide +kernel
theorem dX6_init_33 : decode cX6_init 33 = .ok (.new 7, 3) := by decide +kernel
theorem dX6_init_36 : decode cX6_init 36 = .ok (.dup, 1) := by decide +kernel
theorem dX6_init_37 : decode cX6_init 37 = .ok (.invokespecial 9, 3) := by decide +kernel
theorem dX6_init_40 : decode cX6_init 40 = .ok (.aastore, 1) := by decide +kernel
theorem dX6_init_41 : decode cX6_init 41 = .ok (.dup, 1) := by decide +kernel
theorem dX6_init_42 : decode cX6_init 42 = .ok (.iconst 1, 1) := by decide +kernel
theorem dX6_init_43 : decode cX6_init 43 = .ok (.new 7, 3) := by decide +kernel
theorem dX6_init_46 : decode cX6_init 46 = .ok (.dup, 1) := by decide +kernel
theorem dX6_init_47 : decode cX6_init 47 = .ok (.invokespecial 9, 3) := by decide +kernel
theorem dX6_init_50 : decode cX6_init 50 = .ok (.aastore, 1) := by decide +kernel
theorem dX6_init_51 : decode cX6_init 51 = .ok (.putfield 19, 3) := by decide +kernel
theorem dX6_init_54 : decode cX6_init 54 = .ok (.aload_n 0, 1) := by decide +kernel
theorem dX6_init_55 : decode cX6_init 55 = .ok (.iconst 2, 1) := by decide +kernel
theorem dX6_init_56 : decode cX6_init 56 = .ok (.newarray .boolean, 2) := by decide +kernel
theorem dX6_init_58 : decode cX6_init 58 = .ok (.putfield 23, 3) := by decide +kernel
theorem dX6_init_61 : decode cX6_init 61 = .ok (.aload_n 0, 1) := by decide +kernel
theorem dX6_init_62 : decode cX6_init 62 = .ok (.new 27, 3) := by decide +kernel
theorem dX6_init_65 : decode cX6_init 65 = .ok (.dup, 1) := by decide +kernel
theorem dX6_init_66 : decode cX6_init 66 = .ok (.invokespecial 29, 3) := by decide +kernel
theorem dX6_init_69 : decode cX6_init 69 = .ok (.putfield 30, 3) := by decide +kernel
theorem dX6_init_72 : decode cX6_init 72 = .ok (.aload_n 0, 1) := by decide +kernel
theorem dX6_init_73 : decode cX6_init 73 = .ok (.new 34, 3) := by decide +kernel
theorem dX6_init_76 : decode cX6_init 76 = .ok (.dup, 1) := by decide +kernel
theorem dX6_init_77 : decode cX6_init 77 = .ok (.invokespecial 36, 3) := by decide +kernel
theorem dX6_init_80 : decode cX6_init 80 = .ok (.putfield 37, 3) := by decide +kernel
theorem dX6_init_83 : decode cX6_init 83 = .ok (.aload_n 0, 1) := by decide +kernel
theorem dX6_init_84 : decode cX6_init 84 = .ok (.new 41, 3) := by decide +kernel
theorem dX6_init_87 : decode cX6_init 87 = .ok (.dup, 1) := by decide +kernel
theorem dX6_init_88 : decode cX6_init 88 = .ok (.invokespecial 43, 3) := by decide +kernel
theorem dX6_init_91 : decode cX6_init 91 = .ok (.putfield 44, 3) := by decide +kernel
theorem dX6_init_94 : decode cX6_init 94 = .ok (.aload_n 0, 1) := by decide +kernel
theorem dX6_init_95 : decode cX6_init 95 = .ok (.new 48, 3) := by decide +kernel
theorem dX6_init_98 : decode cX6_init 98 = .ok (.dup, 1) := by decide +kernel
theorem dX6_init_99 : decode cX6_init 99 = .ok (.invokespecial 50, 3) := by decide +kernel
theorem dX6_init_102 : decode cX6_init 102 = .ok (.putfield 51, 3) := by decide +kernel
theorem dX6_init_105 : decode cX6_init 105 = .ok (.aload_n 0, 1) := by decide +kernel
theorem dX6_init_106 : decode cX6_init 106 = .ok (.new 55, 3) := by decide +kernel
theorem dX6_init_109 : decode cX6_init 109 = .ok (.dup, 1) := by decide +kernel
theorem dX6_init_110 : decode cX6_init 110 = .ok (.invokespecial 57, 3) := by decide +kernel
theorem dX6_init_113 : decode cX6_init 113 = .ok (.putfield 58, 3) := by decide +kernel
theorem dX6_init_116 : decode cX6_init 116 = .ok (.aload_n 0, 1) := by decide +kernel
theorem dX6_init_117 : decode cX6_init 117 = .ok (.new 55, 3) := by decide +kernel
theorem dX6_init_120 : decode cX6_init 120 = .ok (.dup, 1) := by decide +kernel
theorem dX6_init_121 : decode cX6_init 121 = .ok (.invokespecial 57, 3) := by decide +kernel
theorem dX6_init_124 : decode cX6_init 124 = .ok (.putfield 62, 3) := by decide +kernel
theorem dX6_init_127 : decode cX6_init 127 = .ok (.aload_n 0, 1) := by decide +kernel
theorem dX6_init_128 : decode cX6_init 128 = .ok (.new 55, 3) := by decide +kernel
theorem dX6_init_131 : decode cX6_init 131 = .ok (.dup, 1) := by decide +kernel
theorem dX6_init_132 : decode cX6_init 132 = .ok (.invokespecial 57, 3) := by decide +kernel
theorem dX6_init_135 : decode cX6_init 135 = .ok (.putfield 65, 3) := by decide +kernel
theorem dX6_init_138 : decode cX6_init 138 = .ok (.aload_n 0, 1) := by decide +kernel
theorem dX6_init_139 : decode cX6_init 139 = .ok (.iconst 3, 1) := by decide +kernel
theorem dX6_init_140 : decode cX6_init 140 = .ok (.newarray .int, 2) := by decide +kernel
theorem dX6_init_142 : decode cX6_init 142 = .ok (.putfield 68, 3) := by decide +kernel
theorem dX6_init_145 : decode cX6_init 145 = .ok (.return_, 1) := by decide +kernel
theorem dX6_stuff_0 : decode cX6_stuff 0 = .ok (.aload_n 0, 1) := by decide +kernel
theorem dX6_stuff_1 : decode cX6_stuff 1 = .ok (.aload_n 0, 1) := by decide +kernel
theorem dX6_stuff_2 : decode cX6_stuff 2 = .ok (.getfield 10, 3) := by decide +kernel
theorem dX6_stuff_5 : decode cX6_stuff 5 = .ok (.iload_n 1, 1) := by decide +kernel
theorem dX6_stuff_6 : decode cX6_stuff 6 = .ok (.iload_n 2, 1) := by decide +kernel
theorem dX6_stuff_7 : decode cX6_stuff 7 = .ok (.iload_n 3, 1) := by decide +kernel
theorem dX6_stuff_8 : decode cX6_stuff 8 = .ok (.iload 4, 2) := by decide +kernel
theorem dX6_stuff_10 : decode cX6_stuff 10 = .ok (.invokevirtual 72, 3) := by decide +kernel
theorem dX6_stuff_13 : decode cX6_stuff 13 = .ok (.invokevirtual 76, 3) := by decide +kernel
theorem dX6_stuff_16 : decode cX6_stuff 16 = .ok (.ireturn, 1) := by decide +kernel
theorem dX6_put_0 : decode cX6_put 0 = .ok (.aload_n 0, 1) := by decide +kernel
theorem dX6_put_1 : decode cX6_put 1 = .ok (.aload_n 0, 1) := by decide +kernel
theorem dX6_put_2 : decode cX6_put 2 = .ok (.getfield 10, 3) := by decide +kernel
theorem dX6_put_5 : decode cX6_put 5 = .ok (.iload_n 1, 1) := by decide +kernel
theorem dX6_put_6 : decode cX6_put 6 = .ok (.iload_n 2, 1) := by decide +kernel
theorem dX6_put_7 : decode cX6_put 7 = .ok (.invokevirtual 80, 3) := by decide +kernel
theorem dX6_put_10 : decode cX6_put 10 = .ok (.invokevirtual 76, 3) := by decide +kernel
theorem dX6_put_13 : decode cX6_put 13 = .ok (.ireturn, 1) := by decide +kernel
theorem dX6_habit_0 : decode cX6_habit 0 = .ok (.aload_n 0, 1) := by decide +kernel
theorem dX6_habit_1 : decode cX6_habit 1 = .ok (.aload_n 0, 1) := by decide +kernel
theorem dX6_habit_2 : decode cX6_habit 2 = .ok (.getfield 10, 3) := by decide +kernel
theorem dX6_habit_5 : decode cX6_habit 5 = .ok (.iload_n 1, 1) := by decide +kernel
theorem dX6_habit_6 : decode cX6_habit 6 = .ok (.iload_n 2, 1) := by decide +kernel
theorem dX6_habit_7 : decode cX6_habit 7 = .ok (.invokevirtual 84, 3) := by decide +kernel
theorem dX6_habit_10 : decode cX6_habit 10 = .ok (.invokevirtual 76, 3) := by decide +kernel
theorem dX6_habit_13 : decode cX6_habit 13 = .ok (.ireturn, 1) := by decide +kernel
theorem dX6_trace_0 : decode cX6_trace 0 = .ok (.aload_n 0, 1) := by decide +kernel
theorem dX6_trace_1 : decode cX6_trace 1 = .ok (.aload_n 0, 1) := by decide +kernel
theorem dX6_trace_2 : decode cX6_trace 2 = .ok (.getfield 10, 3) := by decide +kernel
theorem dX6_trace_5 : decode cX6_trace 5 = .ok (.iload_n 1, 1) := by decide +kernel
theorem dX6_trace_6 : decode cX6_trace 6 = .ok (.iload_n 2, 1) := by decide +kernel
theorem dX6_trace_7 : decode cX6_trace 7 = .ok (.iload_n 3, 1) := by decide +kernel
theorem dX6_trace_8 : decode cX6_trace 8 = .ok (.invokevirtual 87, 3) := by decide +kernel
theorem dX6_trace_11 : decode cX6_trace 11 = .ok (.invokevirtual 76, 3) := by decide +kernel
theorem dX6_trace_14 : decode cX6_trace 14 = .ok (.ireturn, 1) := by decide +kernel
theorem dX6_aside_0 : decode cX6_aside 0 = .ok (.aload_n 0, 1) := by decide +kernel
theorem dX6_aside_1 : decode cX6_aside 1 = .ok (.aload_n 0, 1) := by decide +kernel
theorem dX6_aside_2 : decode cX6_aside 2 = .ok (.getfield 10, 3) := by decide +kernel
theorem dX6_aside_5 : decode cX6_aside 5 = .ok (.iload_n 1, 1) := by decide +kernel
theorem dX6_aside_6 : decode cX6_aside 6 = .ok (.iload_n 2, 1) := by decide +kernel
theorem dX6_aside_7 : decode cX6_aside 7 = .ok (.invokevirtual 91, 3) := by decide +kernel
theorem dX6_aside_10 : decode cX6_aside 10 = .ok (.invokevirtual 76, 3) := by decide +kernel
theorem dX6_aside_13 : decode cX6_aside 13 = .ok (.ireturn, 1) := by decide +kernel
theorem dX6_copy_0 : decode cX6_copy 0 = .ok (.aload_n 0, 1) := by decide +kernel
theorem dX6_copy_1 : decode cX6_copy 1 = .ok (.getfield 10, 3) := by decide +kernel
theorem dX6_copy_4 : decode cX6_copy 4 = .ok (.iload_n 1, 1) := by decide +kernel
theorem dX6_copy_5 : decode cX6_copy 5 = .ok (.iload_n 2, 1) := by decide +kernel
theorem dX6_copy_6 : decode cX6_copy 6 = .ok (.invokevirtual 95, 3) := by decide +kernel
theorem dX6_copy_9 : decode cX6_copy 9 = .ok (.istore_n 3, 1) := by decide +kernel
theorem dX6_copy_10 : decode cX6_copy 10 = .ok (.iload_n 3, 1) := by decide +kernel
theorem dX6_copy_11 : decode cX6_copy 11 = .ok (.bipush (-10), 2) := by decide +kernel
theorem dX6_copy_13 : decode cX6_copy 13 = .ok (.if_icmp .ne 10, 3) := by decide +kernel
theorem dX6_copy_16 : decode cX6_copy 16 = .ok (.aload_n 0, 1) := by decide +kernel
theorem dX6_copy_17 : decode cX6_copy 17 = .ok (.bipush (-2), 2) := by decide +kernel
theorem dX6_copy_19 : decode cX6_copy 19 = .ok (.invokevirtual 76, 3) := by decide +kernel
theorem dX6_copy_22 : decode cX6_copy 22 = .ok (.pop, 1) := by decide +kernel
theorem dX6_copy_23 : decode cX6_copy 23 = .ok (.iload_n 3, 1) := by decide +kernel
theorem dX6_copy_24 : decode cX6_copy 24 = .ok (.ireturn, 1) := by decide +kernel
theorem dX6_type_0 : decode cX6_type 0 = .ok (.aload_n 0, 1) := by decide +kernel
theorem dX6_type_1 : decode cX6_type 1 = .ok (.aload_n 0, 1) := by decide +kernel
theorem dX6_type_2 : decode cX6_type 2 = .ok (.getfield 30, 3) := by decide +kernel
theorem dX6_type_5 : decode cX6_type 5 = .ok (.lload_n 1, 1) := by decide +kernel
theorem dX6_type_6 : decode cX6_type 6 = .ok (.iload_n 3, 1) := by decide +kernel
theorem dX6_type_7 : decode cX6_type 7 = .ok (.invokevirtual 98, 3) := by decide +kernel
theorem dX6_type_10 : decode cX6_type 10 = .ok (.invokevirtual 76, 3) := by decide +kernel
theorem dX6_type_13 : decode cX6_type 13 = .ok (.ireturn, 1) := by decide +kernel
theorem dX6_clear_0 : decode cX6_clear 0 = .ok (.aload_n 0, 1) := by decide +kernel
theorem dX6_clear_1 : decode cX6_clear 1 = .ok (.getfield 30, 3) := by decide +kernel
theorem dX6_clear_4 : decode cX6_clear 4 = .ok (.invokevirtual 102, 3) := by decide +kernel
theorem dX6_clear_7 : decode cX6_clear 7 = .ok (.ireturn, 1) := by decide +kernel
theorem dX6_statue_0 : decode cX6_statue 0 = .ok (.aload_n 0, 1) := by decide +kernel
theorem dX6_statue_1 : decode cX6_statue 1 = .ok (.getfield 30, 3) := by decide +kernel
theorem dX6_statue_4 : decode cX6_statue 4 = .ok (.aload_n 0, 1) := by decide +kernel
theorem dX6_statue_5 : decode cX6_statue 5 = .ok (.getfield 16, 3) := by decide +kernel
theorem dX6_statue_8 : decode cX6_statue 8 = .ok (.invokevirtual 106, 3) := by decide +kernel
theorem dX6_statue_11 : decode cX6_statue 11 = .ok (.istore_n 1, 1) := by decide +kernel
theorem dX6_statue_12 : decode cX6_statue 12 = .ok (.iload_n 1, 1) := by decide +kernel
theorem dX6_statue_13 : decode cX6_statue 13 = .ok (.ifCond .lt 14, 3) := by decide +kernel
theorem dX6_statue_16 : decode cX6_statue 16 = .ok (.aload_n 0, 1) := by decide +kernel
theorem dX6_statue_17 : decode cX6_statue 17 = .ok (.getfield 10, 3) := by decide +kernel
theorem dX6_statue_20 : decode cX6_statue 20 = .ok (.aload_n 0, 1) := by decide +kernel
theorem dX6_statue_21 : decode cX6_statue 21 = .ok (.getfield 16, 3) := by decide +kernel
theorem dX6_statue_24 : decode cX6_statue 24 = .ok (.invokevirtual 110, 3) := by decide +kernel
theorem dX6_statue_27 : decode cX6_statue 27 = .ok (.iload_n 1, 1) := by decide +kernel
theorem dX6_statue_28 : decode cX6_statue 28 = .ok (.ireturn, 1) := by decide +kernel
theorem dX6_left_0 : decode cX6_left 0 = .ok (.iload_n 1, 1) := by decide +kernel
theorem dX6_left_1 : decode cX6_left 1 = .ok (.invokestatic 114, 3) := by decide +kernel
theorem dX6_left_4 : decode cX6_left 4 = .ok (.ifCond .eq 23, 3) := by decide +kernel
theorem dX6_left_7 : decode cX6_left 7 = .ok (.aload_n 0, 1) := by decide +kernel
theorem dX6_left_8 : decode cX6_left 8 = .ok (.getfield 10, 3) := by decide +kernel
theorem dX6_left_11 : decode cX6_left 11 = .ok (.iload_n 2, 1) := by decide +kernel
theorem dX6_left_12 : decode cX6_left 12 = .ok (.invokevirtual 118, 3) := by decide +kernel
theorem dX6_left_15 : decode cX6_left 15 = .ok (.ifCond .eq 12, 3) := by decide +kernel
theorem dX6_left_18 : decode cX6_left 18 = .ok (.iload_n 3, 1) := by decide +kernel
theorem dX6_left_19 : decode cX6_left 19 = .ok (.iconst 0, 1) := by decide +kernel
theorem dX6_left_20 : decode cX6_left 20 = .ok (.iconst 2, 1) := by decide +kernel
theorem dX6_left_21 : decode cX6_left 21 = .ok (.invokestatic 121, 3) := by decide +kernel
theorem dX6_left_24 : decode cX6_left 24 = .ok (.ifCond .ne 10, 3) := by decide +kernel
theorem dX6_left_27 : decode cX6_left 27 = .ok (.aload_n 0, 1) := by decide +kernel
theorem dX6_left_28 : decode cX6_left 28 = .ok (.bipush (-2), 2) := by decide +kernel
theorem dX6_left_30 : decode cX6_left 30 = .ok (.invokevirtual 76, 3) := by decide +kernel
theorem dX6_left_33 : decode cX6_left 33 = .ok (.ireturn, 1) := by decide +kernel
theorem dX6_left_34 : decode cX6_left 34 = .ok (.aload_n 0, 1) := by decide +kernel
theorem dX6_left_35 : decode cX6_left 35 = .ok (.getfield 10, 3) := by decide +kernel
theorem dX6_left_38 : decode cX6_left 38 = .ok (.iload_n 1, 1) := by decide +kernel
theorem dX6_left_39 : decode cX6_left 39 = .ok (.invokestatic 125, 3) := by decide +kernel
theorem dX6_left_42 : decode cX6_left 42 = .ok (.invokevirtual 128, 3) := by decide +kernel
theorem dX6_left_45 : decode cX6_left 45 = .ok (.istore 4, 2) := by decide +kernel
theorem dX6_left_47 : decode cX6_left 47 = .ok (.iload_n 3, 1) := by decide +kernel
theorem dX6_left_48 : decode cX6_left 48 = .ok (.ifCond .ne 14, 3) := by decide +kernel
theorem dX6_left_51 : decode cX6_left 51 = .ok (.aload_n 0, 1) := by decide +kernel
theorem dX6_left_52 : decode cX6_left 52 = .ok (.getfield 10, 3) := by decide +kernel
theorem dX6_left_55 : decode cX6_left 55 = .ok (.iload_n 2, 1) := by decide +kernel
theorem dX6_left_56 : decode cX6_left 56 = .ok (.iload 4, 2) := by decide +kernel
theorem dX6_left_58 : decode cX6_left 58 = .ok (.invokevirtual 131, 3) := by decide +kernel
theorem dX6_left_61 : decode cX6_left 61 = .ok (.ireturn, 1) := by decide +kernel
theorem dX6_left_62 : decode cX6_left 62 = .ok (.iload_n 3, 1) := by decide +kernel
theorem dX6_left_63 : decode cX6_left 63 = .ok (.iconst 1, 1) := by decide +kernel
theorem dX6_left_64 : decode cX6_left 64 = .ok (.if_icmp .ne 16, 3) := by decide +kernel
theorem dX6_left_67 : decode cX6_left 67 = .ok (.aload_n 0, 1) := by decide +kernel
theorem dX6_left_68 : decode cX6_left 68 = .ok (.getfield 10, 3) := by decide +kernel
theorem dX6_left_71 : decode cX6_left 71 = .ok (.iload_n 2, 1) := by decide +kernel
theorem dX6_left_72 : decode cX6_left 72 = .ok (.iload 4, 2) := by decide +kernel
theorem dX6_left_74 : decode cX6_left 74 = .ok (.invokevirtual 134, 3) := by decide +kernel
theorem dX6_left_77 : decode cX6_left 77 = .ok (.goto 13, 3) := by decide +kernel
theorem dX6_left_80 : decode cX6_left 80 = .ok (.aload_n 0, 1) := by decide +kernel
theorem dX6_left_81 : decode cX6_left 81 = .ok (.getfield 10, 3) := by decide +kernel
theorem dX6_left_84 : decode cX6_left 84 = .ok (.iload_n 2, 1) := by decide +kernel
theorem dX6_left_85 : decode cX6_left 85 = .ok (.iload 4, 2) := by decide +kernel
theorem dX6_left_87 : decode cX6_left 87 = .ok (.invokevirtual 137, 3) := by decide +kernel
theorem dX6_left_90 : decode cX6_left 90 = .ok (.ireturn, 1) := by decide +kernel
theorem dX6_shines_0 : decode cX6_shines 0 = .ok (.iload_n 1, 1) := by decide +kernel
theorem dX6_shines_1 : decode cX6_shines 1 = .ok (.invokestatic 114, 3) := by decide +kernel
theorem dX6_shines_4 : decode cX6_shines 4 = .ok (.ifCond .eq 23, 3) := by decide +kernel
theorem dX6_shines_7 : decode cX6_shines 7 = .ok (.aload_n 0, 1) := by decide +kernel
theorem dX6_shines_8 : decode cX6_shines 8 = .ok (.getfield 10, 3) := by decide +kernel
theorem dX6_shines_11 : decode cX6_shines 11 = .ok (.iload_n 2, 1) := by decide +kernel
theorem dX6_shines_12 : decode cX6_shines 12 = .ok (.invokevirtual 118, 3) := by decide +kernel
theorem dX6_shines_15 : decode cX6_shines 15 = .ok (.ifCond .eq 12, 3) := by decide +kernel
theorem dX6_shines_18 : decode cX6_shines 18 = .ok (.iload_n 3, 1) := by decide +kernel
theorem dX6_shines_19 : decode cX6_shines 19 = .ok (.iconst 0, 1) := by decide +kernel
theorem dX6_shines_20 : decode cX6_shines 20 = .ok (.iconst 3, 1) := by decide +kernel
theorem dX6_shines_21 : decode cX6_shines 21 = .ok (.invokestatic 121, 3) := by decide +kernel
theorem dX6_shines_24 : decode cX6_shines 24 = .ok (.ifCond .ne 10, 3) := by decide +kernel
theorem dX6_shines_27 : decode cX6_shines 27 = .ok (.aload_n 0, 1) := by decide +kernel
theorem dX6_shines_28 : decode cX6_shines 28 = .ok (.bipush (-2), 2) := by decide +kernel
theorem dX6_shines_30 : decode cX6_shines 30 = .ok (.invokevirtual 76, 3) := by decide +kernel
theorem dX6_shines_33 : decode cX6_shines 33 = .ok (.ireturn, 1) := by decide +kernel
theorem dX6_shines_34 : decode cX6_shines 34 = .ok (.aload_n 0, 1) := by decide +kernel
theorem dX6_shines_35 : decode cX6_shines 35 = .ok (.getfield 10, 3) := by decide +kernel
theorem dX6_shines_38 : decode cX6_shines 38 = .ok (.iload_n 2, 1) := by decide +kernel
theorem dX6_shines_39 : decode cX6_shines 39 = .ok (.aload_n 0, 1) := by decide +kernel
theorem dX6_shines_40 : decode cX6_shines 40 = .ok (.getfield 10, 3) := by decide +kernel
theorem dX6_shines_43 : decode cX6_shines 43 = .ok (.iload_n 1, 1) := by decide +kernel
theorem dX6_shines_44 : decode cX6_shines 44 = .ok (.invokestatic 125, 3) := by decide +kernel
theorem dX6_shines_47 : decode cX6_shines 47 = .ok (.invokevirtual 128, 3) := by decide +kernel
theorem dX6_shines_50 : decode cX6_shines 50 = .ok (.invokevirtual 140, 3) := by decide +kernel
theorem dX6_shines_53 : decode cX6_shines 53 = .ok (.iload_n 3, 1) := by decide +kernel
theorem dX6_shines_54 : decode cX6_shines 54 = .ok (.ishr, 1) := by decide +kernel
theorem dX6_shines_55 : decode cX6_shines 55 = .ok (.iconst 1, 1) := by decide +kernel
theorem dX6_shines_56 : decode cX6_shines 56 = .ok (.iand, 1) := by decide +kernel
theorem dX6_shines_57 : decode cX6_shines 57 = .ok (.ireturn, 1) := by decide +kernel
theorem dX6_fits_0 : decode cX6_fits 0 = .ok (.iload_n 1, 1) := by decide +kernel
theorem dX6_fits_1 : decode cX6_fits 1 = .ok (.invokestatic 114, 3) := by decide +kernel
theorem dX6_fits_4 : decode cX6_fits 4 = .ok (.ifCond .eq 14, 3) := by decide +kernel
theorem dX6_fits_7 : decode cX6_fits 7 = .ok (.aload_n 0, 1) := by decide +kernel
theorem dX6_fits_8 : decode cX6_fits 8 = .ok (.getfield 10, 3) := by decide +kernel
theorem dX6_fits_11 : decode cX6_fits 11 = .ok (.iload_n 2, 1) := by decide +kernel
theorem dX6_fits_12 : decode cX6_fits 12 = .ok (.invokevirtual 118, 3) := by decide +kernel
theorem dX6_fits_15 : decode cX6_fits 15 = .ok (.ifCond .ne 10, 3) := by decide +kernel
theorem dX6_fits_18 : decode cX6_fits 18 = .ok (.aload_n 0, 1) := by decide +kernel
theorem dX6_fits_19 : decode cX6_fits 19 = .ok (.bipush (-2), 2) := by decide +kernel
theorem dX6_fits_21 : decode cX6_fits 21 = .ok (.invokevirtual 76, 3) := by decide +kernel
theorem dX6_fits_24 : decode cX6_fits 24 = .ok (.ireturn, 1) := by decide +kernel
theorem dX6_fits_25 : decode cX6_fits 25 = .ok (.aload_n 0, 1) := by decide +kernel
theorem dX6_fits_26 : decode cX6_fits 26 = .ok (.aload_n 0, 1) := by decide +kernel
theorem dX6_fits_27 : decode cX6_fits 27 = .ok (.getfield 10, 3) := by decide +kernel
theorem dX6_fits_30 : decode cX6_fits 30 = .ok (.iload_n 1, 1) := by decide +kernel
theorem dX6_fits_31 : decode cX6_fits 31 = .ok (.bipush 8, 2) := by decide +kernel
theorem dX6_fits_33 : decode cX6_fits 33 = .ok (.idiv, 1) := by decide +kernel
theorem dX6_fits_34 : decode cX6_fits 34 = .ok (.invokevirtual 143, 3) := by decide +kernel
theorem dX6_fits_37 : decode cX6_fits 37 = .ok (.aload_n 0, 1) := by decide +kernel
theorem dX6_fits_38 : decode cX6_fits 38 = .ok (.getfield 44, 3) := by decide +kernel
theorem dX6_fits_41 : decode cX6_fits 41 = .ok (.iload_n 1, 1) := by decide +kernel
theorem dX6_fits_42 : decode cX6_fits 42 = .ok (.bipush 8, 2) := by decide +kernel
theorem dX6_fits_44 : decode cX6_fits 44 = .ok (.irem, 1) := by decide +kernel
theorem dX6_fits_45 : decode cX6_fits 45 = .ok (.iload_n 2, 1) := by decide +kernel
theorem dX6_fits_46 : decode cX6_fits 46 = .ok (.invokevirtual 147, 3) := by decide +kernel
theorem dX6_fits_49 : decode cX6_fits 49 = .ok (.ifCond .eq 7, 3) := by decide +kernel
theorem dX6_fits_52 : decode cX6_fits 52 = .ok (.iconst 1, 1) := by decide +kernel
theorem dX6_fits_53 : decode cX6_fits 53 = .ok (.goto 4, 3) := by decide +kernel
theorem dX6_fits_56 : decode cX6_fits 56 = .ok (.iconst 0, 1) := by decide +kernel
theorem dX6_fits_57 : decode cX6_fits 57 = .ok (.ireturn, 1) := by decide +kernel
theorem dX6_odds_0 : decode cX6_odds 0 = .ok (.iload_n 1, 1) := by decide +kernel
theorem dX6_odds_1 : decode cX6_odds 1 = .ok (.invokestatic 114, 3) := by decide +kernel
theorem dX6_odds_4 : decode cX6_odds 4 = .ok (.ifCond .eq 14, 3) := by decide +kernel
theorem dX6_odds_7 : decode cX6_odds 7 = .ok (.aload_n 0, 1) := by decide +kernel
theorem dX6_odds_8 : decode cX6_odds 8 = .ok (.getfield 10, 3) := by decide +kernel
theorem dX6_odds_11 : decode cX6_odds 11 = .ok (.iload_n 2, 1) := by decide +kernel
theorem dX6_odds_12 : decode cX6_odds 12 = .ok (.invokevirtual 118, 3) := by decide +kernel
theorem dX6_odds_15 : decode cX6_odds 15 = .ok (.ifCond .ne 10, 3) := by decide +kernel
theorem dX6_odds_18 : decode cX6_odds 18 = .ok (.aload_n 0, 1) := by decide +kernel
theorem dX6_odds_19 : decode cX6_odds 19 = .ok (.bipush (-2), 2) := by decide +kernel
theorem dX6_odds_21 : decode cX6_odds 21 = .ok (.invokevirtual 76, 3) := by decide +kernel
theorem dX6_odds_24 : decode cX6_odds 24 = .ok (.ireturn, 1) := by decide +kernel
theorem dX6_odds_25 : decode cX6_odds 25 = .ok (.aload_n 0, 1) := by decide +kernel
theorem dX6_odds_26 : decode cX6_odds 26 = .ok (.iload_n 1, 1) := by decide +kernel
theorem dX6_odds_27 : decode cX6_odds 27 = .ok (.invokevirtual 151, 3) := by decide +kernel
theorem dX6_odds_30 : decode cX6_odds 30 = .ok (.ifCond .ne 10, 3) := by decide +kernel
theorem dX6_odds_33 : decode cX6_odds 33 = .ok (.aload_n 0, 1) := by decide +kernel
theorem dX6_odds_34 : decode cX6_odds 34 = .ok (.bipush (-3), 2) := by decide +kernel
theorem dX6_odds_36 : decode cX6_odds 36 = .ok (.invokevirtual 76, 3) := by decide +kernel
theorem dX6_odds_39 : decode cX6_odds 39 = .ok (.ireturn, 1) := by decide +kernel
theorem dX6_odds_40 : decode cX6_odds 40 = .ok (.aload_n 0, 1) := by decide +kernel
theorem dX6_odds_41 : decode cX6_odds 41 = .ok (.getfield 51, 3) := by decide +kernel
theorem dX6_odds_44 : decode cX6_odds 44 = .ok (.aload_n 0, 1) := by decide +kernel
theorem dX6_odds_45 : decode cX6_odds 45 = .ok (.getfield 44, 3) := by decide +kernel
theorem dX6_odds_48 : decode cX6_odds 48 = .ok (.iload_n 1, 1) := by decide +kernel
theorem dX6_odds_49 : decode cX6_odds 49 = .ok (.bipush 8, 2) := by decide +kernel
theorem dX6_odds_51 : decode cX6_odds 51 = .ok (.irem, 1) := by decide +kernel
theorem dX6_odds_52 : decode cX6_odds 52 = .ok (.iload_n 2, 1) := by decide +kernel
theorem dX6_odds_53 : decode cX6_odds 53 = .ok (.invokevirtual 154, 3) := by decide +kernel
theorem dX6_odds_56 : decode cX6_odds 56 = .ok (.aload_n 0, 1) := by decide +kernel
theorem dX6_odds_57 : decode cX6_odds 57 = .ok (.getfield 44, 3) := by decide +kernel
theorem dX6_odds_60 : decode cX6_odds 60 = .ok (.getfield 158, 3) := by decide +kernel
theorem dX6_odds_63 : decode cX6_odds 63 = .ok (.invokevirtual 162, 3) := by decide +kernel
theorem dX6_odds_66 : decode cX6_odds 66 = .ok (.iconst 1, 1) := by decide +kernel
theorem dX6_odds_67 : decode cX6_odds 67 = .ok (.ireturn, 1) := by decide +kernel
theorem dX6_above_0 : decode cX6_above 0 = .ok (.iload_n 1, 1) := by decide +kernel
theorem dX6_above_1 : decode cX6_above 1 = .ok (.invokestatic 114, 3) := by decide +kernel
theorem dX6_above_4 : decode cX6_above 4 = .ok (.ifCond .ne 10, 3) := by decide +kernel
theorem dX6_above_7 : decode cX6_above 7 = .ok (.aload_n 0, 1) := by decide +kernel
theorem dX6_above_8 : decode cX6_above 8 = .ok (.bipush (-2), 2) := by decide +kernel
theorem dX6_above_10 : decode cX6_above 10 = .ok (.invokevirtual 76, 3) := by decide +kernel
theorem dX6_above_13 : decode cX6_above 13 = .ok (.ireturn, 1) := by decide +kernel
theorem dX6_above_14 : decode cX6_above 14 = .ok (.aload_n 0, 1) := by decide +kernel
theorem dX6_above_15 : decode cX6_above 15 = .ok (.iload_n 1, 1) := by decide +kernel
theorem dX6_above_16 : decode cX6_above 16 = .ok (.invokevirtual 151, 3) := by decide +kernel
theorem dX6_above_19 : decode cX6_above 19 = .ok (.ifCond .ne 10, 3) := by decide +kernel
theorem dX6_above_22 : decode cX6_above 22 = .ok (.aload_n 0, 1) := by decide +kernel
theorem dX6_above_23 : decode cX6_above 23 = .ok (.bipush (-3), 2) := by decide +kernel
theorem dX6_above_25 : decode cX6_above 25 = .ok (.invokevirtual 76, 3) := by decide +kernel
theorem dX6_above_28 : decode cX6_above 28 = .ok (.ireturn, 1) := by decide +kernel
theorem dX6_above_29 : decode cX6_above 29 = .ok (.lconst 0, 1) := by decide +kernel
theorem dX6_above_30 : decode cX6_above 30 = .ok (.lstore_n 2, 1) := by decide +kernel
theorem dX6_above_31 : decode cX6_above 31 = .ok (.iconst 0, 1) := by decide +kernel
theorem dX6_above_32 : decode cX6_above 32 = .ok (.istore 4, 2) := by decide +kernel
theorem dX6_above_34 : decode cX6_above 34 = .ok (.iload 4, 2) := by decide +kernel
theorem dX6_above_36 : decode cX6_above 36 = .ok (.bipush 21, 2) := by decide +kernel
theorem dX6_above_38 : decode cX6_above 38 = .ok (.if_icmp .ge 34, 3) := by decide +kernel
theorem dX6_above_41 : decode cX6_above 41 = .ok (.iload 4, 2) := by decide +kernel
theorem dX6_above_43 : decode cX6_above 43 = .ok (.invokestatic 166, 3) := by decide +kernel
theorem dX6_above_46 : decode cX6_above 46 = .ok (.iconst (-1), 1) := by decide +kernel
theorem dX6_above_47 : decode cX6_above 47 = .ok (.if_icmp .eq 19, 3) := by decide +kernel
theorem dX6_above_50 : decode cX6_above 50 = .ok (.lload_n 2, 1) := by decide +kernel
theorem dX6_above_51 : decode cX6_above 51 = .ok (.aload_n 0, 1) := by decide +kernel
theorem dX6_above_52 : decode cX6_above 52 = .ok (.getfield 44, 3) := by decide +kernel
theorem dX6_above_55 : decode cX6_above 55 = .ok (.iload_n 1, 1) := by decide +kernel
theorem dX6_above_56 : decode cX6_above 56 = .ok (.bipush 8, 2) := by decide +kernel
theorem dX6_above_58 : decode cX6_above 58 = .ok (.irem, 1) := by decide +kernel
theorem dX6_above_59 : decode cX6_above 59 = .ok (.iload 4, 2) := by decide +kernel
theorem dX6_above_61 : decode cX6_above 61 = .ok (.invokevirtual 154, 3) := by decide +kernel
theorem dX6_above_64 : decode cX6_above 64 = .ok (.ladd, 1) := by decide +kernel
theorem dX6_above_65 : decode cX6_above 65 = .ok (.lstore_n 2, 1) := by decide +kernel
theorem dX6_above_66 : decode cX6_above 66 = .ok (.iinc 4 1, 3) := by decide +kernel
theorem dX6_above_69 : decode cX6_above 69 = .ok (.goto (-35), 3) := by decide +kernel
theorem dX6_above_72 : decode cX6_above 72 = .ok (.aload_n 0, 1) := by decide +kernel
theorem dX6_above_73 : decode cX6_above 73 = .ok (.getfield 51, 3) := by decide +kernel
theorem dX6_above_76 : decode cX6_above 76 = .ok (.lload_n 2, 1) := by decide +kernel
theorem dX6_above_77 : decode cX6_above 77 = .ok (.aload_n 0, 1) := by decide +kernel
theorem dX6_above_78 : decode cX6_above 78 = .ok (.getfield 44, 3) := by decide +kernel
theorem dX6_above_81 : decode cX6_above 81 = .ok (.getfield 158, 3) := by decide +kernel
theorem dX6_above_84 : decode cX6_above 84 = .ok (.invokevirtual 162, 3) := by decide +kernel
theorem dX6_above_87 : decode cX6_above 87 = .ok (.iconst 1, 1) := by decide +kernel
theorem dX6_above_88 : decode cX6_above 88 = .ok (.ireturn, 1) := by decide +kernel
theorem dX6_likeliest_0 : decode cX6_likeliest 0 = .ok (.iload_n 1, 1) := by decide +kernel
theorem dX6_likeliest_1 : decode cX6_likeliest 1 = .ok (.invokestatic 169, 3) := by decide +kernel
theorem dX6_likeliest_4 : decode cX6_likeliest 4 = .ok (.ifCond .eq 13, 3) := by decide +kernel
theorem dX6_likeliest_7 : decode cX6_likeliest 7 = .ok (.iload_n 2, 1) := by decide +kernel
theorem dX6_likeliest_8 : decode cX6_likeliest 8 = .ok (.iconst 0, 1) := by decide +kernel
theorem dX6_likeliest_9 : decode cX6_likeliest 9 = .ok (.bipush 7, 2) := by decide +kernel
theorem dX6_likeliest_11 : decode cX6_likeliest 11 = .ok (.invokestatic 121, 3) := by decide +kernel
theorem dX6_likeliest_14 : decode cX6_likeliest 14 = .ok (.ifCond .ne 10, 3) := by decide +kernel
theorem dX6_likeliest_17 : decode cX6_likeliest 17 = .ok (.aload_n 0, 1) := by decide +kernel
theorem dX6_likeliest_18 : decode cX6_likeliest 18 = .ok (.bipush (-2), 2) := by decide +kernel
theorem dX6_likeliest_20 : decode cX6_likeliest 20 = .ok (.invokevirtual 76, 3) := by decide +kernel
theorem dX6_likeliest_23 : decode cX6_likeliest 23 = .ok (.ireturn, 1) := by decide +kernel
theorem dX6_likeliest_24 : decode cX6_likeliest 24 = .ok (.aload_n 0, 1) := by decide +kernel
theorem dX6_likeliest_25 : decode cX6_likeliest 25 = .ok (.aload_n 0, 1) := by decide +kernel
theorem dX6_likeliest_26 : decode cX6_likeliest 26 = .ok (.getfield 10, 3) := by decide +kernel
theorem dX6_likeliest_29 : decode cX6_likeliest 29 = .ok (.iload_n 1, 1) := by decide +kernel
theorem dX6_likeliest_30 : decode cX6_likeliest 30 = .ok (.invokevirtual 143, 3) := by decide +kernel
theorem dX6_likeliest_33 : decode cX6_likeliest 33 = .ok (.aload_n 0, 1) := by decide +kernel
theorem dX6_likeliest_34 : decode cX6_likeliest 34 = .ok (.getfield 44, 3) := by decide +kernel
theorem dX6_likeliest_37 : decode cX6_likeliest 37 = .ok (.iconst 0, 1) := by decide +kernel
theorem dX6_likeliest_38 : decode cX6_likeliest 38 = .ok (.invokevirtual 172, 3) := by decide +kernel
theorem dX6_likeliest_41 : decode cX6_likeliest 41 = .ok (.ifCond .eq 14, 3) := by decide +kernel
theorem dX6_likeliest_44 : decode cX6_likeliest 44 = .ok (.aload_n 0, 1) := by decide +kernel
theorem dX6_likeliest_45 : decode cX6_likeliest 45 = .ok (.getfield 44, 3) := by decide +kernel
theorem dX6_likeliest_48 : decode cX6_likeliest 48 = .ok (.iload_n 2, 1) := by decide +kernel
theorem dX6_likeliest_49 : decode cX6_likeliest 49 = .ok (.invokevirtual 175, 3) := by decide +kernel
theorem dX6_likeliest_52 : decode cX6_likeliest 52 = .ok (.goto 9, 3) := by decide +kernel
theorem dX6_likeliest_55 : decode cX6_likeliest 55 = .ok (.aload_n 0, 1) := by decide +kernel
theorem dX6_likeliest_56 : decode cX6_likeliest 56 = .ok (.bipush (-3), 2) := by decide +kernel
theorem dX6_likeliest_58 : decode cX6_likeliest 58 = .ok (.invokevirtual 76, 3) := by decide +kernel
theorem dX6_likeliest_61 : decode cX6_likeliest 61 = .ok (.ireturn, 1) := by decide +kernel
theorem dX6_stood_0 : decode cX6_stood 0 = .ok (.iload_n 1, 1) := by decide +kernel
theorem dX6_stood_1 : decode cX6_stood 1 = .ok (.iconst 0, 1) := by decide +kernel
theorem dX6_stood_2 : decode cX6_stood 2 = .ok (.iconst 3, 1) := by decide +kernel
theorem dX6_stood_3 : decode cX6_stood 3 = .ok (.invokestatic 121, 3) := by decide +kernel
theorem dX6_stood_6 : decode cX6_stood 6 = .ok (.ifCond .ne 10, 3) := by decide +kernel
theorem dX6_stood_9 : decode cX6_stood 9 = .ok (.aload_n 0, 1) := by decide +kernel
theorem dX6_stood_10 : decode cX6_stood 10 = .ok (.bipush (-2), 2) := by decide +kernel
theorem dX6_stood_12 : decode cX6_stood 12 = .ok (.invokevirtual 76, 3) := by decide +kernel
theorem dX6_stood_15 : decode cX6_stood 15 = .ok (.ireturn, 1) := by decide +kernel
theorem dX6_stood_16 : decode cX6_stood 16 = .ok (.aload_n 0, 1) := by decide +kernel
theorem dX6_stood_17 : decode cX6_stood 17 = .ok (.getfield 16, 3) := by decide +kernel
theorem dX6_stood_20 : decode cX6_stood 20 = .ok (.aload_n 0, 1) := by decide +kernel
theorem dX6_stood_21 : decode cX6_stood 21 = .ok (.getfield 10, 3) := by decide +kernel
theorem dX6_stood_24 : decode cX6_stood 24 = .ok (.invokevirtual 110, 3) := by decide +kernel
theorem dX6_stood_27 : decode cX6_stood 27 = .ok (.aload_n 0, 1) := by decide +kernel
theorem dX6_stood_28 : decode cX6_stood 28 = .ok (.getfield 65, 3) := by decide +kernel
theorem dX6_stood_31 : decode cX6_stood 31 = .ok (.lconst 0, 1) := by decide +kernel
theorem dX6_stood_32 : decode cX6_stood 32 = .ok (.invokevirtual 178, 3) := by decide +kernel
theorem dX6_stood_35 : decode cX6_stood 35 = .ok (.iconst 0, 1) := by decide +kernel
theorem dX6_stood_36 : decode cX6_stood 36 = .ok (.istore_n 2, 1) := by decide +kernel
theorem dX6_stood_37 : decode cX6_stood 37 = .ok (.iload_n 2, 1) := by decide +kernel
theorem dX6_stood_38 : decode cX6_stood 38 = .ok (.iconst 4, 1) := by decide +kernel
theorem dX6_stood_39 : decode cX6_stood 39 = .ok (.if_icmp .ge 54, 3) := by decide +kernel
theorem dX6_stood_42 : decode cX6_stood 42 = .ok (.aload_n 0, 1) := by decide +kernel
theorem dX6_stood_43 : decode cX6_stood 43 = .ok (.getfield 16, 3) := by decide +kernel
theorem dX6_stood_46 : decode cX6_stood 46 = .ok (.iconst 5, 1) := by decide +kernel
theorem dX6_stood_47 : decode cX6_stood 47 = .ok (.iload_n 2, 1) := by decide +kernel
theorem dX6_stood_48 : decode cX6_stood 48 = .ok (.invokevirtual 80, 3) := by decide +kernel
theorem dX6_stood_51 : decode cX6_stood 51 = .ok (.pop, 1) := by decide +kernel
theorem dX6_stood_52 : decode cX6_stood 52 = .ok (.aload_n 0, 1) := by decide +kernel
theorem dX6_stood_53 : decode cX6_stood 53 = .ok (.aload_n 0, 1) := by decide +kernel
theorem dX6_stood_54 : decode cX6_stood 54 = .ok (.getfield 16, 3) := by decide +kernel
theorem dX6_stood_57 : decode cX6_stood 57 = .ok (.invokevirtual 181, 3) := by decide +kernel
theorem dX6_stood_60 : decode cX6_stood 60 = .ok (.aload_n 0, 1) := by decide +kernel
theorem dX6_stood_61 : decode cX6_stood 61 = .ok (.getfield 65, 3) := by decide +kernel
theorem dX6_stood_64 : decode cX6_stood 64 = .ok (.aload_n 0, 1) := by decide +kernel
theorem dX6_stood_65 : decode cX6_stood 65 = .ok (.getfield 58, 3) := by decide +kernel
theorem dX6_stood_68 : decode cX6_stood 68 = .ok (.invokevirtual 184, 3) := by decide +kernel
theorem dX6_stood_71 : decode cX6_stood 71 = .ok (.iload_n 2, 1) := by decide +kernel
theorem dX6_stood_72 : decode cX6_stood 72 = .ok (.iload_n 1, 1) := by decide +kernel
theorem dX6_stood_73 : decode cX6_stood 73 = .ok (.if_icmp .ne 14, 3) := by decide +kernel
theorem dX6_stood_76 : decode cX6_stood 76 = .ok (.aload_n 0, 1) := by decide +kernel
theorem dX6_stood_77 : decode cX6_stood 77 = .ok (.getfield 62, 3) := by decide +kernel
theorem dX6_stood_80 : decode cX6_stood 80 = .ok (.aload_n 0, 1) := by decide +kernel
theorem dX6_stood_81 : decode cX6_stood 81 = .ok (.getfield 58, 3) := by decide +kernel
theorem dX6_stood_84 : decode cX6_stood 84 = .ok (.invokevirtual 188, 3) := by decide +kernel
theorem dX6_stood_87 : decode cX6_stood 87 = .ok (.iinc 2 1, 3) := by decide +kernel
theorem dX6_stood_90 : decode cX6_stood 90 = .ok (.goto (-53), 3) := by decide +kernel
theorem dX6_stood_93 : decode cX6_stood 93 = .ok (.aload_n 0, 1) := by decide +kernel
theorem dX6_stood_94 : decode cX6_stood 94 = .ok (.getfield 65, 3) := by decide +kernel
theorem dX6_stood_97 : decode cX6_stood 97 = .ok (.invokevirtual 190, 3) := by decide +kernel
theorem dX6_stood_100 : decode cX6_stood 100 = .ok (.ifCond .eq 10, 3) := by decide +kernel
theorem dX6_stood_103 : decode cX6_stood 103 = .ok (.aload_n 0, 1) := by decide +kernel
theorem dX6_stood_104 : decode cX6_stood 104 = .ok (.bipush (-3), 2) := by decide +kernel
theorem dX6_stood_106 : decode cX6_stood 106 = .ok (.invokevirtual 76, 3) := by decide +kernel
theorem dX6_stood_109 : decode cX6_stood 109 = .ok (.ireturn, 1) := by decide +kernel
theorem dX6_stood_110 : decode cX6_stood 110 = .ok (.aload_n 0, 1) := by decide +kernel
theorem dX6_stood_111 : decode cX6_stood 111 = .ok (.getfield 51, 3) := by decide +kernel
theorem dX6_stood_114 : decode cX6_stood 114 = .ok (.aload_n 0, 1) := by decide +kernel
theorem dX6_stood_115 : decode cX6_stood 115 = .ok (.getfield 62, 3) := by decide +kernel
theorem dX6_stood_118 : decode cX6_stood 118 = .ok (.aload_n 0, 1) := by decide +kernel
theorem dX6_stood_119 : decode cX6_stood 119 = .ok (.getfield 65, 3) := by decide +kernel
theorem dX6_stood_122 : decode cX6_stood 122 = .ok (.invokevirtual 194, 3) := by decide +kernel
theorem dX6_stood_125 : decode cX6_stood 125 = .ok (.iconst 1, 1) := by decide +kernel
theorem dX6_stood_126 : decode cX6_stood 126 = .ok (.ireturn, 1) := by decide +kernel
theorem dX6_span_0 : decode cX6_span 0 = .ok (.aload_n 0, 1) := by decide +kernel
theorem dX6_span_1 : decode cX6_span 1 = .ok (.getfield 10, 3) := by decide +kernel
theorem dX6_span_4 : decode cX6_span 4 = .ok (.iload_n 1, 1) := by decide +kernel
theorem dX6_span_5 : decode cX6_span 5 = .ok (.invokevirtual 197, 3) := by decide +kernel
theorem dX6_span_8 : decode cX6_span 8 = .ok (.ifCond .eq 12, 3) := by decide +kernel
theorem dX6_span_11 : decode cX6_span 11 = .ok (.iload_n 2, 1) := by decide +kernel
theorem dX6_span_12 : decode cX6_span 12 = .ok (.iconst 0, 1) := by decide +kernel
theorem dX6_span_13 : decode cX6_span 13 = .ok (.iconst 1, 1) := by decide +kernel
theorem dX6_span_14 : decode cX6_span 14 = .ok (.invokestatic 121, 3) := by decide +kernel
theorem dX6_span_17 : decode cX6_span 17 = .ok (.ifCond .ne 10, 3) := by decide +kernel
theorem dX6_span_20 : decode cX6_span 20 = .ok (.aload_n 0, 1) := by decide +kernel
theorem dX6_span_21 : decode cX6_span 21 = .ok (.bipush (-2), 2) := by decide +kernel
theorem dX6_span_23 : decode cX6_span 23 = .ok (.invokevirtual 76, 3) := by decide +kernel
theorem dX6_span_26 : decode cX6_span 26 = .ok (.ireturn, 1) := by decide +kernel
theorem dX6_span_27 : decode cX6_span 27 = .ok (.aload_n 0, 1) := by decide +kernel
theorem dX6_span_28 : decode cX6_span 28 = .ok (.getfield 16, 3) := by decide +kernel
theorem dX6_span_31 : decode cX6_span 31 = .ok (.aload_n 0, 1) := by decide +kernel
theorem dX6_span_32 : decode cX6_span 32 = .ok (.getfield 10, 3) := by decide +kernel
theorem dX6_span_35 : decode cX6_span 35 = .ok (.invokevirtual 110, 3) := by decide +kernel
theorem dX6_span_38 : decode cX6_span 38 = .ok (.iconst 0, 1) := by decide +kernel
theorem dX6_span_39 : decode cX6_span 39 = .ok (.istore_n 3, 1) := by decide +kernel
theorem dX6_span_40 : decode cX6_span 40 = .ok (.iload_n 3, 1) := by decide +kernel
theorem dX6_span_41 : decode cX6_span 41 = .ok (.bipush 60, 2) := by decide +kernel
theorem dX6_span_43 : decode cX6_span 43 = .ok (.if_icmp .ge 50, 3) := by decide +kernel
theorem dX6_span_46 : decode cX6_span 46 = .ok (.iload_n 2, 1) := by decide +kernel
theorem dX6_span_47 : decode cX6_span 47 = .ok (.ifCond .ne 9, 3) := by decide +kernel
theorem dX6_span_50 : decode cX6_span 50 = .ok (.iconst 1, 1) := by decide +kernel
theorem dX6_span_51 : decode cX6_span 51 = .ok (.iload_n 3, 1) := by decide +kernel
theorem dX6_span_52 : decode cX6_span 52 = .ok (.iadd, 1) := by decide +kernel
theorem dX6_span_53 : decode cX6_span 53 = .ok (.goto 7, 3) := by decide +kernel
theorem dX6_span_56 : decode cX6_span 56 = .ok (.bipush 60, 2) := by decide +kernel
theorem dX6_span_58 : decode cX6_span 58 = .ok (.iload_n 3, 1) := by decide +kernel
theorem dX6_span_59 : decode cX6_span 59 = .ok (.isub, 1) := by decide +kernel
theorem dX6_span_60 : decode cX6_span 60 = .ok (.istore 4, 2) := by decide +kernel
theorem dX6_span_62 : decode cX6_span 62 = .ok (.aload_n 0, 1) := by decide +kernel
theorem dX6_span_63 : decode cX6_span 63 = .ok (.getfield 16, 3) := by decide +kernel
theorem dX6_span_66 : decode cX6_span 66 = .ok (.getfield 200, 3) := by decide +kernel
theorem dX6_span_69 : decode cX6_span 69 = .ok (.iload_n 1, 1) := by decide +kernel
theorem dX6_span_70 : decode cX6_span 70 = .ok (.iload 4, 2) := by decide +kernel
theorem dX6_span_72 : decode cX6_span 72 = .ok (.iastore, 1) := by decide +kernel
theorem dX6_span_73 : decode cX6_span 73 = .ok (.aload_n 0, 1) := by decide +kernel
theorem dX6_span_74 : decode cX6_span 74 = .ok (.aload_n 0, 1) := by decide +kernel
theorem dX6_span_75 : decode cX6_span 75 = .ok (.getfield 16, 3) := by decide +kernel
theorem dX6_span_78 : decode cX6_span 78 = .ok (.invokevirtual 203, 3) := by decide +kernel
theorem dX6_span_81 : decode cX6_span 81 = .ok (.ifCond .eq 6, 3) := by decide +kernel
theorem dX6_span_84 : decode cX6_span 84 = .ok (.iload 4, 2) := by decide +kernel
theorem dX6_span_86 : decode cX6_span 86 = .ok (.ireturn, 1) := by decide +kernel
theorem dX6_span_87 : decode cX6_span 87 = .ok (.iinc 3 1, 3) := by decide +kernel
theorem dX6_span_90 : decode cX6_span 90 = .ok (.goto (-50), 3) := by decide +kernel
theorem dX6_span_93 : decode cX6_span 93 = .ok (.iconst (-1), 1) := by decide +kernel
theorem dX6_span_94 : decode cX6_span 94 = .ok (.ireturn, 1) := by decide +kernel
theorem dX6_later_0 : decode cX6_later 0 = .ok (.iload_n 1, 1) := by decide +kernel
theorem dX6_later_1 : decode cX6_later 1 = .ok (.invokestatic 169, 3) := by decide +kernel
theorem dX6_later_4 : decode cX6_later 4 = .ok (.ifCond .ne 10, 3) := by decide +kernel
theorem dX6_later_7 : decode cX6_later 7 = .ok (.aload_n 0, 1) := by decide +kernel
theorem dX6_later_8 : decode cX6_later 8 = .ok (.bipush (-2), 2) := by decide +kernel
theorem dX6_later_10 : decode cX6_later 10 = .ok (.invokevirtual 76, 3) := by decide +kernel
theorem dX6_later_13 : decode cX6_later 13 = .ok (.ireturn, 1) := by decide +kernel
theorem dX6_later_14 : decode cX6_later 14 = .ok (.aload_n 0, 1) := by decide +kernel
theorem dX6_later_15 : decode cX6_later 15 = .ok (.aload_n 0, 1) := by decide +kernel
theorem dX6_later_16 : decode cX6_later 16 = .ok (.getfield 10, 3) := by decide +kernel
theorem dX6_later_19 : decode cX6_later 19 = .ok (.iload_n 1, 1) := by decide +kernel
theorem dX6_later_20 : decode cX6_later 20 = .ok (.invokevirtual 143, 3) := by decide +kernel
theorem dX6_later_23 : decode cX6_later 23 = .ok (.aload_n 0, 1) := by decide +kernel
theorem dX6_later_24 : decode cX6_later 24 = .ok (.getfield 44, 3) := by decide +kernel
theorem dX6_later_27 : decode cX6_later 27 = .ok (.invokevirtual 207, 3) := by decide +kernel
theorem dX6_later_30 : decode cX6_later 30 = .ok (.ireturn, 1) := by decide +kernel
theorem dX6_next_0 : decode cX6_next 0 = .ok (.iconst (-1), 1) := by decide +kernel
theorem dX6_next_1 : decode cX6_next 1 = .ok (.istore_n 1, 1) := by decide +kernel
theorem dX6_next_2 : decode cX6_next 2 = .ok (.lconst 0, 1) := by decide +kernel
theorem dX6_next_3 : decode cX6_next 3 = .ok (.lstore_n 2, 1) := by decide +kernel
theorem dX6_next_4 : decode cX6_next 4 = .ok (.lconst 0, 1) := by decide +kernel
theorem dX6_next_5 : decode cX6_next 5 = .ok (.lstore 4, 2) := by decide +kernel
theorem dX6_next_7 : decode cX6_next 7 = .ok (.iconst 0, 1) := by decide +kernel
theorem dX6_next_8 : decode cX6_next 8 = .ok (.istore 6, 2) := by decide +kernel
theorem dX6_next_10 : decode cX6_next 10 = .ok (.iload 6, 2) := by decide +kernel
theorem dX6_next_12 : decode cX6_next 12 = .ok (.bipush 6, 2) := by decide +kernel
theorem dX6_next_14 : decode cX6_next 14 = .ok (.if_icmp .ge 94, 3) := by decide +kernel
theorem dX6_next_17 : decode cX6_next 17 = .ok (.aload_n 0, 1) := by decide +kernel
theorem dX6_next_18 : decode cX6_next 18 = .ok (.iload 6, 2) := by decide +kernel
theorem dX6_next_20 : decode cX6_next 20 = .ok (.bipush 8, 2) := by decide +kernel
theorem dX6_next_22 : decode cX6_next 22 = .ok (.imul, 1) := by decide +kernel
theorem dX6_next_23 : decode cX6_next 23 = .ok (.invokevirtual 151, 3) := by decide +kernel
theorem dX6_next_26 : decode cX6_next 26 = .ok (.ifCond .eq 76, 3) := by decide +kernel
theorem dX6_next_29 : decode cX6_next 29 = .ok (.aload_n 0, 1) := by decide +kernel
theorem dX6_next_30 : decode cX6_next 30 = .ok (.getfield 44, 3) := by decide +kernel
theorem dX6_next_33 : decode cX6_next 33 = .ok (.aload_n 0, 1) := by decide +kernel
theorem dX6_next_34 : decode cX6_next 34 = .ok (.getfield 37, 3) := by decide +kernel
theorem dX6_next_37 : decode cX6_next 37 = .ok (.invokevirtual 210, 3) := by decide +kernel
theorem dX6_next_40 : decode cX6_next 40 = .ok (.iload_n 1, 1) := by decide +kernel
theorem dX6_next_41 : decode cX6_next 41 = .ok (.iconst (-1), 1) := by decide +kernel
theorem dX6_next_42 : decode cX6_next 42 = .ok (.if_icmp .eq 26, 3) := by decide +kernel
theorem dX6_next_45 : decode cX6_next 45 = .ok (.aload_n 0, 1) := by decide +kernel
theorem dX6_next_46 : decode cX6_next 46 = .ok (.getfield 44, 3) := by decide +kernel
theorem dX6_next_49 : decode cX6_next 49 = .ok (.getfield 214, 3) := by decide +kernel
theorem dX6_next_52 : decode cX6_next 52 = .ok (.lload 4, 2) := by decide +kernel
theorem dX6_next_54 : decode cX6_next 54 = .ok (.lload_n 2, 1) := by decide +kernel
theorem dX6_next_55 : decode cX6_next 55 = .ok (.aload_n 0, 1) := by decide +kernel
theorem dX6_next_56 : decode cX6_next 56 = .ok (.getfield 44, 3) := by decide +kernel
theorem dX6_next_59 : decode cX6_next 59 = .ok (.getfield 158, 3) := by decide +kernel
theorem dX6_next_62 : decode cX6_next 62 = .ok (.invokestatic 217, 3) := by decide +kernel
theorem dX6_next_65 : decode cX6_next 65 = .ok (.ifCond .eq 37, 3) := by decide +kernel
theorem dX6_next_68 : decode cX6_next 68 = .ok (.bipush 10, 2) := by decide +kernel
theorem dX6_next_70 : decode cX6_next 70 = .ok (.iload 6, 2) := by decide +kernel
theorem dX6_next_72 : decode cX6_next 72 = .ok (.imul, 1) := by decide +kernel
theorem dX6_next_73 : decode cX6_next 73 = .ok (.bipush 8, 2) := by decide +kernel
theorem dX6_next_75 : decode cX6_next 75 = .ok (.imul, 1) := by decide +kernel
theorem dX6_next_76 : decode cX6_next 76 = .ok (.aload_n 0, 1) := by decide +kernel
theorem dX6_next_77 : decode cX6_next 77 = .ok (.getfield 44, 3) := by decide +kernel
theorem dX6_next_80 : decode cX6_next 80 = .ok (.getfield 221, 3) := by decide +kernel
theorem dX6_next_83 : decode cX6_next 83 = .ok (.iadd, 1) := by decide +kernel
theorem dX6_next_84 : decode cX6_next 84 = .ok (.istore_n 1, 1) := by decide +kernel
theorem dX6_next_85 : decode cX6_next 85 = .ok (.aload_n 0, 1) := by decide +kernel
theorem dX6_next_86 : decode cX6_next 86 = .ok (.getfield 44, 3) := by decide +kernel
theorem dX6_next_89 : decode cX6_next 89 = .ok (.getfield 214, 3) := by decide +kernel
theorem dX6_next_92 : decode cX6_next 92 = .ok (.lstore_n 2, 1) := by decide +kernel
theorem dX6_next_93 : decode cX6_next 93 = .ok (.aload_n 0, 1) := by decide +kernel
theorem dX6_next_94 : decode cX6_next 94 = .ok (.getfield 44, 3) := by decide +kernel
theorem dX6_next_97 : decode cX6_next 97 = .ok (.getfield 158, 3) := by decide +kernel
theorem dX6_next_100 : decode cX6_next 100 = .ok (.lstore 4, 2) := by decide +kernel
theorem dX6_next_102 : decode cX6_next 102 = .ok (.iinc 6 1, 3) := by decide +kernel
theorem dX6_next_105 : decode cX6_next 105 = .ok (.goto (-95), 3) := by decide +kernel
theorem dX6_next_108 : decode cX6_next 108 = .ok (.iload_n 1, 1) := by decide +kernel
theorem dX6_next_109 : decode cX6_next 109 = .ok (.iconst (-1), 1) := by decide +kernel
theorem dX6_next_110 : decode cX6_next 110 = .ok (.if_icmp .ne 12, 3) := by decide +kernel
theorem dX6_next_113 : decode cX6_next 113 = .ok (.aload_n 0, 1) := by decide +kernel
theorem dX6_next_114 : decode cX6_next 114 = .ok (.bipush (-3), 2) := by decide +kernel
theorem dX6_next_116 : decode cX6_next 116 = .ok (.invokevirtual 76, 3) := by decide +kernel
theorem dX6_next_119 : decode cX6_next 119 = .ok (.goto 4, 3) := by decide +kernel
theorem dX6_next_122 : decode cX6_next 122 = .ok (.iload_n 1, 1) := by decide +kernel
theorem dX6_next_123 : decode cX6_next 123 = .ok (.ireturn, 1) := by decide +kernel
theorem dX6_rests_0 : decode cX6_rests 0 = .ok (.iload_n 1, 1) := by decide +kernel
theorem dX6_rests_1 : decode cX6_rests 1 = .ok (.invokestatic 114, 3) := by decide +kernel
theorem dX6_rests_4 : decode cX6_rests 4 = .ok (.ifCond .ne 10, 3) := by decide +kernel
theorem dX6_rests_7 : decode cX6_rests 7 = .ok (.aload_n 0, 1) := by decide +kernel
theorem dX6_rests_8 : decode cX6_rests 8 = .ok (.bipush (-2), 2) := by decide +kernel
theorem dX6_rests_10 : decode cX6_rests 10 = .ok (.invokevirtual 76, 3) := by decide +kernel
theorem dX6_rests_13 : decode cX6_rests 13 = .ok (.ireturn, 1) := by decide +kernel
theorem dX6_rests_14 : decode cX6_rests 14 = .ok (.aload_n 0, 1) := by decide +kernel
theorem dX6_rests_15 : decode cX6_rests 15 = .ok (.iload_n 1, 1) := by decide +kernel
theorem dX6_rests_16 : decode cX6_rests 16 = .ok (.invokevirtual 151, 3) := by decide +kernel
theorem dX6_rests_19 : decode cX6_rests 19 = .ok (.ifCond .eq 11, 3) := by decide +kernel
theorem dX6_rests_22 : decode cX6_rests 22 = .ok (.aload_n 0, 1) := by decide +kernel
theorem dX6_rests_23 : decode cX6_rests 23 = .ok (.iload_n 1, 1) := by decide +kernel
theorem dX6_rests_24 : decode cX6_rests 24 = .ok (.invokevirtual 225, 3) := by decide +kernel
theorem dX6_rests_27 : decode cX6_rests 27 = .ok (.goto 9, 3) := by decide +kernel
theorem dX6_rests_30 : decode cX6_rests 30 = .ok (.aload_n 0, 1) := by decide +kernel
theorem dX6_rests_31 : decode cX6_rests 31 = .ok (.bipush (-3), 2) := by decide +kernel
theorem dX6_rests_33 : decode cX6_rests 33 = .ok (.invokevirtual 76, 3) := by decide +kernel
theorem dX6_rests_36 : decode cX6_rests 36 = .ok (.ireturn, 1) := by decide +kernel
theorem dX6_resting_0 : decode cX6_resting 0 = .ok (.iload_n 1, 1) := by decide +kernel
theorem dX6_resting_1 : decode cX6_resting 1 = .ok (.invokestatic 169, 3) := by decide +kernel
theorem dX6_resting_4 : decode cX6_resting 4 = .ok (.ifCond .eq 12, 3) := by decide +kernel
theorem dX6_resting_7 : decode cX6_resting 7 = .ok (.iload_n 2, 1) := by decide +kernel
theorem dX6_resting_8 : decode cX6_resting 8 = .ok (.iconst 0, 1) := by decide +kernel
theorem dX6_resting_9 : decode cX6_resting 9 = .ok (.iconst 3, 1) := by decide +kernel
theorem dX6_resting_10 : decode cX6_resting 10 = .ok (.invokestatic 121, 3) := by decide +kernel
theorem dX6_resting_13 : decode cX6_resting 13 = .ok (.ifCond .ne 10, 3) := by decide +kernel
theorem dX6_resting_16 : decode cX6_resting 16 = .ok (.aload_n 0, 1) := by decide +kernel
theorem dX6_resting_17 : decode cX6_resting 17 = .ok (.bipush (-2), 2) := by decide +kernel
theorem dX6_resting_19 : decode cX6_resting 19 = .ok (.invokevirtual 76, 3) := by decide +kernel
theorem dX6_resting_22 : decode cX6_resting 22 = .ok (.ireturn, 1) := by decide +kernel
theorem dX6_resting_23 : decode cX6_resting 23 = .ok (.aload_n 0, 1) := by decide +kernel
theorem dX6_resting_24 : decode cX6_resting 24 = .ok (.iload_n 1, 1) := by decide +kernel
theorem dX6_resting_25 : decode cX6_resting 25 = .ok (.bipush 8, 2) := by decide +kernel
theorem dX6_resting_27 : decode cX6_resting 27 = .ok (.imul, 1) := by decide +kernel
theorem dX6_resting_28 : decode cX6_resting 28 = .ok (.invokevirtual 151, 3) := by decide +kernel
theorem dX6_resting_31 : decode cX6_resting 31 = .ok (.ifCond .ne 10, 3) := by decide +kernel
theorem dX6_resting_34 : decode cX6_resting 34 = .ok (.aload_n 0, 1) := by decide +kernel
theorem dX6_resting_35 : decode cX6_resting 35 = .ok (.bipush (-3), 2) := by decide +kernel
theorem dX6_resting_37 : decode cX6_resting 37 = .ok (.invokevirtual 76, 3) := by decide +kernel
theorem dX6_resting_40 : decode cX6_resting 40 = .ok (.ireturn, 1) := by decide +kernel
theorem dX6_resting_41 : decode cX6_resting 41 = .ok (.iconst 0, 1) := by decide +kernel
theorem dX6_resting_42 : decode cX6_resting 42 = .ok (.istore_n 3, 1) := by decide +kernel
theorem dX6_resting_43 : decode cX6_resting 43 = .ok (.iconst 0, 1) := by decide +kernel
theorem dX6_resting_44 : decode cX6_resting 44 = .ok (.istore 4, 2) := by decide +kernel
theorem dX6_resting_46 : decode cX6_resting 46 = .ok (.iload 4, 2) := by decide +kernel
theorem dX6_resting_48 : decode cX6_resting 48 = .ok (.bipush 8, 2) := by decide +kernel
theorem dX6_resting_50 : decode cX6_resting 50 = .ok (.if_icmp .ge 27, 3) := by decide +kernel
theorem dX6_resting_53 : decode cX6_resting 53 = .ok (.aload_n 0, 1) := by decide +kernel
theorem dX6_resting_54 : decode cX6_resting 54 = .ok (.iload_n 1, 1) := by decide +kernel
theorem dX6_resting_55 : decode cX6_resting 55 = .ok (.bipush 8, 2) := by decide +kernel
theorem dX6_resting_57 : decode cX6_resting 57 = .ok (.imul, 1) := by decide +kernel
theorem dX6_resting_58 : decode cX6_resting 58 = .ok (.iload 4, 2) := by decide +kernel
theorem dX6_resting_60 : decode cX6_resting 60 = .ok (.iadd, 1) := by decide +kernel
theorem dX6_resting_61 : decode cX6_resting 61 = .ok (.invokevirtual 225, 3) := by decide +kernel
theorem dX6_resting_64 : decode cX6_resting 64 = .ok (.iload_n 2, 1) := by decide +kernel
theorem dX6_resting_65 : decode cX6_resting 65 = .ok (.if_icmp .ne 6, 3) := by decide +kernel
theorem dX6_resting_68 : decode cX6_resting 68 = .ok (.iinc 3 1, 3) := by decide +kernel
theorem dX6_resting_71 : decode cX6_resting 71 = .ok (.iinc 4 1, 3) := by decide +kernel
theorem dX6_resting_74 : decode cX6_resting 74 = .ok (.goto (-28), 3) := by decide +kernel
theorem dX6_resting_77 : decode cX6_resting 77 = .ok (.iload_n 3, 1) := by decide +kernel
theorem dX6_resting_78 : decode cX6_resting 78 = .ok (.ireturn, 1) := by decide +kernel
theorem dX6_bright_0 : decode cX6_bright 0 = .ok (.iload_n 1, 1) := by decide +kernel
theorem dX6_bright_1 : decode cX6_bright 1 = .ok (.invokestatic 114, 3) := by decide +kernel
theorem dX6_bright_4 : decode cX6_bright 4 = .ok (.ifCond .eq 12, 3) := by decide +kernel
theorem dX6_bright_7 : decode cX6_bright 7 = .ok (.iload_n 2, 1) := by decide +kernel
theorem dX6_bright_8 : decode cX6_bright 8 = .ok (.iconst 0, 1) := by decide +kernel
theorem dX6_bright_9 : decode cX6_bright 9 = .ok (.iconst 2, 1) := by decide +kernel
theorem dX6_bright_10 : decode cX6_bright 10 = .ok (.invokestatic 121, 3) := by decide +kernel
theorem dX6_bright_13 : decode cX6_bright 13 = .ok (.ifCond .ne 10, 3) := by decide +kernel
theorem dX6_bright_16 : decode cX6_bright 16 = .ok (.aload_n 0, 1) := by decide +kernel
theorem dX6_bright_17 : decode cX6_bright 17 = .ok (.bipush (-2), 2) := by decide +kernel
theorem dX6_bright_19 : decode cX6_bright 19 = .ok (.invokevirtual 76, 3) := by decide +kernel
theorem dX6_bright_22 : decode cX6_bright 22 = .ok (.ireturn, 1) := by decide +kernel
theorem dX6_bright_23 : decode cX6_bright 23 = .ok (.aload_n 0, 1) := by decide +kernel
theorem dX6_bright_24 : decode cX6_bright 24 = .ok (.iload_n 1, 1) := by decide +kernel
theorem dX6_bright_25 : decode cX6_bright 25 = .ok (.invokevirtual 151, 3) := by decide +kernel
theorem dX6_bright_28 : decode cX6_bright 28 = .ok (.ifCond .ne 10, 3) := by decide +kernel
theorem dX6_bright_31 : decode cX6_bright 31 = .ok (.aload_n 0, 1) := by decide +kernel
theorem dX6_bright_32 : decode cX6_bright 32 = .ok (.bipush (-3), 2) := by decide +kernel
theorem dX6_bright_34 : decode cX6_bright 34 = .ok (.invokevirtual 76, 3) := by decide +kernel
theorem dX6_bright_37 : decode cX6_bright 37 = .ok (.ireturn, 1) := by decide +kernel
theorem dX6_bright_38 : decode cX6_bright 38 = .ok (.iload_n 2, 1) := by decide +kernel
theorem dX6_bright_39 : decode cX6_bright 39 = .ok (.iconst 2, 1) := by decide +kernel
theorem dX6_bright_40 : decode cX6_bright 40 = .ok (.if_icmp .ne 14, 3) := by decide +kernel
theorem dX6_bright_43 : decode cX6_bright 43 = .ok (.aload_n 0, 1) := by decide +kernel
theorem dX6_bright_44 : decode cX6_bright 44 = .ok (.iload_n 1, 1) := by decide +kernel
theorem dX6_bright_45 : decode cX6_bright 45 = .ok (.bipush 8, 2) := by decide +kernel
theorem dX6_bright_47 : decode cX6_bright 47 = .ok (.irem, 1) := by decide +kernel
theorem dX6_bright_48 : decode cX6_bright 48 = .ok (.invokevirtual 228, 3) := by decide +kernel
theorem dX6_bright_51 : decode cX6_bright 51 = .ok (.goto 21, 3) := by decide +kernel
theorem dX6_bright_54 : decode cX6_bright 54 = .ok (.aload_n 0, 1) := by decide +kernel
theorem dX6_bright_55 : decode cX6_bright 55 = .ok (.iload_n 1, 1) := by decide +kernel
theorem dX6_bright_56 : decode cX6_bright 56 = .ok (.bipush 8, 2) := by decide +kernel
theorem dX6_bright_58 : decode cX6_bright 58 = .ok (.irem, 1) := by decide +kernel
theorem dX6_bright_59 : decode cX6_bright 59 = .ok (.iload_n 2, 1) := by decide +kernel
theorem dX6_bright_60 : decode cX6_bright 60 = .ok (.iconst 1, 1) := by decide +kernel
theorem dX6_bright_61 : decode cX6_bright 61 = .ok (.if_icmp .ne 7, 3) := by decide +kernel
theorem dX6_bright_64 : decode cX6_bright 64 = .ok (.iconst 1, 1) := by decide +kernel
theorem dX6_bright_65 : decode cX6_bright 65 = .ok (.goto 4, 3) := by decide +kernel
theorem dX6_bright_68 : decode cX6_bright 68 = .ok (.iconst 0, 1) := by decide +kernel
theorem dX6_bright_69 : decode cX6_bright 69 = .ok (.invokevirtual 231, 3) := by decide +kernel
theorem dX6_bright_72 : decode cX6_bright 72 = .ok (.ireturn, 1) := by decide +kernel
theorem dX6_sign_0 : decode cX6_sign 0 = .ok (.iload_n 1, 1) := by decide +kernel
theorem dX6_sign_1 : decode cX6_sign 1 = .ok (.iconst 0, 1) := by decide +kernel
theorem dX6_sign_2 : decode cX6_sign 2 = .ok (.iconst 2, 1) := by decide +kernel
theorem dX6_sign_3 : decode cX6_sign 3 = .ok (.invokestatic 121, 3) := by decide +kernel
theorem dX6_sign_6 : decode cX6_sign 6 = .ok (.ifCond .ne 10, 3) := by decide +kernel
theorem dX6_sign_9 : decode cX6_sign 9 = .ok (.aload_n 0, 1) := by decide +kernel
theorem dX6_sign_10 : decode cX6_sign 10 = .ok (.bipush (-2), 2) := by decide +kernel
theorem dX6_sign_12 : decode cX6_sign 12 = .ok (.invokevirtual 76, 3) := by decide +kernel
theorem dX6_sign_15 : decode cX6_sign 15 = .ok (.ireturn, 1) := by decide +kernel
theorem dX6_sign_16 : decode cX6_sign 16 = .ok (.iload_n 1, 1) := by decide +kernel
theorem dX6_sign_17 : decode cX6_sign 17 = .ok (.ifCond .ne 22, 3) := by decide +kernel
theorem dX6_sign_20 : decode cX6_sign 20 = .ok (.aload_n 0, 1) := by decide +kernel
theorem dX6_sign_21 : decode cX6_sign 21 = .ok (.getfield 51, 3) := by decide +kernel
theorem dX6_sign_24 : decode cX6_sign 24 = .ok (.getfield 234, 3) := by decide +kernel
theorem dX6_sign_27 : decode cX6_sign 27 = .ok (.invokevirtual 190, 3) := by decide +kernel
theorem dX6_sign_30 : decode cX6_sign 30 = .ok (.ifCond .eq 7, 3) := by decide +kernel
theorem dX6_sign_33 : decode cX6_sign 33 = .ok (.iconst 0, 1) := by decide +kernel
theorem dX6_sign_34 : decode cX6_sign 34 = .ok (.goto 4, 3) := by decide +kernel
theorem dX6_sign_37 : decode cX6_sign 37 = .ok (.iconst 1, 1) := by decide +kernel
theorem dX6_sign_38 : decode cX6_sign 38 = .ok (.ireturn, 1) := by decide +kernel
theorem dX6_sign_39 : decode cX6_sign 39 = .ok (.iload_n 1, 1) := by decide +kernel
theorem dX6_sign_40 : decode cX6_sign 40 = .ok (.iconst 1, 1) := by decide +kernel
theorem dX6_sign_41 : decode cX6_sign 41 = .ok (.if_icmp .ne 16, 3) := by decide +kernel
theorem dX6_sign_44 : decode cX6_sign 44 = .ok (.aload_n 0, 1) := by decide +kernel
theorem dX6_sign_45 : decode cX6_sign 45 = .ok (.getfield 51, 3) := by decide +kernel
theorem dX6_sign_48 : decode cX6_sign 48 = .ok (.getfield 234, 3) := by decide +kernel
theorem dX6_sign_51 : decode cX6_sign 51 = .ok (.getfield 237, 3) := by decide +kernel
theorem dX6_sign_54 : decode cX6_sign 54 = .ok (.goto 13, 3) := by decide +kernel
theorem dX6_sign_57 : decode cX6_sign 57 = .ok (.aload_n 0, 1) := by decide +kernel
theorem dX6_sign_58 : decode cX6_sign 58 = .ok (.getfield 51, 3) := by decide +kernel
theorem dX6_sign_61 : decode cX6_sign 61 = .ok (.getfield 240, 3) := by decide +kernel
theorem dX6_sign_64 : decode cX6_sign 64 = .ok (.getfield 237, 3) := by decide +kernel
theorem dX6_sign_67 : decode cX6_sign 67 = .ok (.ireturn, 1) := by decide +kernel
theorem dX6_limb_0 : decode cX6_limb 0 = .ok (.iload_n 1, 1) := by decide +kernel
theorem dX6_limb_1 : decode cX6_limb 1 = .ok (.iconst 0, 1) := by decide +kernel
theorem dX6_limb_2 : decode cX6_limb 2 = .ok (.iconst 1, 1) := by decide +kernel
theorem dX6_limb_3 : decode cX6_limb 3 = .ok (.invokestatic 121, 3) := by decide +kernel
theorem dX6_limb_6 : decode cX6_limb 6 = .ok (.ifCond .eq 7, 3) := by decide +kernel
theorem dX6_limb_9 : decode cX6_limb 9 = .ok (.iload_n 2, 1) := by decide +kernel
theorem dX6_limb_10 : decode cX6_limb 10 = .ok (.ifCond .ge 10, 3) := by decide +kernel
theorem dX6_limb_13 : decode cX6_limb 13 = .ok (.aload_n 0, 1) := by decide +kernel
theorem dX6_limb_14 : decode cX6_limb 14 = .ok (.bipush (-2), 2) := by decide +kernel
theorem dX6_limb_16 : decode cX6_limb 16 = .ok (.invokevirtual 76, 3) := by decide +kernel
theorem dX6_limb_19 : decode cX6_limb 19 = .ok (.ireturn, 1) := by decide +kernel
theorem dX6_limb_20 : decode cX6_limb 20 = .ok (.iload_n 1, 1) := by decide +kernel
theorem dX6_limb_21 : decode cX6_limb 21 = .ok (.ifCond .ne 17, 3) := by decide +kernel
theorem dX6_limb_24 : decode cX6_limb 24 = .ok (.aload_n 0, 1) := by decide +kernel
theorem dX6_limb_25 : decode cX6_limb 25 = .ok (.getfield 51, 3) := by decide +kernel
theorem dX6_limb_28 : decode cX6_limb 28 = .ok (.getfield 234, 3) := by decide +kernel
theorem dX6_limb_31 : decode cX6_limb 31 = .ok (.iload_n 2, 1) := by decide +kernel
theorem dX6_limb_32 : decode cX6_limb 32 = .ok (.invokevirtual 243, 3) := by decide +kernel
theorem dX6_limb_35 : decode cX6_limb 35 = .ok (.goto 14, 3) := by decide +kernel
theorem dX6_limb_38 : decode cX6_limb 38 = .ok (.aload_n 0, 1) := by decide +kernel
theorem dX6_limb_39 : decode cX6_limb 39 = .ok (.getfield 51, 3) := by decide +kernel
theorem dX6_limb_42 : decode cX6_limb 42 = .ok (.getfield 240, 3) := by decide +kernel
theorem dX6_limb_45 : decode cX6_limb 45 = .ok (.iload_n 2, 1) := by decide +kernel
theorem dX6_limb_46 : decode cX6_limb 46 = .ok (.invokevirtual 243, 3) := by decide +kernel
theorem dX6_limb_49 : decode cX6_limb 49 = .ok (.ireturn, 1) := by decide +kernel
theorem dX6_image_0 : decode cX6_image 0 = .ok (.iload_n 1, 1) := by decide +kernel
theorem dX6_image_1 : decode cX6_image 1 = .ok (.iconst 0, 1) := by decide +kernel
theorem dX6_image_2 : decode cX6_image 2 = .ok (.iconst 1, 1) := by decide +kernel
theorem dX6_image_3 : decode cX6_image 3 = .ok (.invokestatic 121, 3) := by decide +kernel
theorem dX6_image_6 : decode cX6_image 6 = .ok (.ifCond .ne 10, 3) := by decide +kernel
theorem dX6_image_9 : decode cX6_image 9 = .ok (.aload_n 0, 1) := by decide +kernel
theorem dX6_image_10 : decode cX6_image 10 = .ok (.bipush (-2), 2) := by decide +kernel
theorem dX6_image_12 : decode cX6_image 12 = .ok (.invokevirtual 76, 3) := by decide +kernel
theorem dX6_image_15 : decode cX6_image 15 = .ok (.ireturn, 1) := by decide +kernel
theorem dX6_image_16 : decode cX6_image 16 = .ok (.aload_n 0, 1) := by decide +kernel
theorem dX6_image_17 : decode cX6_image 17 = .ok (.getfield 19, 3) := by decide +kernel
theorem dX6_image_20 : decode cX6_image 20 = .ok (.iload_n 1, 1) := by decide +kernel
theorem dX6_image_21 : decode cX6_image 21 = .ok (.aaload, 1) := by decide +kernel
theorem dX6_image_22 : decode cX6_image 22 = .ok (.aload_n 0, 1) := by decide +kernel
theorem dX6_image_23 : decode cX6_image 23 = .ok (.getfield 10, 3) := by decide +kernel
theorem dX6_image_26 : decode cX6_image 26 = .ok (.invokevirtual 110, 3) := by decide +kernel
theorem dX6_image_29 : decode cX6_image 29 = .ok (.aload_n 0, 1) := by decide +kernel
theorem dX6_image_30 : decode cX6_image 30 = .ok (.getfield 23, 3) := by decide +kernel
theorem dX6_image_33 : decode cX6_image 33 = .ok (.iload_n 1, 1) := by decide +kernel
theorem dX6_image_34 : decode cX6_image 34 = .ok (.iconst 1, 1) := by decide +kernel
theorem dX6_image_35 : decode cX6_image 35 = .ok (.bastore, 1) := by decide +kernel
theorem dX6_image_36 : decode cX6_image 36 = .ok (.iconst 1, 1) := by decide +kernel
theorem dX6_image_37 : decode cX6_image 37 = .ok (.ireturn, 1) := by decide +kernel
theorem dX6_from_0 : decode cX6_from 0 = .ok (.iload_n 1, 1) := by decide +kernel
theorem dX6_from_1 : decode cX6_from 1 = .ok (.iconst 0, 1) := by decide +kernel
theorem dX6_from_2 : decode cX6_from 2 = .ok (.iconst 1, 1) := by decide +kernel
theorem dX6_from_3 : decode cX6_from 3 = .ok (.invokestatic 121, 3) := by decide +kernel
theorem dX6_from_6 : decode cX6_from 6 = .ok (.ifCond .ne 10, 3) := by decide +kernel
theorem dX6_from_9 : decode cX6_from 9 = .ok (.aload_n 0, 1) := by decide +kernel
theorem dX6_from_10 : decode cX6_from 10 = .ok (.bipush (-2), 2) := by decide +kernel
theorem dX6_from_12 : decode cX6_from 12 = .ok (.invokevirtual 76, 3) := by decide +kernel
theorem dX6_from_15 : decode cX6_from 15 = .ok (.ireturn, 1) := by decide +kernel
theorem dX6_from_16 : decode cX6_from 16 = .ok (.aload_n 0, 1) := by decide +kernel
theorem dX6_from_17 : decode cX6_from 17 = .ok (.getfield 23, 3) := by decide +kernel
theorem dX6_from_20 : decode cX6_from 20 = .ok (.iload_n 1, 1) := by decide +kernel
theorem dX6_from_21 : decode cX6_from 21 = .ok (.baload, 1) := by decide +kernel
theorem dX6_from_22 : decode cX6_from 22 = .ok (.ifCond .ne 10, 3) := by decide +kernel
theorem dX6_from_25 : decode cX6_from 25 = .ok (.aload_n 0, 1) := by decide +kernel
theorem dX6_from_26 : decode cX6_from 26 = .ok (.bipush (-3), 2) := by decide +kernel
theorem dX6_from_28 : decode cX6_from 28 = .ok (.invokevirtual 76, 3) := by decide +kernel
theorem dX6_from_31 : decode cX6_from 31 = .ok (.ireturn, 1) := by decide +kernel
theorem dX6_from_32 : decode cX6_from 32 = .ok (.aload_n 0, 1) := by decide +kernel
theorem dX6_from_33 : decode cX6_from 33 = .ok (.getfield 10, 3) := by decide +kernel
theorem dX6_from_36 : decode cX6_from 36 = .ok (.aload_n 0, 1) := by decide +kernel
theorem dX6_from_37 : decode cX6_from 37 = .ok (.getfield 19, 3) := by decide +kernel
theorem dX6_from_40 : decode cX6_from 40 = .ok (.iload_n 1, 1) := by decide +kernel
theorem dX6_from_41 : decode cX6_from 41 = .ok (.aaload, 1) := by decide +kernel
theorem dX6_from_42 : decode cX6_from 42 = .ok (.invokevirtual 110, 3) := by decide +kernel
theorem dX6_from_45 : decode cX6_from 45 = .ok (.iconst 1, 1) := by decide +kernel
theorem dX6_from_46 : decode cX6_from 46 = .ok (.ireturn, 1) := by decide +kernel
theorem dX6_status_0 : decode cX6_status 0 = .ok (.iload_n 1, 1) := by decide +kernel
theorem dX6_status_1 : decode cX6_status 1 = .ok (.iconst 0, 1) := by decide +kernel
theorem dX6_status_2 : decode cX6_status 2 = .ok (.iconst 2, 1) := by decide +kernel
theorem dX6_status_3 : decode cX6_status 3 = .ok (.invokestatic 121, 3) := by decide +kernel
theorem dX6_status_6 : decode cX6_status 6 = .ok (.ifCond .ne 12, 3) := by decide +kernel
theorem dX6_status_9 : decode cX6_status 9 = .ok (.aload_n 0, 1) := by decide +kernel
theorem dX6_status_10 : decode cX6_status 10 = .ok (.bipush (-2), 2) := by decide +kernel
theorem dX6_status_12 : decode cX6_status 12 = .ok (.invokevirtual 76, 3) := by decide +kernel
theorem dX6_status_15 : decode cX6_status 15 = .ok (.pop, 1) := by decide +kernel
theorem dX6_status_16 : decode cX6_status 16 = .ok (.iconst (-1), 1) := by decide +kernel
theorem dX6_status_17 : decode cX6_status 17 = .ok (.ireturn, 1) := by decide +kernel
theorem dX6_status_18 : decode cX6_status 18 = .ok (.aload_n 0, 1) := by decide +kernel
theorem dX6_status_19 : decode cX6_status 19 = .ok (.getfield 68, 3) := by decide +kernel
theorem dX6_status_22 : decode cX6_status 22 = .ok (.iload_n 1, 1) := by decide +kernel
theorem dX6_status_23 : decode cX6_status 23 = .ok (.iaload, 1) := by decide +kernel
theorem dX6_status_24 : decode cX6_status 24 = .ok (.ireturn, 1) := by decide +kernel
theorem dX6_count_0 : decode cX6_count 0 = .ok (.iload_n 1, 1) := by decide +kernel
theorem dX6_count_1 : decode cX6_count 1 = .ok (.tableswitch 63 0 3 #[31, 39, 47, 55], 31) := by decide +kernel
theorem dX6_count_32 : decode cX6_count 32 = .ok (.aload_n 0, 1) := by decide +kernel
theorem dX6_count_33 : decode cX6_count 33 = .ok (.getfield 10, 3) := by decide +kernel
theorem dX6_count_36 : decode cX6_count 36 = .ok (.getfield 246, 3) := by decide +kernel
theorem dX6_count_39 : decode cX6_count 39 = .ok (.ireturn, 1) := by decide +kernel
theorem dX6_count_40 : decode cX6_count 40 = .ok (.aload_n 0, 1) := by decide +kernel
theorem dX6_count_41 : decode cX6_count 41 = .ok (.getfield 10, 3) := by decide +kernel
theorem dX6_count_44 : decode cX6_count 44 = .ok (.getfield 249, 3) := by decide +kernel
theorem dX6_count_47 : decode cX6_count 47 = .ok (.ireturn, 1) := by decide +kernel
theorem dX6_count_48 : decode cX6_count 48 = .ok (.aload_n 0, 1) := by decide +kernel
theorem dX6_count_49 : decode cX6_count 49 = .ok (.getfield 10, 3) := by decide +kernel
theorem dX6_count_52 : decode cX6_count 52 = .ok (.invokevirtual 252, 3) := by decide +kernel
theorem dX6_count_55 : decode cX6_count 55 = .ok (.ireturn, 1) := by decide +kernel
theorem dX6_count_56 : decode cX6_count 56 = .ok (.aload_n 0, 1) := by decide +kernel
theorem dX6_count_57 : decode cX6_count 57 = .ok (.getfield 30, 3) := by decide +kernel
theorem dX6_count_60 : decode cX6_count 60 = .ok (.getfield 255, 3) := by decide +kernel
theorem dX6_count_63 : decode cX6_count 63 = .ok (.ireturn, 1) := by decide +kernel
theorem dX6_count_64 : decode cX6_count 64 = .ok (.aload_n 0, 1) := by decide +kernel
theorem dX6_count_65 : decode cX6_count 65 = .ok (.bipush (-2), 2) := by decide +kernel
theorem dX6_count_67 : decode cX6_count 67 = .ok (.invokevirtual 76, 3) := by decide +kernel
theorem dX6_count_70 : decode cX6_count 70 = .ok (.ireturn, 1) := by decide +kernel
theorem dX6_digest_0 : decode cX6_digest 0 = .ok (.ldc2_w 256, 3) := by decide +kernel
theorem dX6_digest_3 : decode cX6_digest 3 = .ok (.lstore_n 1, 1) := by decide +kernel
theorem dX6_digest_4 : decode cX6_digest 4 = .ok (.ldc2_w 258, 3) := by decide +kernel
theorem dX6_digest_7 : decode cX6_digest 7 = .ok (.lload_n 1, 1) := by decide +kernel
theorem dX6_digest_8 : decode cX6_digest 8 = .ok (.lmul, 1) := by decide +kernel
theorem dX6_digest_9 : decode cX6_digest 9 = .ok (.aload_n 0, 1) := by decide +kernel
theorem dX6_digest_10 : decode cX6_digest 10 = .ok (.getfield 10, 3) := by decide +kernel
theorem dX6_digest_13 : decode cX6_digest 13 = .ok (.getfield 246, 3) := by decide +kernel
theorem dX6_digest_16 : decode cX6_digest 16 = .ok (.i2l, 1) := by decide +kernel
theorem dX6_digest_17 : decode cX6_digest 17 = .ok (.ladd, 1) := by decide +kernel
theorem dX6_digest_18 : decode cX6_digest 18 = .ok (.lstore_n 1, 1) := by decide +kernel
theorem dX6_digest_19 : decode cX6_digest 19 = .ok (.ldc2_w 258, 3) := by decide +kernel
theorem dX6_digest_22 : decode cX6_digest 22 = .ok (.lload_n 1, 1) := by decide +kernel
theorem dX6_digest_23 : decode cX6_digest 23 = .ok (.lmul, 1) := by decide +kernel
theorem dX6_digest_24 : decode cX6_digest 24 = .ok (.aload_n 0, 1) := by decide +kernel
theorem dX6_digest_25 : decode cX6_digest 25 = .ok (.getfield 10, 3) := by decide +kernel
theorem dX6_digest_28 : decode cX6_digest 28 = .ok (.getfield 249, 3) := by decide +kernel
theorem dX6_digest_31 : decode cX6_digest 31 = .ok (.i2l, 1) := by decide +kernel
theorem dX6_digest_32 : decode cX6_digest 32 = .ok (.ladd, 1) := by decide +kernel
theorem dX6_digest_33 : decode cX6_digest 33 = .ok (.lstore_n 1, 1) := by decide +kernel
theorem dX6_digest_34 : decode cX6_digest 34 = .ok (.ldc2_w 258, 3) := by decide +kernel
theorem dX6_digest_37 : decode cX6_digest 37 = .ok (.lload_n 1, 1) := by decide +kernel
theorem dX6_digest_38 : decode cX6_digest 38 = .ok (.lmul, 1) := by decide +kernel
theorem dX6_digest_39 : decode cX6_digest 39 = .ok (.aload_n 0, 1) := by decide +kernel
theorem dX6_digest_40 : decode cX6_digest 40 = .ok (.getfield 10, 3) := by decide +kernel
theorem dX6_digest_43 : decode cX6_digest 43 = .ok (.invokevirtual 252, 3) := by decide +kernel
theorem dX6_digest_46 : decode cX6_digest 46 = .ok (.i2l, 1) := by decide +kernel
theorem dX6_digest_47 : decode cX6_digest 47 = .ok (.ladd, 1) := by decide +kernel
theorem dX6_digest_48 : decode cX6_digest 48 = .ok (.lstore_n 1, 1) := by decide +kernel
theorem dX6_digest_49 : decode cX6_digest 49 = .ok (.ldc2_w 258, 3) := by decide +kernel
theorem dX6_digest_52 : decode cX6_digest 52 = .ok (.lload_n 1, 1) := by decide +kernel
theorem dX6_digest_53 : decode cX6_digest 53 = .ok (.lmul, 1) := by decide +kernel
theorem dX6_digest_54 : decode cX6_digest 54 = .ok (.aload_n 0, 1) := by decide +kernel
theorem dX6_digest_55 : decode cX6_digest 55 = .ok (.getfield 30, 3) := by decide +kernel
theorem dX6_digest_58 : decode cX6_digest 58 = .ok (.getfield 255, 3) := by decide +kernel
theorem dX6_digest_61 : decode cX6_digest 61 = .ok (.i2l, 1) := by decide +kernel
theorem dX6_digest_62 : decode cX6_digest 62 = .ok (.ladd, 1) := by decide +kernel
theorem dX6_digest_63 : decode cX6_digest 63 = .ok (.lstore_n 1, 1) := by decide +kernel
theorem dX6_digest_64 : decode cX6_digest 64 = .ok (.aload_n 0, 1) := by decide +kernel
theorem dX6_digest_65 : decode cX6_digest 65 = .ok (.getfield 10, 3) := by decide +kernel
theorem dX6_digest_68 : decode cX6_digest 68 = .ok (.lload_n 1, 1) := by decide +kernel
theorem dX6_digest_69 : decode cX6_digest 69 = .ok (.invokevirtual 260, 3) := by decide +kernel
theorem dX6_digest_72 : decode cX6_digest 72 = .ok (.lstore_n 1, 1) := by decide +kernel
theorem dX6_digest_73 : decode cX6_digest 73 = .ok (.ldc2_w 258, 3) := by decide +kernel
theorem dX6_digest_76 : decode cX6_digest 76 = .ok (.lload_n 1, 1) := by decide +kernel
theorem dX6_digest_77 : decode cX6_digest 77 = .ok (.lmul, 1) := by decide +kernel
theorem dX6_digest_78 : decode cX6_digest 78 = .ok (.aload_n 0, 1) := by decide +kernel
theorem dX6_digest_79 : decode cX6_digest 79 = .ok (.getfield 51, 3) := by decide +kernel
theorem dX6_digest_82 : decode cX6_digest 82 = .ok (.getfield 234, 3) := by decide +kernel
theorem dX6_digest_85 : decode cX6_digest 85 = .ok (.invokevirtual 190, 3) := by decide +kernel
theorem dX6_digest_88 : decode cX6_digest 88 = .ok (.ifCond .eq 7, 3) := by decide +kernel
theorem dX6_digest_91 : decode cX6_digest 91 = .ok (.iconst 0, 1) := by decide +kernel
theorem dX6_digest_92 : decode cX6_digest 92 = .ok (.goto 4, 3) := by decide +kernel
theorem dX6_digest_95 : decode cX6_digest 95 = .ok (.iconst 1, 1) := by decide +kernel
theorem dX6_digest_96 : decode cX6_digest 96 = .ok (.i2l, 1) := by decide +kernel
theorem dX6_digest_97 : decode cX6_digest 97 = .ok (.ladd, 1) := by decide +kernel
theorem dX6_digest_98 : decode cX6_digest 98 = .ok (.lstore_n 1, 1) := by decide +kernel
theorem dX6_digest_99 : decode cX6_digest 99 = .ok (.ldc2_w 258, 3) := by decide +kernel
theorem dX6_digest_102 : decode cX6_digest 102 = .ok (.lload_n 1, 1) := by decide +kernel
theorem dX6_digest_103 : decode cX6_digest 103 = .ok (.lmul, 1) := by decide +kernel
theorem dX6_digest_104 : decode cX6_digest 104 = .ok (.aload_n 0, 1) := by decide +kernel
theorem dX6_digest_105 : decode cX6_digest 105 = .ok (.getfield 51, 3) := by decide +kernel
theorem dX6_digest_108 : decode cX6_digest 108 = .ok (.getfield 234, 3) := by decide +kernel
theorem dX6_digest_111 : decode cX6_digest 111 = .ok (.getfield 237, 3) := by decide +kernel
theorem dX6_digest_114 : decode cX6_digest 114 = .ok (.i2l, 1) := by decide +kernel
theorem dX6_digest_115 : decode cX6_digest 115 = .ok (.ladd, 1) := by decide +kernel
theorem dX6_digest_116 : decode cX6_digest 116 = .ok (.lstore_n 1, 1) := by decide +kernel
theorem dX6_digest_117 : decode cX6_digest 117 = .ok (.ldc2_w 258, 3) := by decide +kernel
theorem dX6_digest_120 : decode cX6_digest 120 = .ok (.lload_n 1, 1) := by decide +kernel
theorem dX6_digest_121 : decode cX6_digest 121 = .ok (.lmul, 1) := by decide +kernel
theorem dX6_digest_122 : decode cX6_digest 122 = .ok (.aload_n 0, 1) := by decide +kernel
theorem dX6_digest_123 : decode cX6_digest 123 = .ok (.getfield 51, 3) := by decide +kernel
theorem dX6_digest_126 : decode cX6_digest 126 = .ok (.getfield 240, 3) := by decide +kernel
theorem dX6_digest_129 : decode cX6_digest 129 = .ok (.getfield 237, 3) := by decide +kernel
theorem dX6_digest_132 : decode cX6_digest 132 = .ok (.i2l, 1) := by decide +kernel
theorem dX6_digest_133 : decode cX6_digest 133 = .ok (.ladd, 1) := by decide +kernel
theorem dX6_digest_134 : decode cX6_digest 134 = .ok (.lstore_n 1, 1) := by decide +kernel
theorem dX6_digest_135 : decode cX6_digest 135 = .ok (.aload_n 0, 1) := by decide +kernel
theorem dX6_digest_136 : decode cX6_digest 136 = .ok (.getfield 51, 3) := by decide +kernel
theorem dX6_digest_139 : decode cX6_digest 139 = .ok (.getfield 234, 3) := by decide +kernel
theorem dX6_digest_142 : decode cX6_digest 142 = .ok (.lload_n 1, 1) := by decide +kernel
theorem dX6_digest_143 : decode cX6_digest 143 = .ok (.invokevirtual 264, 3) := by decide +kernel
theorem dX6_digest_146 : decode cX6_digest 146 = .ok (.lstore_n 1, 1) := by decide +kernel
theorem dX6_digest_147 : decode cX6_digest 147 = .ok (.aload_n 0, 1) := by decide +kernel
theorem dX6_digest_148 : decode cX6_digest 148 = .ok (.getfield 51, 3) := by decide +kernel
theorem dX6_digest_151 : decode cX6_digest 151 = .ok (.getfield 240, 3) := by decide +kernel
theorem dX6_digest_154 : decode cX6_digest 154 = .ok (.lload_n 1, 1) := by decide +kernel
theorem dX6_digest_155 : decode cX6_digest 155 = .ok (.invokevirtual 264, 3) := by decide +kernel
theorem dX6_digest_158 : decode cX6_digest 158 = .ok (.lreturn, 1) := by decide +kernel
theorem dX6_told_0 : decode cX6_told 0 = .ok (.iload_n 1, 1) := by decide +kernel
theorem dX6_told_1 : decode cX6_told 1 = .ok (.bipush (-2), 2) := by decide +kernel
theorem dX6_told_3 : decode cX6_told 3 = .ok (.if_icmp .gt 22, 3) := by decide +kernel
theorem dX6_told_6 : decode cX6_told 6 = .ok (.iload_n 1, 1) := by decide +kernel
theorem dX6_told_7 : decode cX6_told 7 = .ok (.bipush (-4), 2) := by decide +kernel
theorem dX6_told_9 : decode cX6_told 9 = .ok (.if_icmp .lt 16, 3) := by decide +kernel
theorem dX6_told_12 : decode cX6_told 12 = .ok (.aload_n 0, 1) := by decide +kernel
theorem dX6_told_13 : decode cX6_told 13 = .ok (.getfield 68, 3) := by decide +kernel
theorem dX6_told_16 : decode cX6_told 16 = .ok (.bipush (-2), 2) := by decide +kernel
theorem dX6_told_18 : decode cX6_told 18 = .ok (.iload_n 1, 1) := by decide +kernel
theorem dX6_told_19 : decode cX6_told 19 = .ok (.isub, 1) := by decide +kernel
theorem dX6_told_20 : decode cX6_told 20 = .ok (.dup2, 1) := by decide +kernel
theorem dX6_told_21 : decode cX6_told 21 = .ok (.iaload, 1) := by decide +kernel
theorem dX6_told_22 : decode cX6_told 22 = .ok (.iconst 1, 1) := by decide +kernel
theorem dX6_told_23 : decode cX6_told 23 = .ok (.iadd, 1) := by decide +kernel
theorem dX6_told_24 : decode cX6_told 24 = .ok (.iastore, 1) := by decide +kernel
theorem dX6_told_25 : decode cX6_told 25 = .ok (.iload_n 1, 1) := by decide +kernel
theorem dX6_told_26 : decode cX6_told 26 = .ok (.ireturn, 1) := by decide +kernel
theorem dX6_lookAt_0 : decode cX6_lookAt 0 = .ok (.aload_n 0, 1) := by decide +kernel
theorem dX6_lookAt_1 : decode cX6_lookAt 1 = .ok (.getfield 37, 3) := by decide +kernel
theorem dX6_lookAt_4 : decode cX6_lookAt 4 = .ok (.aload_n 1, 1) := by decide +kernel
theorem dX6_lookAt_5 : decode cX6_lookAt 5 = .ok (.invokevirtual 265, 3) := by decide +kernel
theorem dX6_lookAt_8 : decode cX6_lookAt 8 = .ok (.aload_n 0, 1) := by decide +kernel
theorem dX6_lookAt_9 : decode cX6_lookAt 9 = .ok (.getfield 44, 3) := by decide +kernel
theorem dX6_lookAt_12 : decode cX6_lookAt 12 = .ok (.aload_n 1, 1) := by decide +kernel
theorem dX6_lookAt_13 : decode cX6_lookAt 13 = .ok (.aload_n 0, 1) := by decide +kernel
theorem dX6_lookAt_14 : decode cX6_lookAt 14 = .ok (.getfield 37, 3) := by decide +kernel
theorem dX6_lookAt_17 : decode cX6_lookAt 17 = .ok (.iload_n 2, 1) := by decide +kernel
theorem dX6_lookAt_18 : decode cX6_lookAt 18 = .ok (.invokevirtual 268, 3) := by decide +kernel
theorem dX6_lookAt_21 : decode cX6_lookAt 21 = .ok (.return_, 1) := by decide +kernel
theorem dX6_reckonAround_0 : decode cX6_reckonAround 0 = .ok (.aload_n 0, 1) := by decide +kernel
theorem dX6_reckonAround_1 : decode cX6_reckonAround 1 = .ok (.aload_n 0, 1) := by decide +kernel
theorem dX6_reckonAround_2 : decode cX6_reckonAround 2 = .ok (.getfield 10, 3) := by decide +kernel
theorem dX6_reckonAround_5 : decode cX6_reckonAround 5 = .ok (.iload_n 1, 1) := by decide +kernel
theorem dX6_reckonAround_6 : decode cX6_reckonAround 6 = .ok (.bipush 8, 2) := by decide +kernel
theorem dX6_reckonAround_8 : decode cX6_reckonAround 8 = .ok (.idiv, 1) := by decide +kernel
theorem dX6_reckonAround_9 : decode cX6_reckonAround 9 = .ok (.invokevirtual 143, 3) := by decide +kernel
theorem dX6_reckonAround_12 : decode cX6_reckonAround 12 = .ok (.aload_n 0, 1) := by decide +kernel
theorem dX6_reckonAround_13 : decode cX6_reckonAround 13 = .ok (.getfield 44, 3) := by decide +kernel
theorem dX6_reckonAround_16 : decode cX6_reckonAround 16 = .ok (.invokevirtual 272, 3) := by decide +kernel
theorem dX6_reckonAround_19 : decode cX6_reckonAround 19 = .ok (.aload_n 0, 1) := by decide +kernel
theorem dX6_reckonAround_20 : decode cX6_reckonAround 20 = .ok (.getfield 44, 3) := by decide +kernel
theorem dX6_reckonAround_23 : decode cX6_reckonAround 23 = .ok (.getfield 158, 3) := by decide +kernel
theorem dX6_reckonAround_26 : decode cX6_reckonAround 26 = .ok (.lconst 0, 1) := by decide +kernel
theorem dX6_reckonAround_27 : decode cX6_reckonAround 27 = .ok (.lcmp, 1) := by decide +kernel
theorem dX6_reckonAround_28 : decode cX6_reckonAround 28 = .ok (.ifCond .eq 7, 3) := by decide +kernel
theorem dX6_reckonAround_31 : decode cX6_reckonAround 31 = .ok (.iconst 1, 1) := by decide +kernel
theorem dX6_reckonAround_32 : decode cX6_reckonAround 32 = .ok (.goto 4, 3) := by decide +kernel
theorem dX6_reckonAround_35 : decode cX6_reckonAround 35 = .ok (.iconst 0, 1) := by decide +kernel
theorem dX6_reckonAround_36 : decode cX6_reckonAround 36 = .ok (.ireturn, 1) := by decide +kernel
theorem dX6_multiplyHems_0 : decode cX6_multiplyHems 0 = .ok (.aload_n 0, 1) := by decide +kernel
theorem dX6_multiplyHems_1 : decode cX6_multiplyHems 1 = .ok (.getfield 58, 3) := by decide +kernel
theorem dX6_multiplyHems_4 : decode cX6_multiplyHems 4 = .ok (.lconst 1, 1) := by decide +kernel
theorem dX6_multiplyHems_5 : decode cX6_multiplyHems 5 = .ok (.invokevirtual 178, 3) := by decide +kernel
theorem dX6_multiplyHems_8 : decode cX6_multiplyHems 8 = .ok (.aload_n 0, 1) := by decide +kernel
theorem dX6_multiplyHems_9 : decode cX6_multiplyHems 9 = .ok (.getfield 37, 3) := by decide +kernel
theorem dX6_multiplyHems_12 : decode cX6_multiplyHems 12 = .ok (.aload_n 1, 1) := by decide +kernel
theorem dX6_multiplyHems_13 : decode cX6_multiplyHems 13 = .ok (.invokevirtual 265, 3) := by decide +kernel
theorem dX6_multiplyHems_16 : decode cX6_multiplyHems 16 = .ok (.iconst 0, 1) := by decide +kernel
theorem dX6_multiplyHems_17 : decode cX6_multiplyHems 17 = .ok (.istore_n 2, 1) := by decide +kernel
theorem dX6_multiplyHems_18 : decode cX6_multiplyHems 18 = .ok (.iload_n 2, 1) := by decide +kernel
theorem dX6_multiplyHems_19 : decode cX6_multiplyHems 19 = .ok (.bipush 6, 2) := by decide +kernel
theorem dX6_multiplyHems_21 : decode cX6_multiplyHems 21 = .ok (.if_icmp .ge 53, 3) := by decide +kernel
theorem dX6_multiplyHems_24 : decode cX6_multiplyHems 24 = .ok (.aload_n 0, 1) := by decide +kernel
theorem dX6_multiplyHems_25 : decode cX6_multiplyHems 25 = .ok (.getfield 58, 3) := by decide +kernel
theorem dX6_multiplyHems_28 : decode cX6_multiplyHems 28 = .ok (.invokevirtual 190, 3) := by decide +kernel
theorem dX6_multiplyHems_31 : decode cX6_multiplyHems 31 = .ok (.ifCond .ne 43, 3) := by decide +kernel
theorem dX6_multiplyHems_34 : decode cX6_multiplyHems 34 = .ok (.aload_n 0, 1) := by decide +kernel
theorem dX6_multiplyHems_35 : decode cX6_multiplyHems 35 = .ok (.getfield 44, 3) := by decide +kernel
theorem dX6_multiplyHems_38 : decode cX6_multiplyHems 38 = .ok (.aload_n 1, 1) := by decide +kernel
theorem dX6_multiplyHems_39 : decode cX6_multiplyHems 39 = .ok (.aload_n 0, 1) := by decide +kernel
theorem dX6_multiplyHems_40 : decode cX6_multiplyHems 40 = .ok (.getfield 37, 3) := by decide +kernel
theorem dX6_multiplyHems_43 : decode cX6_multiplyHems 43 = .ok (.iload_n 2, 1) := by decide +kernel
theorem dX6_multiplyHems_44 : decode cX6_multiplyHems 44 = .ok (.invokevirtual 268, 3) := by decide +kernel
theorem dX6_multiplyHems_47 : decode cX6_multiplyHems 47 = .ok (.aload_n 0, 1) := by decide +kernel
theorem dX6_multiplyHems_48 : decode cX6_multiplyHems 48 = .ok (.getfield 44, 3) := by decide +kernel
theorem dX6_multiplyHems_51 : decode cX6_multiplyHems 51 = .ok (.invokevirtual 275, 3) := by decide +kernel
theorem dX6_multiplyHems_54 : decode cX6_multiplyHems 54 = .ok (.aload_n 0, 1) := by decide +kernel
theorem dX6_multiplyHems_55 : decode cX6_multiplyHems 55 = .ok (.getfield 58, 3) := by decide +kernel
theorem dX6_multiplyHems_58 : decode cX6_multiplyHems 58 = .ok (.aload_n 0, 1) := by decide +kernel
theorem dX6_multiplyHems_59 : decode cX6_multiplyHems 59 = .ok (.getfield 44, 3) := by decide +kernel
theorem dX6_multiplyHems_62 : decode cX6_multiplyHems 62 = .ok (.getfield 158, 3) := by decide +kernel
theorem dX6_multiplyHems_65 : decode cX6_multiplyHems 65 = .ok (.invokevirtual 278, 3) := by decide +kernel
theorem dX6_multiplyHems_68 : decode cX6_multiplyHems 68 = .ok (.iinc 2 1, 3) := by decide +kernel
theorem dX6_multiplyHems_71 : decode cX6_multiplyHems 71 = .ok (.goto (-53), 3) := by decide +kernel
theorem dX6_multiplyHems_74 : decode cX6_multiplyHems 74 = .ok (.return_, 1) := by decide +kernel
theorem dX6_allHemsCanBe_0 : decode cX6_allHemsCanBe 0 = .ok (.aload_n 0, 1) := by decide +kernel
theorem dX6_allHemsCanBe_1 : decode cX6_allHemsCanBe 1 = .ok (.getfield 37, 3) := by decide +kernel
theorem dX6_allHemsCanBe_4 : decode cX6_allHemsCanBe 4 = .ok (.aload_n 1, 1) := by decide +kernel
theorem dX6_allHemsCanBe_5 : decode cX6_allHemsCanBe 5 = .ok (.invokevirtual 265, 3) := by decide +kernel
theorem dX6_allHemsCanBe_8 : decode cX6_allHemsCanBe 8 = .ok (.iconst 0, 1) := by decide +kernel
theorem dX6_allHemsCanBe_9 : decode cX6_allHemsCanBe 9 = .ok (.istore_n 2, 1) := by decide +kernel
theorem dX6_allHemsCanBe_10 : decode cX6_allHemsCanBe 10 = .ok (.iload_n 2, 1) := by decide +kernel
theorem dX6_allHemsCanBe_11 : decode cX6_allHemsCanBe 11 = .ok (.bipush 6, 2) := by decide +kernel
theorem dX6_allHemsCanBe_13 : decode cX6_allHemsCanBe 13 = .ok (.if_icmp .ge 35, 3) := by decide +kernel
theorem dX6_allHemsCanBe_16 : decode cX6_allHemsCanBe 16 = .ok (.aload_n 0, 1) := by decide +kernel
theorem dX6_allHemsCanBe_17 : decode cX6_allHemsCanBe 17 = .ok (.getfield 44, 3) := by decide +kernel
theorem dX6_allHemsCanBe_20 : decode cX6_allHemsCanBe 20 = .ok (.aload_n 1, 1) := by decide +kernel
theorem dX6_allHemsCanBe_21 : decode cX6_allHemsCanBe 21 = .ok (.aload_n 0, 1) := by decide +kernel
theorem dX6_allHemsCanBe_22 : decode cX6_allHemsCanBe 22 = .ok (.getfield 37, 3) := by decide +kernel
theorem dX6_allHemsCanBe_25 : decode cX6_allHemsCanBe 25 = .ok (.iload_n 2, 1) := by decide +kernel
theorem dX6_allHemsCanBe_26 : decode cX6_allHemsCanBe 26 = .ok (.invokevirtual 268, 3) := by decide +kernel
theorem dX6_allHemsCanBe_29 : decode cX6_allHemsCanBe 29 = .ok (.aload_n 0, 1) := by decide +kernel
theorem dX6_allHemsCanBe_30 : decode cX6_allHemsCanBe 30 = .ok (.getfield 44, 3) := by decide +kernel
theorem dX6_allHemsCanBe_33 : decode cX6_allHemsCanBe 33 = .ok (.iconst 0, 1) := by decide +kernel
theorem dX6_allHemsCanBe_34 : decode cX6_allHemsCanBe 34 = .ok (.invokevirtual 172, 3) := by decide +kernel
theorem dX6_allHemsCanBe_37 : decode cX6_allHemsCanBe 37 = .ok (.ifCond .ne 5, 3) := by decide +kernel
theorem dX6_allHemsCanBe_40 : decode cX6_allHemsCanBe 40 = .ok (.iconst 0, 1) := by decide +kernel
theorem dX6_allHemsCanBe_41 : decode cX6_allHemsCanBe 41 = .ok (.ireturn, 1) := by decide +kernel
theorem dX6_allHemsCanBe_42 : decode cX6_allHemsCanBe 42 = .ok (.iinc 2 1, 3) := by decide +kernel
theorem dX6_allHemsCanBe_45 : decode cX6_allHemsCanBe 45 = .ok (.goto (-35), 3) := by decide +kernel
theorem dX6_allHemsCanBe_48 : decode cX6_allHemsCanBe 48 = .ok (.iconst 1, 1) := by decide +kernel
theorem dX6_allHemsCanBe_49 : decode cX6_allHemsCanBe 49 = .ok (.ireturn, 1) := by decide +kernel
theorem dX6_restsOn_0 : decode cX6_restsOn 0 = .ok (.lconst 0, 1) := by decide +kernel
theorem dX6_restsOn_1 : decode cX6_restsOn 1 = .ok (.lstore_n 2, 1) := by decide +kernel
theorem dX6_restsOn_2 : decode cX6_restsOn 2 = .ok (.iconst 0, 1) := by decide +kernel
theorem dX6_restsOn_3 : decode cX6_restsOn 3 = .ok (.istore 4, 2) := by decide +kernel
theorem dX6_restsOn_5 : decode cX6_restsOn 5 = .ok (.iload 4, 2) := by decide +kernel
theorem dX6_restsOn_7 : decode cX6_restsOn 7 = .ok (.bipush 21, 2) := by decide +kernel
theorem dX6_restsOn_9 : decode cX6_restsOn 9 = .ok (.if_icmp .ge 42, 3) := by decide +kernel
theorem dX6_restsOn_12 : decode cX6_restsOn 12 = .ok (.iload 4, 2) := by decide +kernel
theorem dX6_restsOn_14 : decode cX6_restsOn 14 = .ok (.invokestatic 281, 3) := by decide +kernel
theorem dX6_restsOn_17 : decode cX6_restsOn 17 = .ok (.aload_n 0, 1) := by decide +kernel
theorem dX6_restsOn_18 : decode cX6_restsOn 18 = .ok (.getfield 10, 3) := by decide +kernel
theorem dX6_restsOn_21 : decode cX6_restsOn 21 = .ok (.getfield 284, 3) := by decide +kernel
theorem dX6_restsOn_24 : decode cX6_restsOn 24 = .ok (.iload_n 1, 1) := by decide +kernel
theorem dX6_restsOn_25 : decode cX6_restsOn 25 = .ok (.iaload, 1) := by decide +kernel
theorem dX6_restsOn_26 : decode cX6_restsOn 26 = .ok (.if_icmp .ne 19, 3) := by decide +kernel
theorem dX6_restsOn_29 : decode cX6_restsOn 29 = .ok (.lload_n 2, 1) := by decide +kernel
theorem dX6_restsOn_30 : decode cX6_restsOn 30 = .ok (.aload_n 0, 1) := by decide +kernel
theorem dX6_restsOn_31 : decode cX6_restsOn 31 = .ok (.getfield 44, 3) := by decide +kernel
theorem dX6_restsOn_34 : decode cX6_restsOn 34 = .ok (.iload_n 1, 1) := by decide +kernel
theorem dX6_restsOn_35 : decode cX6_restsOn 35 = .ok (.bipush 8, 2) := by decide +kernel
theorem dX6_restsOn_37 : decode cX6_restsOn 37 = .ok (.irem, 1) := by decide +kernel
theorem dX6_restsOn_38 : decode cX6_restsOn 38 = .ok (.iload 4, 2) := by decide +kernel
theorem dX6_restsOn_40 : decode cX6_restsOn 40 = .ok (.invokevirtual 154, 3) := by decide +kernel
theorem dX6_restsOn_43 : decode cX6_restsOn 43 = .ok (.ladd, 1) := by decide +kernel
theorem dX6_restsOn_44 : decode cX6_restsOn 44 = .ok (.lstore_n 2, 1) := by decide +kernel
theorem dX6_restsOn_45 : decode cX6_restsOn 45 = .ok (.iinc 4 1, 3) := by decide +kernel
theorem dX6_restsOn_48 : decode cX6_restsOn 48 = .ok (.goto (-43), 3) := by decide +kernel
theorem dX6_restsOn_51 : decode cX6_restsOn 51 = .ok (.lload_n 2, 1) := by decide +kernel
theorem dX6_restsOn_52 : decode cX6_restsOn 52 = .ok (.aload_n 0, 1) := by decide +kernel
theorem dX6_restsOn_53 : decode cX6_restsOn 53 = .ok (.getfield 44, 3) := by decide +kernel
theorem dX6_restsOn_56 : decode cX6_restsOn 56 = .ok (.getfield 158, 3) := by decide +kernel
theorem dX6_restsOn_59 : decode cX6_restsOn 59 = .ok (.lcmp, 1) := by decide +kernel
theorem dX6_restsOn_60 : decode cX6_restsOn 60 = .ok (.ifCond .ne 5, 3) := by decide +kernel
theorem dX6_restsOn_63 : decode cX6_restsOn 63 = .ok (.iconst 0, 1) := by decide +kernel
theorem dX6_restsOn_64 : decode cX6_restsOn 64 = .ok (.ireturn, 1) := by decide +kernel
theorem dX6_restsOn_65 : decode cX6_restsOn 65 = .ok (.aload_n 0, 1) := by decide +kernel
theorem dX6_restsOn_66 : decode cX6_restsOn 66 = .ok (.getfield 44, 3) := by decide +kernel
theorem dX6_restsOn_69 : decode cX6_restsOn 69 = .ok (.getfield 158, 3) := by decide +kernel
theorem dX6_restsOn_72 : decode cX6_restsOn 72 = .ok (.lload_n 2, 1) := by decide +kernel
theorem dX6_restsOn_73 : decode cX6_restsOn 73 = .ok (.lsub, 1) := by decide +kernel
theorem dX6_restsOn_74 : decode cX6_restsOn 74 = .ok (.lload_n 2, 1) := by decide +kernel
theorem dX6_restsOn_75 : decode cX6_restsOn 75 = .ok (.invokestatic 287, 3) := by decide +kernel
theorem dX6_restsOn_78 : decode cX6_restsOn 78 = .ok (.ifCond .eq 5, 3) := by decide +kernel
theorem dX6_restsOn_81 : decode cX6_restsOn 81 = .ok (.iconst 1, 1) := by decide +kernel
theorem dX6_restsOn_82 : decode cX6_restsOn 82 = .ok (.ireturn, 1) := by decide +kernel
theorem dX6_restsOn_83 : decode cX6_restsOn 83 = .ok (.lload_n 2, 1) := by decide +kernel
theorem dX6_restsOn_84 : decode cX6_restsOn 84 = .ok (.lconst 0, 1) := by decide +kernel
theorem dX6_restsOn_85 : decode cX6_restsOn 85 = .ok (.lcmp, 1) := by decide +kernel
theorem dX6_restsOn_86 : decode cX6_restsOn 86 = .ok (.ifCond .eq 7, 3) := by decide +kernel
theorem dX6_restsOn_89 : decode cX6_restsOn 89 = .ok (.iconst 2, 1) := by decide +kernel
theorem dX6_restsOn_90 : decode cX6_restsOn 90 = .ok (.goto 4, 3) := by decide +kernel
theorem dX6_restsOn_93 : decode cX6_restsOn 93 = .ok (.iconst 3, 1) := by decide +kernel
theorem dX6_restsOn_94 : decode cX6_restsOn 94 = .ok (.ireturn, 1) := by decide +kernel
theorem dX6_farthestBright_0 : decode cX6_farthestBright 0 = .ok (.iconst (-1), 1) := by decide +kernel
theorem dX6_farthestBright_1 : decode cX6_farthestBright 1 = .ok (.istore_n 3, 1) := by decide +kernel
theorem dX6_farthestBright_2 : decode cX6_farthestBright 2 = .ok (.iconst 0, 1) := by decide +kernel
theorem dX6_farthestBright_3 : decode cX6_farthestBright 3 = .ok (.istore 4, 2) := by decide +kernel
theorem dX6_farthestBright_5 : decode cX6_farthestBright 5 = .ok (.iload 4, 2) := by decide +kernel
theorem dX6_farthestBright_7 : decode cX6_farthestBright 7 = .ok (.bipush 21, 2) := by decide +kernel
theorem dX6_farthestBright_9 : decode cX6_farthestBright 9 = .ok (.if_icmp .ge 62, 3) := by decide +kernel
theorem dX6_farthestBright_12 : decode cX6_farthestBright 12 = .ok (.aload_n 0, 1) := by decide +kernel
theorem dX6_farthestBright_13 : decode cX6_farthestBright 13 = .ok (.getfield 44, 3) := by decide +kernel
theorem dX6_farthestBright_16 : decode cX6_farthestBright 16 = .ok (.iload_n 1, 1) := by decide +kernel
theorem dX6_farthestBright_17 : decode cX6_farthestBright 17 = .ok (.iload 4, 2) := by decide +kernel
theorem dX6_farthestBright_19 : decode cX6_farthestBright 19 = .ok (.invokevirtual 154, 3) := by decide +kernel
theorem dX6_farthestBright_22 : decode cX6_farthestBright 22 = .ok (.lconst 0, 1) := by decide +kernel
theorem dX6_farthestBright_23 : decode cX6_farthestBright 23 = .ok (.lcmp, 1) := by decide +kernel
theorem dX6_farthestBright_24 : decode cX6_farthestBright 24 = .ok (.ifCond .eq 41, 3) := by decide +kernel
theorem dX6_farthestBright_27 : decode cX6_farthestBright 27 = .ok (.aload_n 0, 1) := by decide +kernel
theorem dX6_farthestBright_28 : decode cX6_farthestBright 28 = .ok (.getfield 10, 3) := by decide +kernel
theorem dX6_farthestBright_31 : decode cX6_farthestBright 31 = .ok (.iload 4, 2) := by decide +kernel
theorem dX6_farthestBright_33 : decode cX6_farthestBright 33 = .ok (.invokevirtual 290, 3) := by decide +kernel
theorem dX6_farthestBright_36 : decode cX6_farthestBright 36 = .ok (.istore 5, 2) := by decide +kernel
theorem dX6_farthestBright_38 : decode cX6_farthestBright 38 = .ok (.iload_n 3, 1) := by decide +kernel
theorem dX6_farthestBright_39 : decode cX6_farthestBright 39 = .ok (.iconst (-1), 1) := by decide +kernel
theorem dX6_farthestBright_40 : decode cX6_farthestBright 40 = .ok (.if_icmp .eq 22, 3) := by decide +kernel
theorem dX6_farthestBright_43 : decode cX6_farthestBright 43 = .ok (.iload_n 2, 1) := by decide +kernel
theorem dX6_farthestBright_44 : decode cX6_farthestBright 44 = .ok (.ifCond .eq 12, 3) := by decide +kernel
theorem dX6_farthestBright_47 : decode cX6_farthestBright 47 = .ok (.iload 5, 2) := by decide +kernel
theorem dX6_farthestBright_49 : decode cX6_farthestBright 49 = .ok (.iload_n 3, 1) := by decide +kernel
theorem dX6_farthestBright_50 : decode cX6_farthestBright 50 = .ok (.if_icmp .le 15, 3) := by decide +kernel
theorem dX6_farthestBright_53 : decode cX6_farthestBright 53 = .ok (.goto 9, 3) := by decide +kernel
theorem dX6_farthestBright_56 : decode cX6_farthestBright 56 = .ok (.iload 5, 2) := by decide +kernel
theorem dX6_farthestBright_58 : decode cX6_farthestBright 58 = .ok (.iload_n 3, 1) := by decide +kernel
theorem dX6_farthestBright_59 : decode cX6_farthestBright 59 = .ok (.if_icmp .ge 6, 3) := by decide +kernel
theorem dX6_farthestBright_62 : decode cX6_farthestBright 62 = .ok (.iload 5, 2) := by decide +kernel
theorem dX6_farthestBright_64 : decode cX6_farthestBright 64 = .ok (.istore_n 3, 1) := by decide +kernel
theorem dX6_farthestBright_65 : decode cX6_farthestBright 65 = .ok (.iinc 4 1, 3) := by decide +kernel
theorem dX6_farthestBright_68 : decode cX6_farthestBright 68 = .ok (.goto (-63), 3) := by decide +kernel
theorem dX6_farthestBright_71 : decode cX6_farthestBright 71 = .ok (.iload_n 3, 1) := by decide +kernel
theorem dX6_farthestBright_72 : decode cX6_farthestBright 72 = .ok (.ireturn, 1) := by decide +kernel
theorem dX6_meanBright_0 : decode cX6_meanBright 0 = .ok (.aload_n 0, 1) := by decide +kernel
theorem dX6_meanBright_1 : decode cX6_meanBright 1 = .ok (.getfield 65, 3) := by decide +kernel
theorem dX6_meanBright_4 : decode cX6_meanBright 4 = .ok (.lconst 0, 1) := by decide +kernel
theorem dX6_meanBright_5 : decode cX6_meanBright 5 = .ok (.invokevirtual 178, 3) := by decide +kernel
theorem dX6_meanBright_8 : decode cX6_meanBright 8 = .ok (.iconst 0, 1) := by decide +kernel
theorem dX6_meanBright_9 : decode cX6_meanBright 9 = .ok (.istore_n 2, 1) := by decide +kernel
theorem dX6_meanBright_10 : decode cX6_meanBright 10 = .ok (.iload_n 2, 1) := by decide +kernel
theorem dX6_meanBright_11 : decode cX6_meanBright 11 = .ok (.bipush 21, 2) := by decide +kernel
theorem dX6_meanBright_13 : decode cX6_meanBright 13 = .ok (.if_icmp .ge 33, 3) := by decide +kernel
theorem dX6_meanBright_16 : decode cX6_meanBright 16 = .ok (.aload_n 0, 1) := by decide +kernel
theorem dX6_meanBright_17 : decode cX6_meanBright 17 = .ok (.getfield 65, 3) := by decide +kernel
theorem dX6_meanBright_20 : decode cX6_meanBright 20 = .ok (.aload_n 0, 1) := by decide +kernel
theorem dX6_meanBright_21 : decode cX6_meanBright 21 = .ok (.getfield 44, 3) := by decide +kernel
theorem dX6_meanBright_24 : decode cX6_meanBright 24 = .ok (.iload_n 1, 1) := by decide +kernel
theorem dX6_meanBright_25 : decode cX6_meanBright 25 = .ok (.iload_n 2, 1) := by decide +kernel
theorem dX6_meanBright_26 : decode cX6_meanBright 26 = .ok (.invokevirtual 154, 3) := by decide +kernel
theorem dX6_meanBright_29 : decode cX6_meanBright 29 = .ok (.aload_n 0, 1) := by decide +kernel
theorem dX6_meanBright_30 : decode cX6_meanBright 30 = .ok (.getfield 10, 3) := by decide +kernel
theorem dX6_meanBright_33 : decode cX6_meanBright 33 = .ok (.iload_n 2, 1) := by decide +kernel
theorem dX6_meanBright_34 : decode cX6_meanBright 34 = .ok (.invokevirtual 290, 3) := by decide +kernel
theorem dX6_meanBright_37 : decode cX6_meanBright 37 = .ok (.invokevirtual 293, 3) := by decide +kernel
theorem dX6_meanBright_40 : decode cX6_meanBright 40 = .ok (.iinc 2 1, 3) := by decide +kernel
theorem dX6_meanBright_43 : decode cX6_meanBright 43 = .ok (.goto (-33), 3) := by decide +kernel
theorem dX6_meanBright_46 : decode cX6_meanBright 46 = .ok (.aload_n 0, 1) := by decide +kernel
theorem dX6_meanBright_47 : decode cX6_meanBright 47 = .ok (.getfield 62, 3) := by decide +kernel
theorem dX6_meanBright_50 : decode cX6_meanBright 50 = .ok (.aload_n 0, 1) := by decide +kernel
theorem dX6_meanBright_51 : decode cX6_meanBright 51 = .ok (.getfield 44, 3) := by decide +kernel
theorem dX6_meanBright_54 : decode cX6_meanBright 54 = .ok (.getfield 158, 3) := by decide +kernel
theorem dX6_meanBright_57 : decode cX6_meanBright 57 = .ok (.invokevirtual 178, 3) := by decide +kernel
theorem dX6_meanBright_60 : decode cX6_meanBright 60 = .ok (.aload_n 0, 1) := by decide +kernel
theorem dX6_meanBright_61 : decode cX6_meanBright 61 = .ok (.getfield 51, 3) := by decide +kernel
theorem dX6_meanBright_64 : decode cX6_meanBright 64 = .ok (.aload_n 0, 1) := by decide +kernel
theorem dX6_meanBright_65 : decode cX6_meanBright 65 = .ok (.getfield 65, 3) := by decide +kernel
theorem dX6_meanBright_68 : decode cX6_meanBright 68 = .ok (.aload_n 0, 1) := by decide +kernel
theorem dX6_meanBright_69 : decode cX6_meanBright 69 = .ok (.getfield 62, 3) := by decide +kernel
theorem dX6_meanBright_72 : decode cX6_meanBright 72 = .ok (.invokevirtual 194, 3) := by decide +kernel
theorem dX6_meanBright_75 : decode cX6_meanBright 75 = .ok (.iconst 1, 1) := by decide +kernel
theorem dX6_meanBright_76 : decode cX6_meanBright 76 = .ok (.ireturn, 1) := by decide +kernel
theorem dX6_within_0 : decode cX6_within 0 = .ok (.iload_n 0, 1) := by decide +kernel
theorem dX6_within_1 : decode cX6_within 1 = .ok (.iload_n 1, 1) := by decide +kernel
theorem dX6_within_2 : decode cX6_within 2 = .ok (.if_icmp .lt 12, 3) := by decide +kernel
theorem dX6_within_5 : decode cX6_within 5 = .ok (.iload_n 0, 1) := by decide +kernel
theorem dX6_within_6 : decode cX6_within 6 = .ok (.iload_n 2, 1) := by decide +kernel
theorem dX6_within_7 : decode cX6_within 7 = .ok (.if_icmp .gt 7, 3) := by decide +kernel
theorem dX6_within_10 : decode cX6_within 10 = .ok (.iconst 1, 1) := by decide +kernel
theorem dX6_within_11 : decode cX6_within 11 = .ok (.goto 4, 3) := by decide +kernel
theorem dX6_within_14 : decode cX6_within 14 = .ok (.iconst 0, 1) := by decide +kernel
theorem dX6_within_15 : decode cX6_within 15 = .ok (.ireturn, 1) := by decide +kernel
theorem dX6_isCell_0 : decode cX6_isCell 0 = .ok (.iload_n 0, 1) := by decide +kernel
theorem dX6_isCell_1 : decode cX6_isCell 1 = .ok (.iconst 0, 1) := by decide +kernel
theorem dX6_isCell_2 : decode cX6_isCell 2 = .ok (.bipush 47, 2) := by decide +kernel
theorem dX6_isCell_4 : decode cX6_isCell 4 = .ok (.invokestatic 121, 3) := by decide +kernel
theorem dX6_isCell_7 : decode cX6_isCell 7 = .ok (.ireturn, 1) := by decide +kernel
theorem dX6_sideOf_0 : decode cX6_sideOf 0 = .ok (.iload_n 0, 1) := by decide +kernel
theorem dX6_sideOf_1 : decode cX6_sideOf 1 = .ok (.bipush 8, 2) := by decide +kernel
theorem dX6_sideOf_3 : decode cX6_sideOf 3 = .ok (.irem, 1) := by decide +kernel
theorem dX6_sideOf_4 : decode cX6_sideOf 4 = .ok (.iconst 2, 1) := by decide +kernel
theorem dX6_sideOf_5 : decode cX6_sideOf 5 = .ok (.idiv, 1) := by decide +kernel
theorem dX6_sideOf_6 : decode cX6_sideOf 6 = .ok (.ireturn, 1) := by decide +kernel
theorem dX6_isHem_0 : decode cX6_isHem 0 = .ok (.iload_n 0, 1) := by decide +kernel
theorem dX6_isHem_1 : decode cX6_isHem 1 = .ok (.iconst 0, 1) := by decide +kernel
theorem dX6_isHem_2 : decode cX6_isHem 2 = .ok (.iconst 5, 1) := by decide +kernel
theorem dX6_isHem_3 : decode cX6_isHem 3 = .ok (.invokestatic 121, 3) := by decide +kernel
theorem dX6_isHem_6 : decode cX6_isHem 6 = .ok (.ireturn, 1) := by decide +kernel
theorem dX6_groundOf_0 : decode cX6_groundOf 0 = .ok (.iload_n 0, 1) := by decide +kernel
theorem dX6_groundOf_1 : decode cX6_groundOf 1 = .ok (.ifCond .gt 5, 3) := by decide +kernel
theorem dX6_groundOf_4 : decode cX6_groundOf 4 = .ok (.iconst (-1), 1) := by decide +kernel
theorem dX6_groundOf_5 : decode cX6_groundOf 5 = .ok (.ireturn, 1) := by decide +kernel
theorem dX6_groundOf_6 : decode cX6_groundOf 6 = .ok (.iload_n 0, 1) := by decide +kernel
theorem dX6_groundOf_7 : decode cX6_groundOf 7 = .ok (.iconst 4, 1) := by decide +kernel
theorem dX6_groundOf_8 : decode cX6_groundOf 8 = .ok (.if_icmp .gt 9, 3) := by decide +kernel
theorem dX6_groundOf_11 : decode cX6_groundOf 11 = .ok (.iload_n 0, 1) := by decide +kernel
theorem dX6_groundOf_12 : decode cX6_groundOf 12 = .ok (.iconst 1, 1) := by decide +kernel
theorem dX6_groundOf_13 : decode cX6_groundOf 13 = .ok (.isub, 1) := by decide +kernel
theorem dX6_groundOf_14 : decode cX6_groundOf 14 = .ok (.goto 10, 3) := by decide +kernel
theorem dX6_groundOf_17 : decode cX6_groundOf 17 = .ok (.iload_n 0, 1) := by decide +kernel
theorem dX6_groundOf_18 : decode cX6_groundOf 18 = .ok (.iconst 1, 1) := by decide +kernel
theorem dX6_groundOf_19 : decode cX6_groundOf 19 = .ok (.isub, 1) := by decide +kernel
theorem dX6_groundOf_20 : decode cX6_groundOf 20 = .ok (.iconst 4, 1) := by decide +kernel
theorem dX6_groundOf_21 : decode cX6_groundOf 21 = .ok (.isub, 1) := by decide +kernel
theorem dX6_groundOf_22 : decode cX6_groundOf 22 = .ok (.iconst 4, 1) := by decide +kernel
theorem dX6_groundOf_23 : decode cX6_groundOf 23 = .ok (.idiv, 1) := by decide +kernel
theorem dX6_groundOf_24 : decode cX6_groundOf 24 = .ok (.ireturn, 1) := by decide +kernel
theorem dX6_upperOf_0 : decode cX6_upperOf 0 = .ok (.iload_n 0, 1) := by decide +kernel
theorem dX6_upperOf_1 : decode cX6_upperOf 1 = .ok (.iconst 4, 1) := by decide +kernel
theorem dX6_upperOf_2 : decode cX6_upperOf 2 = .ok (.if_icmp .gt 7, 3) := by decide +kernel
theorem dX6_upperOf_5 : decode cX6_upperOf 5 = .ok (.iconst (-1), 1) := by decide +kernel
theorem dX6_upperOf_6 : decode cX6_upperOf 6 = .ok (.goto 10, 3) := by decide +kernel
theorem dX6_upperOf_9 : decode cX6_upperOf 9 = .ok (.iload_n 0, 1) := by decide +kernel
theorem dX6_upperOf_10 : decode cX6_upperOf 10 = .ok (.iconst 1, 1) := by decide +kernel
theorem dX6_upperOf_11 : decode cX6_upperOf 11 = .ok (.isub, 1) := by decide +kernel
theorem dX6_upperOf_12 : decode cX6_upperOf 12 = .ok (.iconst 4, 1) := by decide +kernel
theorem dX6_upperOf_13 : decode cX6_upperOf 13 = .ok (.isub, 1) := by decide +kernel
theorem dX6_upperOf_14 : decode cX6_upperOf 14 = .ok (.iconst 4, 1) := by decide +kernel
theorem dX6_upperOf_15 : decode cX6_upperOf 15 = .ok (.irem, 1) := by decide +kernel
theorem dX6_upperOf_16 : decode cX6_upperOf 16 = .ok (.ireturn, 1) := by decide +kernel
theorem dX6_topOf_0 : decode cX6_topOf 0 = .ok (.iload_n 0, 1) := by decide +kernel
theorem dX6_topOf_1 : decode cX6_topOf 1 = .ok (.invokestatic 166, 3) := by decide +kernel
theorem dX6_topOf_4 : decode cX6_topOf 4 = .ok (.istore_n 1, 1) := by decide +kernel
theorem dX6_topOf_5 : decode cX6_topOf 5 = .ok (.iload_n 1, 1) := by decide +kernel
theorem dX6_topOf_6 : decode cX6_topOf 6 = .ok (.iconst (-1), 1) := by decide +kernel
theorem dX6_topOf_7 : decode cX6_topOf 7 = .ok (.if_icmp .ne 10, 3) := by decide +kernel
theorem dX6_topOf_10 : decode cX6_topOf 10 = .ok (.iload_n 0, 1) := by decide +kernel
theorem dX6_topOf_11 : decode cX6_topOf 11 = .ok (.invokestatic 297, 3) := by decide +kernel
theorem dX6_topOf_14 : decode cX6_topOf 14 = .ok (.goto 4, 3) := by decide +kernel
theorem dX6_topOf_17 : decode cX6_topOf 17 = .ok (.iload_n 1, 1) := by decide +kernel
theorem dX6_topOf_18 : decode cX6_topOf 18 = .ok (.ireturn, 1) := by decide +kernel
theorem dX6_isLess_0 : decode cX6_isLess 0 = .ok (.lload_n 0, 1) := by decide +kernel
theorem dX6_isLess_1 : decode cX6_isLess 1 = .ok (.ldc2_w 300, 3) := by decide +kernel
theorem dX6_isLess_4 : decode cX6_isLess 4 = .ok (.lxor, 1) := by decide +kernel
theorem dX6_isLess_5 : decode cX6_isLess 5 = .ok (.lload_n 2, 1) := by decide +kernel
theorem dX6_isLess_6 : decode cX6_isLess 6 = .ok (.ldc2_w 300, 3) := by decide +kernel
theorem dX6_isLess_9 : decode cX6_isLess 9 = .ok (.lxor, 1) := by decide +kernel
theorem dX6_isLess_10 : decode cX6_isLess 10 = .ok (.lcmp, 1) := by decide +kernel
theorem dX6_isLess_11 : decode cX6_isLess 11 = .ok (.ifCond .ge 7, 3) := by decide +kernel
theorem dX6_isLess_14 : decode cX6_isLess 14 = .ok (.iconst 1, 1) := by decide +kernel
theorem dX6_isLess_15 : decode cX6_isLess 15 = .ok (.goto 4, 3) := by decide +kernel
theorem dX6_isLess_18 : decode cX6_isLess 18 = .ok (.iconst 0, 1) := by decide +kernel
theorem dX6_isLess_19 : decode cX6_isLess 19 = .ok (.ireturn, 1) := by decide +kernel
theorem dX6_isLess__0 : decode cX6_isLess_ 0 = .ok (.lload_n 0, 1) := by decide +kernel
theorem dX6_isLess__1 : decode cX6_isLess_ 1 = .ok (.lload_n 2, 1) := by decide +kernel
theorem dX6_isLess__2 : decode cX6_isLess_ 2 = .ok (.invokestatic 302, 3) := by decide +kernel
theorem dX6_isLess__5 : decode cX6_isLess_ 5 = .ok (.lstore 8, 2) := by decide +kernel
theorem dX6_isLess__7 : decode cX6_isLess_ 7 = .ok (.lload 4, 2) := by decide +kernel
theorem dX6_isLess__9 : decode cX6_isLess_ 9 = .ok (.lload 6, 2) := by decide +kernel
theorem dX6_isLess__11 : decode cX6_isLess_ 11 = .ok (.invokestatic 302, 3) := by decide +kernel
theorem dX6_isLess__14 : decode cX6_isLess_ 14 = .ok (.lstore 10, 2) := by decide +kernel
theorem dX6_isLess__16 : decode cX6_isLess_ 16 = .ok (.lload 8, 2) := by decide +kernel
theorem dX6_isLess__18 : decode cX6_isLess_ 18 = .ok (.lload 10, 2) := by decide +kernel
theorem dX6_isLess__20 : decode cX6_isLess_ 20 = .ok (.lcmp, 1) := by decide +kernel
theorem dX6_isLess__21 : decode cX6_isLess_ 21 = .ok (.ifCond .ne 17, 3) := by decide +kernel
theorem dX6_isLess__24 : decode cX6_isLess_ 24 = .ok (.lload_n 0, 1) := by decide +kernel
theorem dX6_isLess__25 : decode cX6_isLess_ 25 = .ok (.lload_n 2, 1) := by decide +kernel
theorem dX6_isLess__26 : decode cX6_isLess_ 26 = .ok (.lmul, 1) := by decide +kernel
theorem dX6_isLess__27 : decode cX6_isLess_ 27 = .ok (.lload 4, 2) := by decide +kernel
theorem dX6_isLess__29 : decode cX6_isLess_ 29 = .ok (.lload 6, 2) := by decide +kernel
theorem dX6_isLess__31 : decode cX6_isLess_ 31 = .ok (.lmul, 1) := by decide +kernel
theorem dX6_isLess__32 : decode cX6_isLess_ 32 = .ok (.invokestatic 287, 3) := by decide +kernel
theorem dX6_isLess__35 : decode cX6_isLess_ 35 = .ok (.goto 10, 3) := by decide +kernel
theorem dX6_isLess__38 : decode cX6_isLess_ 38 = .ok (.lload 8, 2) := by decide +kernel
theorem dX6_isLess__40 : decode cX6_isLess_ 40 = .ok (.lload 10, 2) := by decide +kernel
theorem dX6_isLess__42 : decode cX6_isLess_ 42 = .ok (.invokestatic 287, 3) := by decide +kernel
theorem dX6_isLess__45 : decode cX6_isLess_ 45 = .ok (.ireturn, 1) := by decide +kernel
theorem dX6_highBits_0 : decode cX6_highBits 0 = .ok (.ldc2_w 306, 3) := by decide +kernel
theorem dX6_highBits_3 : decode cX6_highBits 3 = .ok (.lstore 4, 2) := by decide +kernel
theorem dX6_highBits_5 : decode cX6_highBits 5 = .ok (.lload_n 0, 1) := by decide +kernel
theorem dX6_highBits_6 : decode cX6_highBits 6 = .ok (.bipush 32, 2) := by decide +kernel
theorem dX6_highBits_8 : decode cX6_highBits 8 = .ok (.lushr, 1) := by decide +kernel
theorem dX6_highBits_9 : decode cX6_highBits 9 = .ok (.lload_n 2, 1) := by decide +kernel
theorem dX6_highBits_10 : decode cX6_highBits 10 = .ok (.lload 4, 2) := by decide +kernel
theorem dX6_highBits_12 : decode cX6_highBits 12 = .ok (.land, 1) := by decide +kernel
theorem dX6_highBits_13 : decode cX6_highBits 13 = .ok (.lmul, 1) := by decide +kernel
theorem dX6_highBits_14 : decode cX6_highBits 14 = .ok (.lload_n 0, 1) := by decide +kernel
theorem dX6_highBits_15 : decode cX6_highBits 15 = .ok (.lload 4, 2) := by decide +kernel
theorem dX6_highBits_17 : decode cX6_highBits 17 = .ok (.land, 1) := by decide +kernel
theorem dX6_highBits_18 : decode cX6_highBits 18 = .ok (.lload_n 2, 1) := by decide +kernel
theorem dX6_highBits_19 : decode cX6_highBits 19 = .ok (.lload 4, 2) := by decide +kernel
theorem dX6_highBits_21 : decode cX6_highBits 21 = .ok (.land, 1) := by decide +kernel
theorem dX6_highBits_22 : decode cX6_highBits 22 = .ok (.lmul, 1) := by decide +kernel
theorem dX6_highBits_23 : decode cX6_highBits 23 = .ok (.bipush 32, 2) := by decide +kernel
theorem dX6_highBits_25 : decode cX6_highBits 25 = .ok (.lushr, 1) := by decide +kernel
theorem dX6_highBits_26 : decode cX6_highBits 26 = .ok (.ladd, 1) := by decide +kernel
theorem dX6_highBits_27 : decode cX6_highBits 27 = .ok (.lstore 6, 2) := by decide +kernel
theorem dX6_highBits_29 : decode cX6_highBits 29 = .ok (.lload_n 0, 1) := by decide +kernel
theorem dX6_highBits_30 : decode cX6_highBits 30 = .ok (.lload 4, 2) := by decide +kernel
theorem dX6_highBits_32 : decode cX6_highBits 32 = .ok (.land, 1) := by decide +kernel
theorem dX6_highBits_33 : decode cX6_highBits 33 = .ok (.lload_n 2, 1) := by decide +kernel
theorem dX6_highBits_34 : decode cX6_highBits 34 = .ok (.bipush 32, 2) := by decide +kernel
theorem dX6_highBits_36 : decode cX6_highBits 36 = .ok (.lushr, 1) := by decide +kernel
theorem dX6_highBits_37 : decode cX6_highBits 37 = .ok (.lmul, 1) := by decide +kernel
theorem dX6_highBits_38 : decode cX6_highBits 38 = .ok (.lload 6, 2) := by decide +kernel
theorem dX6_highBits_40 : decode cX6_highBits 40 = .ok (.lload 4, 2) := by decide +kernel
theorem dX6_highBits_42 : decode cX6_highBits 42 = .ok (.land, 1) := by decide +kernel
theorem dX6_highBits_43 : decode cX6_highBits 43 = .ok (.ladd, 1) := by decide +kernel
theorem dX6_highBits_44 : decode cX6_highBits 44 = .ok (.lstore 8, 2) := by decide +kernel
theorem dX6_highBits_46 : decode cX6_highBits 46 = .ok (.lload_n 0, 1) := by decide +kernel
theorem dX6_highBits_47 : decode cX6_highBits 47 = .ok (.bipush 32, 2) := by decide +kernel
theorem dX6_highBits_49 : decode cX6_highBits 49 = .ok (.lushr, 1) := by decide +kernel
theorem dX6_highBits_50 : decode cX6_highBits 50 = .ok (.lload_n 2, 1) := by decide +kernel
theorem dX6_highBits_51 : decode cX6_highBits 51 = .ok (.bipush 32, 2) := by decide +kernel
theorem dX6_highBits_53 : decode cX6_highBits 53 = .ok (.lushr, 1) := by decide +kernel
theorem dX6_highBits_54 : decode cX6_highBits 54 = .ok (.lmul, 1) := by decide +kernel
theorem dX6_highBits_55 : decode cX6_highBits 55 = .ok (.lload 6, 2) := by decide +kernel
theorem dX6_highBits_57 : decode cX6_highBits 57 = .ok (.bipush 32, 2) := by decide +kernel
theorem dX6_highBits_59 : decode cX6_highBits 59 = .ok (.lushr, 1) := by decide +kernel
theorem dX6_highBits_60 : decode cX6_highBits 60 = .ok (.ladd, 1) := by decide +kernel
theorem dX6_highBits_61 : decode cX6_highBits 61 = .ok (.lload 8, 2) := by decide +kernel
theorem dX6_highBits_63 : decode cX6_highBits 63 = .ok (.bipush 32, 2) := by decide +kernel
theorem dX6_highBits_65 : decode cX6_highBits 65 = .ok (.lushr, 1) := by decide +kernel
theorem dX6_highBits_66 : decode cX6_highBits 66 = .ok (.ladd, 1) := by decide +kernel
theorem dX6_highBits_67 : decode cX6_highBits 67 = .ok (.lreturn, 1) := by decide +kernel
theorem dX7_in_0 : decode cX7_in 0 = .ok (.lload_n 0, 1) := by decide +kernel
theorem dX7_in_1 : decode cX7_in 1 = .ok (.lload_n 2, 1) := by decide +kernel
theorem dX7_in_2 : decode cX7_in 2 = .ok (.lcmp, 1) := by decide +kernel
theorem dX7_in_3 : decode cX7_in 3 = .ok (.ifCond .lt 14, 3) := by decide +kernel
theorem dX7_in_6 : decode cX7_in 6 = .ok (.lload_n 0, 1) := by decide +kernel
theorem dX7_in_7 : decode cX7_in 7 = .ok (.lload 4, 2) := by decide +kernel
theorem dX7_in_9 : decode cX7_in 9 = .ok (.lcmp, 1) := by decide +kernel
theorem dX7_in_10 : decode cX7_in 10 = .ok (.ifCond .gt 7, 3) := by decide +kernel
theorem dX7_in_13 : decode cX7_in 13 = .ok (.iconst 1, 1) := by decide +kernel
theorem dX7_in_14 : decode cX7_in 14 = .ok (.goto 4, 3) := by decide +kernel
theorem dX7_in_17 : decode cX7_in 17 = .ok (.iconst 0, 1) := by decide +kernel
theorem dX7_in_18 : decode cX7_in 18 = .ok (.ireturn, 1) := by decide +kernel
theorem dX7_init_0 : decode cX7_init 0 = .ok (.aload_n 0, 1) := by decide +kernel
theorem dX7_init_1 : decode cX7_init 1 = .ok (.invokespecial 1, 3) := by decide +kernel
theorem dX7_init_4 : decode cX7_init 4 = .ok (.aload_n 0, 1) := by decide +kernel
theorem dX7_init_5 : decode cX7_init 5 = .ok (.sipush 210, 3) := by decide +kernel
theorem dX7_init_8 : decode cX7_init 8 = .ok (.newarray .int, 2) := by decide +kernel
theorem dX7_init_10 : decode cX7_init 10 = .ok (.putfield 7, 3) := by decide +kernel
theorem dX7_init_13 : decode cX7_init 13 = .ok (.aload_n 0, 1) := by decide +kernel
theorem dX7_init_14 : decode cX7_init 14 = .ok (.sipush 420, 3) := by decide +kernel
theorem dX7_init_17 : decode cX7_init 17 = .ok (.newarray .int, 2) := by decide +kernel
theorem dX7_init_19 : decode cX7_init 19 = .ok (.putfield 13, 3) := by decide +kernel
theorem dX7_init_22 : decode cX7_init 22 = .ok (.aload_n 0, 1) := by decide +kernel
theorem dX7_init_23 : decode cX7_init 23 = .ok (.iconst 2, 1) := by decide +kernel
theorem dX7_init_24 : decode cX7_init 24 = .ok (.newarray .boolean, 2) := by decide +kernel
theorem dX7_init_26 : decode cX7_init 26 = .ok (.putfield 16, 3) := by decide +kernel
theorem dX7_init_29 : decode cX7_init 29 = .ok (.aload_n 0, 1) := by decide +kernel
theorem dX7_init_30 : decode cX7_init 30 = .ok (.sipush 210, 3) := by decide +kernel
theorem dX7_init_33 : decode cX7_init 33 = .ok (.newarray .int, 2) := by decide +kernel
theorem dX7_init_35 : decode cX7_init 35 = .ok (.putfield 20, 3) := by decide +kernel
theorem dX7_init_38 : decode cX7_init 38 = .ok (.aload_n 0, 1) := by decide +kernel
theorem dX7_init_39 : decode cX7_init 39 = .ok (.iconst 3, 1) := by decide +kernel
theorem dX7_init_40 : decode cX7_init 40 = .ok (.newarray .int, 2) := by decide +kernel
theorem dX7_init_42 : decode cX7_init 42 = .ok (.putfield 23, 3) := by decide +kernel
theorem dX7_init_45 : decode cX7_init 45 = .ok (.aload_n 0, 1) := by decide +kernel
theorem dX7_init_46 : decode cX7_init 46 = .ok (.sipush 14400, 3) := by decide +kernel
theorem dX7_init_49 : decode cX7_init 49 = .ok (.newarray .int, 2) := by decide +kernel
theorem dX7_init_51 : decode cX7_init 51 = .ok (.putfield 26, 3) := by decide +kernel
theorem dX7_init_54 : decode cX7_init 54 = .ok (.aload_n 0, 1) := by decide +kernel
theorem dX7_init_55 : decode cX7_init 55 = .ok (.sipush 360, 3) := by decide +kernel
theorem dX7_init_58 : decode cX7_init 58 = .ok (.newarray .int, 2) := by decide +kernel
theorem dX7_init_60 : decode cX7_init 60 = .ok (.putfield 29, 3) := by decide +kernel
theorem dX7_init_63 : decode cX7_init 63 = .ok (.aload_n 0, 1) := by decide +kernel
theorem dX7_init_64 : decode cX7_init 64 = .ok (.sipush 300, 3) := by decide +kernel
theorem dX7_init_67 : decode cX7_init 67 = .ok (.newarray .int, 2) := by decide +kernel
theorem dX7_init_69 : decode cX7_init 69 = .ok (.putfield 32, 3) := by decide +kernel
theorem dX7_init_72 : decode cX7_init 72 = .ok (.aload_n 0, 1) := by decide +kernel
theorem dX7_init_73 : decode cX7_init 73 = .ok (.sipush 300, 3) := by decide +kernel
theorem dX7_init_76 : decode cX7_init 76 = .ok (.newarray .int, 2) := by decide +kernel
theorem dX7_init_78 : decode cX7_init 78 = .ok (.putfield 35, 3) := by decide +kernel
theorem dX7_init_81 : decode cX7_init 81 = .ok (.aload_n 0, 1) := by decide +kernel
theorem dX7_init_82 : decode cX7_init 82 = .ok (.sipush 1200, 3) := by decide +kernel
theorem dX7_init_85 : decode cX7_init 85 = .ok (.newarray .int, 2) := by decide +kernel
theorem dX7_init_87 : decode cX7_init 87 = .ok (.putfield 38, 3) := by decide +kernel
theorem dX7_init_90 : decode cX7_init 90 = .ok (.aload_n 0, 1) := by decide +kernel
theorem dX7_init_91 : decode cX7_init 91 = .ok (.sipush 168, 3) := by decide +kernel
theorem dX7_init_94 : decode cX7_init 94 = .ok (.newarray .int, 2) := by decide +kernel
theorem dX7_init_96 : decode cX7_init 96 = .ok (.putfield 41, 3) := by decide +kernel
theorem dX7_init_99 : decode cX7_init 99 = .ok (.aload_n 0, 1) := by decide +kernel
theorem dX7_init_100 : decode cX7_init 100 = .ok (.sipush 168, 3) := by decide +kernel
theorem dX7_init_103 : decode cX7_init 103 = .ok (.newarray .int, 2) := by decide +kernel
theorem dX7_init_105 : decode cX7_init 105 = .ok (.putfield 44, 3) := by decide +kernel
theorem dX7_init_108 : decode cX7_init 108 = .ok (.aload_n 0, 1) := by decide +kernel
theorem dX7_init_109 : decode cX7_init 109 = .ok (.bipush 8, 2) := by decide +kernel
theorem dX7_init_111 : decode cX7_init 111 = .ok (.newarray .int, 2) := by decide +kernel
theorem dX7_init_113 : decode cX7_init 113 = .ok (.putfield 47, 3) := by decide +kernel
theorem dX7_init_116 : decode cX7_init 116 = .ok (.aload_n 0, 1) := by decide +kernel
theorem dX7_init_117 : decode cX7_init 117 = .ok (.sipush 168, 3) := by decide +kernel
theorem dX7_init_120 : decode cX7_init 120 = .ok (.newarray .boolean, 2) := by decide +kernel
theorem dX7_init_122 : decode cX7_init 122 = .ok (.putfield 50, 3) := by decide +kernel
theorem dX7_init_125 : decode cX7_init 125 = .ok (.aload_n 0, 1) := by decide +kernel
theorem dX7_init_126 : decode cX7_init 126 = .ok (.invokevirtual 53, 3) := by decide +kernel
theorem dX7_init_129 : decode cX7_init 129 = .ok (.aload_n 0, 1) := by decide +kernel
theorem dX7_init_130 : decode cX7_init 130 = .ok (.iconst 1, 1) := by decide +kernel
theorem dX7_init_131 : decode cX7_init 131 = .ok (.lconst 1, 1) := by decide +kernel
theorem dX7_init_132 : decode cX7_init 132 = .ok (.invokevirtual 56, 3) := by decide +kernel
theorem dX7_init_135 : decode cX7_init 135 = .ok (.return_, 1) := by decide +kernel
theorem dX7_begins_0 : decode cX7_begins 0 = .ok (.aload_n 0, 1) := by decide +kernel
theorem dX7_begins_1 : decode cX7_begins 1 = .ok (.getfield 7, 3) := by decide +kernel
theorem dX7_begins_4 : decode cX7_begins 4 = .ok (.iconst 0, 1) := by decide +kernel
theorem dX7_begins_5 : decode cX7_begins 5 = .ok (.iconst 0, 1) := by decide +kernel
theorem dX7_begins_6 : decode cX7_begins 6 = .ok (.iastore, 1) := by decide +kernel
theorem dX7_begins_7 : decode cX7_begins 7 = .ok (.aload_n 0, 1) := by decide +kernel
theorem dX7_begins_8 : decode cX7_begins 8 = .ok (.getfield 7, 3) := by decide +kernel
theorem dX7_begins_11 : decode cX7_begins 11 = .ok (.iconst 1, 1) := by decide +kernel
theorem dX7_begins_12 : decode cX7_begins 12 = .ok (.iconst 0, 1) := by decide +kernel
theorem dX7_begins_13 : decode cX7_begins 13 = .ok (.iastore, 1) := by decide +kernel
theorem dX7_begins_14 : decode cX7_begins 14 = .ok (.iconst 0, 1) := by decide +kernel
theorem dX7_begins_15 : decode cX7_begins 15 = .ok (.istore_n 1, 1) := by decide +kernel
theorem dX7_begins_16 : decode cX7_begins 16 = .ok (.iload_n 1, 1) := by decide +kernel
theorem dX7_begins_17 : decode cX7_begins 17 = .ok (.iconst 4, 1) := by decide +kernel
theorem dX7_begins_18 : decode cX7_begins 18 = .ok (.if_icmp .ge 18, 3) := by decide +kernel
theorem dX7_begins_21 : decode cX7_begins 21 = .ok (.aload_n 0, 1) := by decide +kernel
theorem dX7_begins_22 : decode cX7_begins 22 = .ok (.getfield 7, 3) := by decide +kernel
theorem dX7_begins_25 : decode cX7_begins 25 = .ok (.iconst 2, 1) := by decide +kernel
theorem dX7_begins_26 : decode cX7_begins 26 = .ok (.iload_n 1, 1) := by decide +kernel
theorem dX7_begins_27 : decode cX7_begins 27 = .ok (.iadd, 1) := by decide +kernel
theorem dX7_begins_28 : decode cX7_begins 28 = .ok (.iconst 1, 1) := by decide +kernel
theorem dX7_begins_29 : decode cX7_begins 29 = .ok (.iastore, 1) := by decide +kernel
theorem dX7_begins_30 : decode cX7_begins 30 = .ok (.iinc 1 1, 3) := by decide +kernel
theorem dX7_begins_33 : decode cX7_begins 33 = .ok (.goto (-17), 3) := by decide +kernel
theorem dX7_begins_36 : decode cX7_begins 36 = .ok (.aload_n 0, 1) := by decide +kernel
theorem dX7_begins_37 : decode cX7_begins 37 = .ok (.getfield 7, 3) := by decide +kernel
theorem dX7_begins_40 : decode cX7_begins 40 = .ok (.bipush 6, 2) := by decide +kernel
theorem dX7_begins_42 : decode cX7_begins 42 = .ok (.bipush 10, 2) := by decide +kernel
theorem dX7_begins_44 : decode cX7_begins 44 = .ok (.iastore, 1) := by decide +kernel
theorem dX7_begins_45 : decode cX7_begins 45 = .ok (.aload_n 0, 1) := by decide +kernel
theorem dX7_begins_46 : decode cX7_begins 46 = .ok (.getfield 7, 3) := by decide +kernel
theorem dX7_begins_49 : decode cX7_begins 49 = .ok (.bipush 7, 2) := by decide +kernel
theorem dX7_begins_51 : decode cX7_begins 51 = .ok (.iconst 0, 1) := by decide +kernel
theorem dX7_begins_52 : decode cX7_begins 52 = .ok (.iastore, 1) := by decide +kernel
theorem dX7_begins_53 : decode cX7_begins 53 = .ok (.aload_n 0, 1) := by decide +kernel
theorem dX7_begins_54 : decode cX7_begins 54 = .ok (.getfield 7, 3) := by decide +kernel
theorem dX7_begins_57 : decode cX7_begins 57 = .ok (.bipush 8, 2) := by decide +kernel
theorem dX7_begins_59 : decode cX7_begins 59 = .ok (.iconst 3, 1) := by decide +kernel
theorem dX7_begins_60 : decode cX7_begins 60 = .ok (.iastore, 1) := by decide +kernel
theorem dX7_begins_61 : decode cX7_begins 61 = .ok (.iconst 0, 1) := by decide +kernel
theorem dX7_begins_62 : decode cX7_begins 62 = .ok (.istore_n 1, 1) := by decide +kernel
theorem dX7_begins_63 : decode cX7_begins 63 = .ok (.iload_n 1, 1) := by decide +kernel
theorem dX7_begins_64 : decode cX7_begins 64 = .ok (.bipush 21, 2) := by decide +kernel
theorem dX7_begins_66 : decode cX7_begins 66 = .ok (.if_icmp .ge 19, 3) := by decide +kernel
theorem dX7_begins_69 : decode cX7_begins 69 = .ok (.aload_n 0, 1) := by decide +kernel
theorem dX7_begins_70 : decode cX7_begins 70 = .ok (.getfield 7, 3) := by decide +kernel
theorem dX7_begins_73 : decode cX7_begins 73 = .ok (.bipush 10, 2) := by decide +kernel
theorem dX7_begins_75 : decode cX7_begins 75 = .ok (.iload_n 1, 1) := by decide +kernel
theorem dX7_begins_76 : decode cX7_begins 76 = .ok (.iadd, 1) := by decide +kernel
theorem dX7_begins_77 : decode cX7_begins 77 = .ok (.iconst 1, 1) := by decide +kernel
theorem dX7_begins_78 : decode cX7_begins 78 = .ok (.iastore, 1) := by decide +kernel
theorem dX7_begins_79 : decode cX7_begins 79 = .ok (.iinc 1 1, 3) := by decide +kernel
theorem dX7_begins_82 : decode cX7_begins 82 = .ok (.goto (-19), 3) := by decide +kernel
theorem dX7_begins_85 : decode cX7_begins 85 = .ok (.iconst 0, 1) := by decide +kernel
theorem dX7_begins_86 : decode cX7_begins 86 = .ok (.istore_n 1, 1) := by decide +kernel
theorem dX7_begins_87 : decode cX7_begins 87 = .ok (.iload_n 1, 1) := by decide +kernel
theorem dX7_begins_88 : decode cX7_begins 88 = .ok (.bipush 48, 2) := by decide +kernel
theorem dX7_begins_90 : decode cX7_begins 90 = .ok (.if_icmp .ge 20, 3) := by decide +kernel
theorem dX7_begins_93 : decode cX7_begins 93 = .ok (.aload_n 0, 1) := by decide +kernel
theorem dX7_begins_94 : decode cX7_begins 94 = .ok (.getfield 7, 3) := by decide +kernel
theorem dX7_begins_97 : decode cX7_begins 97 = .ok (.sipush 150, 3) := by decide +kernel
theorem dX7_begins_100 : decode cX7_begins 100 = .ok (.iload_n 1, 1) := by decide +kernel
theorem dX7_begins_101 : decode cX7_begins 101 = .ok (.iadd, 1) := by decide +kernel
theorem dX7_begins_102 : decode cX7_begins 102 = .ok (.iconst (-1), 1) := by decide +kernel
theorem dX7_begins_103 : decode cX7_begins 103 = .ok (.iastore, 1) := by decide +kernel
theorem dX7_begins_104 : decode cX7_begins 104 = .ok (.iinc 1 1, 3) := by decide +kernel
theorem dX7_begins_107 : decode cX7_begins 107 = .ok (.goto (-20), 3) := by decide +kernel
theorem dX7_begins_110 : decode cX7_begins 110 = .ok (.return_, 1) := by decide +kernel
theorem dX7_refuses_0 : decode cX7_refuses 0 = .ok (.aload_n 0, 1) := by decide +kernel
theorem dX7_refuses_1 : decode cX7_refuses 1 = .ok (.getfield 23, 3) := by decide +kernel
theorem dX7_refuses_4 : decode cX7_refuses 4 = .ok (.iload_n 1, 1) := by decide +kernel
theorem dX7_refuses_5 : decode cX7_refuses 5 = .ok (.dup2, 1) := by decide +kernel
theorem dX7_refuses_6 : decode cX7_refuses 6 = .ok (.iaload, 1) := by decide +kernel
theorem dX7_refuses_7 : decode cX7_refuses 7 = .ok (.aload_n 0, 1) := by decide +kernel
theorem dX7_refuses_8 : decode cX7_refuses 8 = .ok (.getfield 60, 3) := by decide +kernel
theorem dX7_refuses_11 : decode cX7_refuses 11 = .ok (.ifCond .eq 7, 3) := by decide +kernel
theorem dX7_refuses_14 : decode cX7_refuses 14 = .ok (.iconst 0, 1) := by decide +kernel
theorem dX7_refuses_15 : decode cX7_refuses 15 = .ok (.goto 4, 3) := by decide +kernel
theorem dX7_refuses_18 : decode cX7_refuses 18 = .ok (.iconst 1, 1) := by decide +kernel
theorem dX7_refuses_19 : decode cX7_refuses 19 = .ok (.iadd, 1) := by decide +kernel
theorem dX7_refuses_20 : decode cX7_refuses 20 = .ok (.iastore, 1) := by decide +kernel
theorem dX7_refuses_21 : decode cX7_refuses 21 = .ok (.iload_n 2, 1) := by decide +kernel
theorem dX7_refuses_22 : decode cX7_refuses 22 = .ok (.ireturn, 1) := by decide +kernel
theorem dX7_bad_0 : decode cX7_bad 0 = .ok (.aload_n 0, 1) := by decide +kernel
theorem dX7_bad_1 : decode cX7_bad 1 = .ok (.iconst 0, 1) := by decide +kernel
theorem dX7_bad_2 : decode cX7_bad 2 = .ok (.bipush (-2), 2) := by decide +kernel
theorem dX7_bad_4 : decode cX7_bad 4 = .ok (.invokevirtual 64, 3) := by decide +kernel
theorem dX7_bad_7 : decode cX7_bad 7 = .ok (.ireturn, 1) := by decide +kernel
theorem dX7_no_0 : decode cX7_no 0 = .ok (.aload_n 0, 1) := by decide +kernel
theorem dX7_no_1 : decode cX7_no 1 = .ok (.iconst 1, 1) := by decide +kernel
theorem dX7_no_2 : decode cX7_no 2 = .ok (.bipush (-3), 2) := by decide +kernel
theorem dX7_no_4 : decode cX7_no 4 = .ok (.invokevirtual 64, 3) := by decide +kernel
theorem dX7_no_7 : decode cX7_no 7 = .ok (.ireturn, 1) := by decide +kernel
theorem dX7_full_0 : decode cX7_full 0 = .ok (.aload_n 0, 1) := by decide +kernel
theorem dX7_full_1 : decode cX7_full 1 = .ok (.iconst 2, 1) := by decide +kernel
theorem dX7_full_2 : decode cX7_full 2 = .ok (.bipush (-4), 2) := by decide +kernel
theorem dX7_full_4 : decode cX7_full 4 = .ok (.invokevirtual 64, 3) := by decide +kernel
theorem dX7_full_7 : decode cX7_full 7 = .ok (.ireturn, 1) := by decide +kernel
theorem dX7_trims_0 : decode cX7_trims 0 = .ok (.aload_n 0, 1) := by decide +kernel
theorem dX7_trims_1 : decode cX7_trims 1 = .ok (.getfield 29, 3) := by decide +kernel
theorem dX7_trims_4 : decode cX7_trims 4 = .ok (.iload_n 1, 1) := by decide +kernel
theorem dX7_trims_5 : decode cX7_trims 5 = .ok (.iaload, 1) := by decide +kernel
theorem dX7_trims_6 : decode cX7_trims 6 = .ok (.ifCond .le 37, 3) := by decide +kernel
theorem dX7_trims_9 : decode cX7_trims 9 = .ok (.aload_n 0, 1) := by decide +kernel
theorem dX7_trims_10 : decode cX7_trims 10 = .ok (.getfield 26, 3) := by decide +kernel
theorem dX7_trims_13 : decode cX7_trims 13 = .ok (.bipush 40, 2) := by decide +kernel
theorem dX7_trims_15 : decode cX7_trims 15 = .ok (.iload_n 1, 1) := by decide +kernel
theorem dX7_trims_16 : decode cX7_trims 16 = .ok (.imul, 1) := by decide +kernel
theorem dX7_trims_17 : decode cX7_trims 17 = .ok (.aload_n 0, 1) := by decide +kernel
theorem dX7_trims_18 : decode cX7_trims 18 = .ok (.getfield 29, 3) := by decide +kernel
theorem dX7_trims_21 : decode cX7_trims 21 = .ok (.iload_n 1, 1) := by decide +kernel
theorem dX7_trims_22 : decode cX7_trims 22 = .ok (.iaload, 1) := by decide +kernel
theorem dX7_trims_23 : decode cX7_trims 23 = .ok (.iadd, 1) := by decide +kernel
theorem dX7_trims_24 : decode cX7_trims 24 = .ok (.iconst 1, 1) := by decide +kernel
theorem dX7_trims_25 : decode cX7_trims 25 = .ok (.isub, 1) := by decide +kernel
theorem dX7_trims_26 : decode cX7_trims 26 = .ok (.iaload, 1) := by decide +kernel
theorem dX7_trims_27 : decode cX7_trims 27 = .ok (.ifCond .ne 16, 3) := by decide +kernel
theorem dX7_trims_30 : decode cX7_trims 30 = .ok (.aload_n 0, 1) := by decide +kernel
theorem dX7_trims_31 : decode cX7_trims 31 = .ok (.getfield 29, 3) := by decide +kernel
theorem dX7_trims_34 : decode cX7_trims 34 = .ok (.iload_n 1, 1) := by decide +kernel
theorem dX7_trims_35 : decode cX7_trims 35 = .ok (.dup2, 1) := by decide +kernel
theorem dX7_trims_36 : decode cX7_trims 36 = .ok (.iaload, 1) := by decide +kernel
theorem dX7_trims_37 : decode cX7_trims 37 = .ok (.iconst 1, 1) := by decide +kernel
theorem dX7_trims_38 : decode cX7_trims 38 = .ok (.isub, 1) := by decide +kernel
theorem dX7_trims_39 : decode cX7_trims 39 = .ok (.iastore, 1) := by decide +kernel
theorem dX7_trims_40 : decode cX7_trims 40 = .ok (.goto (-40), 3) := by decide +kernel
theorem dX7_trims_43 : decode cX7_trims 43 = .ok (.return_, 1) := by decide +kernel
theorem dX7_sets_0 : decode cX7_sets 0 = .ok (.iconst 0, 1) := by decide +kernel
theorem dX7_sets_1 : decode cX7_sets 1 = .ok (.istore 4, 2) := by decide +kernel
theorem dX7_sets_3 : decode cX7_sets 3 = .ok (.iload 4, 2) := by decide +kernel
theorem dX7_sets_5 : decode cX7_sets 5 = .ok (.bipush 40, 2) := by decide +kernel
theorem dX7_sets_7 : decode cX7_sets 7 = .ok (.if_icmp .ge 43, 3) := by decide +kernel
theorem dX7_sets_10 : decode cX7_sets 10 = .ok (.aload_n 0, 1) := by decide +kernel
theorem dX7_sets_11 : decode cX7_sets 11 = .ok (.getfield 26, 3) := by decide +kernel
theorem dX7_sets_14 : decode cX7_sets 14 = .ok (.bipush 40, 2) := by decide +kernel
theorem dX7_sets_16 : decode cX7_sets 16 = .ok (.iload_n 1, 1) := by decide +kernel
theorem dX7_sets_17 : decode cX7_sets 17 = .ok (.imul, 1) := by decide +kernel
theorem dX7_sets_18 : decode cX7_sets 18 = .ok (.iload 4, 2) := by decide +kernel
theorem dX7_sets_20 : decode cX7_sets 20 = .ok (.iadd, 1) := by decide +kernel
theorem dX7_sets_21 : decode cX7_sets 21 = .ok (.iload 4, 2) := by decide +kernel
theorem dX7_sets_23 : decode cX7_sets 23 = .ok (.iconst 3, 1) := by decide +kernel
theorem dX7_sets_24 : decode cX7_sets 24 = .ok (.if_icmp .ge 18, 3) := by decide +kernel
theorem dX7_sets_27 : decode cX7_sets 27 = .ok (.lload_n 2, 1) := by decide +kernel
theorem dX7_sets_28 : decode cX7_sets 28 = .ok (.bipush 30, 2) := by decide +kernel
theorem dX7_sets_30 : decode cX7_sets 30 = .ok (.iload 4, 2) := by decide +kernel
theorem dX7_sets_32 : decode cX7_sets 32 = .ok (.imul, 1) := by decide +kernel
theorem dX7_sets_33 : decode cX7_sets 33 = .ok (.lshr, 1) := by decide +kernel
theorem dX7_sets_34 : decode cX7_sets 34 = .ok (.ldc2_w 68, 3) := by decide +kernel
theorem dX7_sets_37 : decode cX7_sets 37 = .ok (.land, 1) := by decide +kernel
theorem dX7_sets_38 : decode cX7_sets 38 = .ok (.l2i, 1) := by decide +kernel
theorem dX7_sets_39 : decode cX7_sets 39 = .ok (.goto 4, 3) := by decide +kernel
theorem dX7_sets_42 : decode cX7_sets 42 = .ok (.iconst 0, 1) := by decide +kernel
theorem dX7_sets_43 : decode cX7_sets 43 = .ok (.iastore, 1) := by decide +kernel
theorem dX7_sets_44 : decode cX7_sets 44 = .ok (.iinc 4 1, 3) := by decide +kernel
theorem dX7_sets_47 : decode cX7_sets 47 = .ok (.goto (-44), 3) := by decide +kernel
theorem dX7_sets_50 : decode cX7_sets 50 = .ok (.aload_n 0, 1) := by decide +kernel
theorem dX7_sets_51 : decode cX7_sets 51 = .ok (.getfield 29, 3) := by decide +kernel
theorem dX7_sets_54 : decode cX7_sets 54 = .ok (.iload_n 1, 1) := by decide +kernel
theorem dX7_sets_55 : decode cX7_sets 55 = .ok (.iconst 3, 1) := by decide +kernel
theorem dX7_sets_56 : decode cX7_sets 56 = .ok (.iastore, 1) := by decide +kernel
theorem dX7_sets_57 : decode cX7_sets 57 = .ok (.aload_n 0, 1) := by decide +kernel
theorem dX7_sets_58 : decode cX7_sets 58 = .ok (.iload_n 1, 1) := by decide +kernel
theorem dX7_sets_59 : decode cX7_sets 59 = .ok (.invokevirtual 70, 3) := by decide +kernel
theorem dX7_sets_62 : decode cX7_sets 62 = .ok (.return_, 1) := by decide +kernel
theorem dX7_copies_0 : decode cX7_copies 0 = .ok (.iconst 0, 1) := by decide +kernel
theorem dX7_copies_1 : decode cX7_copies 1 = .ok (.istore_n 3, 1) := by decide +kernel
theorem dX7_copies_2 : decode cX7_copies 2 = .ok (.iload_n 3, 1) := by decide +kernel
theorem dX7_copies_3 : decode cX7_copies 3 = .ok (.bipush 40, 2) := by decide +kernel
theorem dX7_copies_5 : decode cX7_copies 5 = .ok (.if_icmp .ge 31, 3) := by decide +kernel
theorem dX7_copies_8 : decode cX7_copies 8 = .ok (.aload_n 0, 1) := by decide +kernel
theorem dX7_copies_9 : decode cX7_copies 9 = .ok (.getfield 26, 3) := by decide +kernel
theorem dX7_copies_12 : decode cX7_copies 12 = .ok (.bipush 40, 2) := by decide +kernel
theorem dX7_copies_14 : decode cX7_copies 14 = .ok (.iload_n 1, 1) := by decide +kernel
theorem dX7_copies_15 : decode cX7_copies 15 = .ok (.imul, 1) := by decide +kernel
theorem dX7_copies_16 : decode cX7_copies 16 = .ok (.iload_n 3, 1) := by decide +kernel
theorem dX7_copies_17 : decode cX7_copies 17 = .ok (.iadd, 1) := by decide +kernel
theorem dX7_copies_18 : decode cX7_copies 18 = .ok (.aload_n 0, 1) := by decide +kernel
theorem dX7_copies_19 : decode cX7_copies 19 = .ok (.getfield 26, 3) := by decide +kernel
theorem dX7_copies_22 : decode cX7_copies 22 = .ok (.bipush 40, 2) := by decide +kernel
theorem dX7_copies_24 : decode cX7_copies 24 = .ok (.iload_n 2, 1) := by decide +kernel
theorem dX7_copies_25 : decode cX7_copies 25 = .ok (.imul, 1) := by decide +kernel
theorem dX7_copies_26 : decode cX7_copies 26 = .ok (.iload_n 3, 1) := by decide +kernel
theorem dX7_copies_27 : decode cX7_copies 27 = .ok (.iadd, 1) := by decide +kernel
theorem dX7_copies_28 : decode cX7_copies 28 = .ok (.iaload, 1) := by decide +kernel
theorem dX7_copies_29 : decode cX7_copies 29 = .ok (.iastore, 1) := by decide +kernel
theorem dX7_copies_30 : decode cX7_copies 30 = .ok (.iinc 3 1, 3) := by decide +kernel
theorem dX7_copies_33 : decode cX7_copies 33 = .ok (.goto (-31), 3) := by decide +kernel
theorem dX7_copies_36 : decode cX7_copies 36 = .ok (.aload_n 0, 1) := by decide +kernel
theorem dX7_copies_37 : decode cX7_copies 37 = .ok (.getfield 29, 3) := by decide +kernel
theorem dX7_copies_40 : decode cX7_copies 40 = .ok (.iload_n 1, 1) := by decide +kernel
theorem dX7_copies_41 : decode cX7_copies 41 = .ok (.aload_n 0, 1) := by decide +kernel
theorem dX7_copies_42 : decode cX7_copies 42 = .ok (.getfield 29, 3) := by decide +kernel
theorem dX7_copies_45 : decode cX7_copies 45 = .ok (.iload_n 2, 1) := by decide +kernel
theorem dX7_copies_46 : decode cX7_copies 46 = .ok (.iaload, 1) := by decide +kernel
theorem dX7_copies_47 : decode cX7_copies 47 = .ok (.iastore, 1) := by decide +kernel
theorem dX7_copies_48 : decode cX7_copies 48 = .ok (.return_, 1) := by decide +kernel
theorem dX7_times_0 : decode cX7_times 0 = .ok (.lconst 0, 1) := by decide +kernel
theorem dX7_times_1 : decode cX7_times 1 = .ok (.lstore_n 3, 1) := by decide +kernel
theorem dX7_times_2 : decode cX7_times 2 = .ok (.iconst 0, 1) := by decide +kernel
theorem dX7_times_3 : decode cX7_times 3 = .ok (.istore 5, 2) := by decide +kernel
theorem dX7_times_5 : decode cX7_times 5 = .ok (.iload 5, 2) := by decide +kernel
theorem dX7_times_7 : decode cX7_times 7 = .ok (.aload_n 0, 1) := by decide +kernel
theorem dX7_times_8 : decode cX7_times 8 = .ok (.getfield 29, 3) := by decide +kernel
theorem dX7_times_11 : decode cX7_times 11 = .ok (.iload_n 1, 1) := by decide +kernel
theorem dX7_times_12 : decode cX7_times 12 = .ok (.iaload, 1) := by decide +kernel
theorem dX7_times_13 : decode cX7_times 13 = .ok (.if_icmp .ge 54, 3) := by decide +kernel
theorem dX7_times_16 : decode cX7_times 16 = .ok (.aload_n 0, 1) := by decide +kernel
theorem dX7_times_17 : decode cX7_times 17 = .ok (.getfield 26, 3) := by decide +kernel
theorem dX7_times_20 : decode cX7_times 20 = .ok (.bipush 40, 2) := by decide +kernel
theorem dX7_times_22 : decode cX7_times 22 = .ok (.iload_n 1, 1) := by decide +kernel
theorem dX7_times_23 : decode cX7_times 23 = .ok (.imul, 1) := by decide +kernel
theorem dX7_times_24 : decode cX7_times 24 = .ok (.iload 5, 2) := by decide +kernel
theorem dX7_times_26 : decode cX7_times 26 = .ok (.iadd, 1) := by decide +kernel
theorem dX7_times_27 : decode cX7_times 27 = .ok (.iaload, 1) := by decide +kernel
theorem dX7_times_28 : decode cX7_times 28 = .ok (.i2l, 1) := by decide +kernel
theorem dX7_times_29 : decode cX7_times 29 = .ok (.iload_n 2, 1) := by decide +kernel
theorem dX7_times_30 : decode cX7_times 30 = .ok (.i2l, 1) := by decide +kernel
theorem dX7_times_31 : decode cX7_times 31 = .ok (.lmul, 1) := by decide +kernel
theorem dX7_times_32 : decode cX7_times 32 = .ok (.lload_n 3, 1) := by decide +kernel
theorem dX7_times_33 : decode cX7_times 33 = .ok (.ladd, 1) := by decide +kernel
theorem dX7_times_34 : decode cX7_times 34 = .ok (.lstore 6, 2) := by decide +kernel
theorem dX7_times_36 : decode cX7_times 36 = .ok (.aload_n 0, 1) := by decide +kernel
theorem dX7_times_37 : decode cX7_times 37 = .ok (.getfield 26, 3) := by decide +kernel
theorem dX7_times_40 : decode cX7_times 40 = .ok (.bipush 40, 2) := by decide +kernel
theorem dX7_times_42 : decode cX7_times 42 = .ok (.iload_n 1, 1) := by decide +kernel
theorem dX7_times_43 : decode cX7_times 43 = .ok (.imul, 1) := by decide +kernel
theorem dX7_times_44 : decode cX7_times 44 = .ok (.iload 5, 2) := by decide +kernel
theorem dX7_times_46 : decode cX7_times 46 = .ok (.iadd, 1) := by decide +kernel
theorem dX7_times_47 : decode cX7_times 47 = .ok (.lload 6, 2) := by decide +kernel
theorem dX7_times_49 : decode cX7_times 49 = .ok (.ldc2_w 68, 3) := by decide +kernel
theorem dX7_times_52 : decode cX7_times 52 = .ok (.land, 1) := by decide +kernel
theorem dX7_times_53 : decode cX7_times 53 = .ok (.l2i, 1) := by decide +kernel
theorem dX7_times_54 : decode cX7_times 54 = .ok (.iastore, 1) := by decide +kernel
theorem dX7_times_55 : decode cX7_times 55 = .ok (.lload 6, 2) := by decide +kernel
theorem dX7_times_57 : decode cX7_times 57 = .ok (.bipush 30, 2) := by decide +kernel
theorem dX7_times_59 : decode cX7_times 59 = .ok (.lshr, 1) := by decide +kernel
theorem dX7_times_60 : decode cX7_times 60 = .ok (.lstore_n 3, 1) := by decide +kernel
theorem dX7_times_61 : decode cX7_times 61 = .ok (.iinc 5 1, 3) := by decide +kernel
theorem dX7_times_64 : decode cX7_times 64 = .ok (.goto (-59), 3) := by decide +kernel
theorem dX7_times_67 : decode cX7_times 67 = .ok (.lload_n 3, 1) := by decide +kernel
theorem dX7_times_68 : decode cX7_times 68 = .ok (.lconst 0, 1) := by decide +kernel
theorem dX7_times_69 : decode cX7_times 69 = .ok (.lcmp, 1) := by decide +kernel
theorem dX7_times_70 : decode cX7_times 70 = .ok (.ifCond .le 31, 3) := by decide +kernel
theorem dX7_times_73 : decode cX7_times 73 = .ok (.aload_n 0, 1) := by decide +kernel
theorem dX7_times_74 : decode cX7_times 74 = .ok (.getfield 26, 3) := by decide +kernel
theorem dX7_times_77 : decode cX7_times 77 = .ok (.bipush 40, 2) := by decide +kernel
theorem dX7_times_79 : decode cX7_times 79 = .ok (.iload_n 1, 1) := by decide +kernel
theorem dX7_times_80 : decode cX7_times 80 = .ok (.imul, 1) := by decide +kernel
theorem dX7_times_81 : decode cX7_times 81 = .ok (.aload_n 0, 1) := by decide +kernel
theorem dX7_times_82 : decode cX7_times 82 = .ok (.getfield 29, 3) := by decide +kernel
theorem dX7_times_85 : decode cX7_times 85 = .ok (.iload_n 1, 1) := by decide +kernel
theorem dX7_times_86 : decode cX7_times 86 = .ok (.iaload, 1) := by decide +kernel
theorem dX7_times_87 : decode cX7_times 87 = .ok (.iadd, 1) := by decide +kernel
theorem dX7_times_88 : decode cX7_times 88 = .ok (.lload_n 3, 1) := by decide +kernel
theorem dX7_times_89 : decode cX7_times 89 = .ok (.l2i, 1) := by decide +kernel
theorem dX7_times_90 : decode cX7_times 90 = .ok (.iastore, 1) := by decide +kernel
theorem dX7_times_91 : decode cX7_times 91 = .ok (.aload_n 0, 1) := by decide +kernel
theorem dX7_times_92 : decode cX7_times 92 = .ok (.getfield 29, 3) := by decide +kernel
theorem dX7_times_95 : decode cX7_times 95 = .ok (.iload_n 1, 1) := by decide +kernel
theorem dX7_times_96 : decode cX7_times 96 = .ok (.dup2, 1) := by decide +kernel
theorem dX7_times_97 : decode cX7_times 97 = .ok (.iaload, 1) := by decide +kernel
theorem dX7_times_98 : decode cX7_times 98 = .ok (.iconst 1, 1) := by decide +kernel
theorem dX7_times_99 : decode cX7_times 99 = .ok (.iadd, 1) := by decide +kernel
theorem dX7_times_100 : decode cX7_times 100 = .ok (.iastore, 1) := by decide +kernel
theorem dX7_times_101 : decode cX7_times 101 = .ok (.aload_n 0, 1) := by decide +kernel
theorem dX7_times_102 : decode cX7_times 102 = .ok (.iload_n 1, 1) := by decide +kernel
theorem dX7_times_103 : decode cX7_times 103 = .ok (.invokevirtual 70, 3) := by decide +kernel
theorem dX7_times_106 : decode cX7_times 106 = .ok (.return_, 1) := by decide +kernel
theorem dX7_multiplies_0 : decode cX7_multiplies 0 = .ok (.aload_n 0, 1) := by decide +kernel
theorem dX7_multiplies_1 : decode cX7_multiplies 1 = .ok (.iconst 4, 1) := by decide +kernel
theorem dX7_multiplies_2 : decode cX7_multiplies 2 = .ok (.lconst 0, 1) := by decide +kernel
theorem dX7_multiplies_3 : decode cX7_multiplies 3 = .ok (.invokevirtual 56, 3) := by decide +kernel
theorem dX7_multiplies_6 : decode cX7_multiplies 6 = .ok (.iconst 0, 1) := by decide +kernel
theorem dX7_multiplies_7 : decode cX7_multiplies 7 = .ok (.istore_n 3, 1) := by decide +kernel
theorem dX7_multiplies_8 : decode cX7_multiplies 8 = .ok (.iload_n 3, 1) := by decide +kernel
theorem dX7_multiplies_9 : decode cX7_multiplies 9 = .ok (.aload_n 0, 1) := by decide +kernel
theorem dX7_multiplies_10 : decode cX7_multiplies 10 = .ok (.getfield 29, 3) := by decide +kernel
theorem dX7_multiplies_13 : decode cX7_multiplies 13 = .ok (.iload_n 1, 1) := by decide +kernel
theorem dX7_multiplies_14 : decode cX7_multiplies 14 = .ok (.iaload, 1) := by decide +kernel
theorem dX7_multiplies_15 : decode cX7_multiplies 15 = .ok (.if_icmp .ge 131, 3) := by decide +kernel
theorem dX7_multiplies_18 : decode cX7_multiplies 18 = .ok (.lconst 0, 1) := by decide +kernel
theorem dX7_multiplies_19 : decode cX7_multiplies 19 = .ok (.lstore 4, 2) := by decide +kernel
theorem dX7_multiplies_21 : decode cX7_multiplies 21 = .ok (.iconst 0, 1) := by decide +kernel
theorem dX7_multiplies_22 : decode cX7_multiplies 22 = .ok (.istore 6, 2) := by decide +kernel
theorem dX7_multiplies_24 : decode cX7_multiplies 24 = .ok (.iload 6, 2) := by decide +kernel
theorem dX7_multiplies_26 : decode cX7_multiplies 26 = .ok (.aload_n 0, 1) := by decide +kernel
theorem dX7_multiplies_27 : decode cX7_multiplies 27 = .ok (.getfield 29, 3) := by decide +kernel
theorem dX7_multiplies_30 : decode cX7_multiplies 30 = .ok (.iload_n 2, 1) := by decide +kernel
theorem dX7_multiplies_31 : decode cX7_multiplies 31 = .ok (.iaload, 1) := by decide +kernel
theorem dX7_multiplies_32 : decode cX7_multiplies 32 = .ok (.if_icmp .lt 10, 3) := by decide +kernel
theorem dX7_multiplies_35 : decode cX7_multiplies 35 = .ok (.lload 4, 2) := by decide +kernel
theorem dX7_multiplies_37 : decode cX7_multiplies 37 = .ok (.lconst 0, 1) := by decide +kernel
theorem dX7_multiplies_38 : decode cX7_multiplies 38 = .ok (.lcmp, 1) := by decide +kernel
theorem dX7_multiplies_39 : decode cX7_multiplies 39 = .ok (.ifCond .le 101, 3) := by decide +kernel
theorem dX7_multiplies_42 : decode cX7_multiplies 42 = .ok (.iload 6, 2) := by decide +kernel
theorem dX7_multiplies_44 : decode cX7_multiplies 44 = .ok (.aload_n 0, 1) := by decide +kernel
theorem dX7_multiplies_45 : decode cX7_multiplies 45 = .ok (.getfield 29, 3) := by decide +kernel
theorem dX7_multiplies_48 : decode cX7_multiplies 48 = .ok (.iload_n 2, 1) := by decide +kernel
theorem dX7_multiplies_49 : decode cX7_multiplies 49 = .ok (.iaload, 1) := by decide +kernel
theorem dX7_multiplies_50 : decode cX7_multiplies 50 = .ok (.if_icmp .ge 32, 3) := by decide +kernel
theorem dX7_multiplies_53 : decode cX7_multiplies 53 = .ok (.aload_n 0, 1) := by decide +kernel
theorem dX7_multiplies_54 : decode cX7_multiplies 54 = .ok (.getfield 26, 3) := by decide +kernel
theorem dX7_multiplies_57 : decode cX7_multiplies 57 = .ok (.bipush 40, 2) := by decide +kernel
theorem dX7_multiplies_59 : decode cX7_multiplies 59 = .ok (.iload_n 1, 1) := by decide +kernel
theorem dX7_multiplies_60 : decode cX7_multiplies 60 = .ok (.imul, 1) := by decide +kernel
theorem dX7_multiplies_61 : decode cX7_multiplies 61 = .ok (.iload_n 3, 1) := by decide +kernel
theorem dX7_multiplies_62 : decode cX7_multiplies 62 = .ok (.iadd, 1) := by decide +kernel
theorem dX7_multiplies_63 : decode cX7_multiplies 63 = .ok (.iaload, 1) := by decide +kernel
theorem dX7_multiplies_64 : decode cX7_multiplies 64 = .ok (.i2l, 1) := by decide +kernel
theorem dX7_multiplies_65 : decode cX7_multiplies 65 = .ok (.aload_n 0, 1) := by decide +kernel
theorem dX7_multiplies_66 : decode cX7_multiplies 66 = .ok (.getfield 26, 3) := by decide +kernel
theorem dX7_multiplies_69 : decode cX7_multiplies 69 = .ok (.bipush 40, 2) := by decide +kernel
theorem dX7_multiplies_71 : decode cX7_multiplies 71 = .ok (.iload_n 2, 1) := by decide +kernel
theorem dX7_multiplies_72 : decode cX7_multiplies 72 = .ok (.imul, 1) := by decide +kernel
theorem dX7_multiplies_73 : decode cX7_multiplies 73 = .ok (.iload 6, 2) := by decide +kernel
theorem dX7_multiplies_75 : decode cX7_multiplies 75 = .ok (.iadd, 1) := by decide +kernel
theorem dX7_multiplies_76 : decode cX7_multiplies 76 = .ok (.iaload, 1) := by decide +kernel
theorem dX7_multiplies_77 : decode cX7_multiplies 77 = .ok (.i2l, 1) := by decide +kernel
theorem dX7_multiplies_78 : decode cX7_multiplies 78 = .ok (.lmul, 1) := by decide +kernel
theorem dX7_multiplies_79 : decode cX7_multiplies 79 = .ok (.goto 4, 3) := by decide +kernel
theorem dX7_multiplies_82 : decode cX7_multiplies 82 = .ok (.lconst 0, 1) := by decide +kernel
theorem dX7_multiplies_83 : decode cX7_multiplies 83 = .ok (.lstore 7, 2) := by decide +kernel
theorem dX7_multiplies_85 : decode cX7_multiplies 85 = .ok (.aload_n 0, 1) := by decide +kernel
theorem dX7_multiplies_86 : decode cX7_multiplies 86 = .ok (.getfield 26, 3) := by decide +kernel
theorem dX7_multiplies_89 : decode cX7_multiplies 89 = .ok (.sipush 160, 3) := by decide +kernel
theorem dX7_multiplies_92 : decode cX7_multiplies 92 = .ok (.iload_n 3, 1) := by decide +kernel
theorem dX7_multiplies_93 : decode cX7_multiplies 93 = .ok (.iadd, 1) := by decide +kernel
theorem dX7_multiplies_94 : decode cX7_multiplies 94 = .ok (.iload 6, 2) := by decide +kernel
theorem dX7_multiplies_96 : decode cX7_multiplies 96 = .ok (.iadd, 1) := by decide +kernel
theorem dX7_multiplies_97 : decode cX7_multiplies 97 = .ok (.iaload, 1) := by decide +kernel
theorem dX7_multiplies_98 : decode cX7_multiplies 98 = .ok (.i2l, 1) := by decide +kernel
theorem dX7_multiplies_99 : decode cX7_multiplies 99 = .ok (.lload 7, 2) := by decide +kernel
theorem dX7_multiplies_101 : decode cX7_multiplies 101 = .ok (.ladd, 1) := by decide +kernel
theorem dX7_multiplies_102 : decode cX7_multiplies 102 = .ok (.lload 4, 2) := by decide +kernel
theorem dX7_multiplies_104 : decode cX7_multiplies 104 = .ok (.ladd, 1) := by decide +kernel
theorem dX7_multiplies_105 : decode cX7_multiplies 105 = .ok (.lstore 9, 2) := by decide +kernel
theorem dX7_multiplies_107 : decode cX7_multiplies 107 = .ok (.aload_n 0, 1) := by decide +kernel
theorem dX7_multiplies_108 : decode cX7_multiplies 108 = .ok (.getfield 26, 3) := by decide +kernel
theorem dX7_multiplies_111 : decode cX7_multiplies 111 = .ok (.sipush 160, 3) := by decide +kernel
theorem dX7_multiplies_114 : decode cX7_multiplies 114 = .ok (.iload_n 3, 1) := by decide +kernel
theorem dX7_multiplies_115 : decode cX7_multiplies 115 = .ok (.iadd, 1) := by decide +kernel
theorem dX7_multiplies_116 : decode cX7_multiplies 116 = .ok (.iload 6, 2) := by decide +kernel
theorem dX7_multiplies_118 : decode cX7_multiplies 118 = .ok (.iadd, 1) := by decide +kernel
theorem dX7_multiplies_119 : decode cX7_multiplies 119 = .ok (.lload 9, 2) := by decide +kernel
theorem dX7_multiplies_121 : decode cX7_multiplies 121 = .ok (.ldc2_w 68, 3) := by decide +kernel
theorem dX7_multiplies_124 : decode cX7_multiplies 124 = .ok (.land, 1) := by decide +kernel
theorem dX7_multiplies_125 : decode cX7_multiplies 125 = .ok (.l2i, 1) := by decide +kernel
theorem dX7_multiplies_126 : decode cX7_multiplies 126 = .ok (.iastore, 1) := by decide +kernel
theorem dX7_multiplies_127 : decode cX7_multiplies 127 = .ok (.lload 9, 2) := by decide +kernel
theorem dX7_multiplies_129 : decode cX7_multiplies 129 = .ok (.bipush 30, 2) := by decide +kernel
theorem dX7_multiplies_131 : decode cX7_multiplies 131 = .ok (.lshr, 1) := by decide +kernel
theorem dX7_multiplies_132 : decode cX7_multiplies 132 = .ok (.lstore 4, 2) := by decide +kernel
theorem dX7_multiplies_134 : decode cX7_multiplies 134 = .ok (.iinc 6 1, 3) := by decide +kernel
theorem dX7_multiplies_137 : decode cX7_multiplies 137 = .ok (.goto (-113), 3) := by decide +kernel
theorem dX7_multiplies_140 : decode cX7_multiplies 140 = .ok (.iinc 3 1, 3) := by decide +kernel
theorem dX7_multiplies_143 : decode cX7_multiplies 143 = .ok (.goto (-135), 3) := by decide +kernel
theorem dX7_multiplies_146 : decode cX7_multiplies 146 = .ok (.aload_n 0, 1) := by decide +kernel
theorem dX7_multiplies_147 : decode cX7_multiplies 147 = .ok (.getfield 29, 3) := by decide +kernel
theorem dX7_multiplies_150 : decode cX7_multiplies 150 = .ok (.iconst 4, 1) := by decide +kernel
theorem dX7_multiplies_151 : decode cX7_multiplies 151 = .ok (.aload_n 0, 1) := by decide +kernel
theorem dX7_multiplies_152 : decode cX7_multiplies 152 = .ok (.getfield 29, 3) := by decide +kernel
theorem dX7_multiplies_155 : decode cX7_multiplies 155 = .ok (.iload_n 1, 1) := by decide +kernel
theorem dX7_multiplies_156 : decode cX7_multiplies 156 = .ok (.iaload, 1) := by decide +kernel
theorem dX7_multiplies_157 : decode cX7_multiplies 157 = .ok (.aload_n 0, 1) := by decide +kernel
theorem dX7_multiplies_158 : decode cX7_multiplies 158 = .ok (.getfield 29, 3) := by decide +kernel
theorem dX7_multiplies_161 : decode cX7_multiplies 161 = .ok (.iload_n 2, 1) := by decide +kernel
theorem dX7_multiplies_162 : decode cX7_multiplies 162 = .ok (.iaload, 1) := by decide +kernel
theorem dX7_multiplies_163 : decode cX7_multiplies 163 = .ok (.iadd, 1) := by decide +kernel
theorem dX7_multiplies_164 : decode cX7_multiplies 164 = .ok (.iastore, 1) := by decide +kernel
theorem dX7_multiplies_165 : decode cX7_multiplies 165 = .ok (.aload_n 0, 1) := by decide +kernel
theorem dX7_multiplies_166 : decode cX7_multiplies 166 = .ok (.iconst 4, 1) := by decide +kernel
theorem dX7_multiplies_167 : decode cX7_multiplies 167 = .ok (.invokevirtual 70, 3) := by decide +kernel
theorem dX7_multiplies_170 : decode cX7_multiplies 170 = .ok (.aload_n 0, 1) := by decide +kernel
theorem dX7_multiplies_171 : decode cX7_multiplies 171 = .ok (.iload_n 1, 1) := by decide +kernel
theorem dX7_multiplies_172 : decode cX7_multiplies 172 = .ok (.iconst 4, 1) := by decide +kernel
theorem dX7_multiplies_173 : decode cX7_multiplies 173 = .ok (.invokevirtual 74, 3) := by decide +kernel
theorem dX7_multiplies_176 : decode cX7_multiplies 176 = .ok (.return_, 1) := by decide +kernel
theorem dX7_adds_0 : decode cX7_adds 0 = .ok (.iconst 0, 1) := by decide +kernel
theorem dX7_adds_1 : decode cX7_adds 1 = .ok (.istore_n 3, 1) := by decide +kernel
theorem dX7_adds_2 : decode cX7_adds 2 = .ok (.aload_n 0, 1) := by decide +kernel
theorem dX7_adds_3 : decode cX7_adds 3 = .ok (.getfield 29, 3) := by decide +kernel
theorem dX7_adds_6 : decode cX7_adds 6 = .ok (.iload_n 1, 1) := by decide +kernel
theorem dX7_adds_7 : decode cX7_adds 7 = .ok (.iaload, 1) := by decide +kernel
theorem dX7_adds_8 : decode cX7_adds 8 = .ok (.aload_n 0, 1) := by decide +kernel
theorem dX7_adds_9 : decode cX7_adds 9 = .ok (.getfield 29, 3) := by decide +kernel
theorem dX7_adds_12 : decode cX7_adds 12 = .ok (.iload_n 2, 1) := by decide +kernel
theorem dX7_adds_13 : decode cX7_adds 13 = .ok (.iaload, 1) := by decide +kernel
theorem dX7_adds_14 : decode cX7_adds 14 = .ok (.if_icmp .le 12, 3) := by decide +kernel
theorem dX7_adds_17 : decode cX7_adds 17 = .ok (.aload_n 0, 1) := by decide +kernel
theorem dX7_adds_18 : decode cX7_adds 18 = .ok (.getfield 29, 3) := by decide +kernel
theorem dX7_adds_21 : decode cX7_adds 21 = .ok (.iload_n 1, 1) := by decide +kernel
theorem dX7_adds_22 : decode cX7_adds 22 = .ok (.iaload, 1) := by decide +kernel
theorem dX7_adds_23 : decode cX7_adds 23 = .ok (.goto 9, 3) := by decide +kernel
theorem dX7_adds_26 : decode cX7_adds 26 = .ok (.aload_n 0, 1) := by decide +kernel
theorem dX7_adds_27 : decode cX7_adds 27 = .ok (.getfield 29, 3) := by decide +kernel
theorem dX7_adds_30 : decode cX7_adds 30 = .ok (.iload_n 2, 1) := by decide +kernel
theorem dX7_adds_31 : decode cX7_adds 31 = .ok (.iaload, 1) := by decide +kernel
theorem dX7_adds_32 : decode cX7_adds 32 = .ok (.istore 4, 2) := by decide +kernel
theorem dX7_adds_34 : decode cX7_adds 34 = .ok (.iconst 0, 1) := by decide +kernel
theorem dX7_adds_35 : decode cX7_adds 35 = .ok (.istore 5, 2) := by decide +kernel
theorem dX7_adds_37 : decode cX7_adds 37 = .ok (.iload 5, 2) := by decide +kernel
theorem dX7_adds_39 : decode cX7_adds 39 = .ok (.iload 4, 2) := by decide +kernel
theorem dX7_adds_41 : decode cX7_adds 41 = .ok (.if_icmp .ge 61, 3) := by decide +kernel
theorem dX7_adds_44 : decode cX7_adds 44 = .ok (.aload_n 0, 1) := by decide +kernel
theorem dX7_adds_45 : decode cX7_adds 45 = .ok (.getfield 26, 3) := by decide +kernel
theorem dX7_adds_48 : decode cX7_adds 48 = .ok (.bipush 40, 2) := by decide +kernel
theorem dX7_adds_50 : decode cX7_adds 50 = .ok (.iload_n 1, 1) := by decide +kernel
theorem dX7_adds_51 : decode cX7_adds 51 = .ok (.imul, 1) := by decide +kernel
theorem dX7_adds_52 : decode cX7_adds 52 = .ok (.iload 5, 2) := by decide +kernel
theorem dX7_adds_54 : decode cX7_adds 54 = .ok (.iadd, 1) := by decide +kernel
theorem dX7_adds_55 : decode cX7_adds 55 = .ok (.iaload, 1) := by decide +kernel
theorem dX7_adds_56 : decode cX7_adds 56 = .ok (.aload_n 0, 1) := by decide +kernel
theorem dX7_adds_57 : decode cX7_adds 57 = .ok (.getfield 26, 3) := by decide +kernel
theorem dX7_adds_60 : decode cX7_adds 60 = .ok (.bipush 40, 2) := by decide +kernel
theorem dX7_adds_62 : decode cX7_adds 62 = .ok (.iload_n 2, 1) := by decide +kernel
theorem dX7_adds_63 : decode cX7_adds 63 = .ok (.imul, 1) := by decide +kernel
theorem dX7_adds_64 : decode cX7_adds 64 = .ok (.iload 5, 2) := by decide +kernel
theorem dX7_adds_66 : decode cX7_adds 66 = .ok (.iadd, 1) := by decide +kernel
theorem dX7_adds_67 : decode cX7_adds 67 = .ok (.iaload, 1) := by decide +kernel
theorem dX7_adds_68 : decode cX7_adds 68 = .ok (.iadd, 1) := by decide +kernel
theorem dX7_adds_69 : decode cX7_adds 69 = .ok (.iload_n 3, 1) := by decide +kernel
theorem dX7_adds_70 : decode cX7_adds 70 = .ok (.iadd, 1) := by decide +kernel
theorem dX7_adds_71 : decode cX7_adds 71 = .ok (.istore 6, 2) := by decide +kernel
theorem dX7_adds_73 : decode cX7_adds 73 = .ok (.aload_n 0, 1) := by decide +kernel
theorem dX7_adds_74 : decode cX7_adds 74 = .ok (.getfield 26, 3) := by decide +kernel
theorem dX7_adds_77 : decode cX7_adds 77 = .ok (.bipush 40, 2) := by decide +kernel
theorem dX7_adds_79 : decode cX7_adds 79 = .ok (.iload_n 1, 1) := by decide +kernel
theorem dX7_adds_80 : decode cX7_adds 80 = .ok (.imul, 1) := by decide +kernel
theorem dX7_adds_81 : decode cX7_adds 81 = .ok (.iload 5, 2) := by decide +kernel
theorem dX7_adds_83 : decode cX7_adds 83 = .ok (.iadd, 1) := by decide +kernel
theorem dX7_adds_84 : decode cX7_adds 84 = .ok (.iload 6, 2) := by decide +kernel
theorem dX7_adds_86 : decode cX7_adds 86 = .ok (.ldc 78, 2) := by decide +kernel
theorem dX7_adds_88 : decode cX7_adds 88 = .ok (.iand, 1) := by decide +kernel
theorem dX7_adds_89 : decode cX7_adds 89 = .ok (.iastore, 1) := by decide +kernel
theorem dX7_adds_90 : decode cX7_adds 90 = .ok (.iload 6, 2) := by decide +kernel
theorem dX7_adds_92 : decode cX7_adds 92 = .ok (.bipush 30, 2) := by decide +kernel
theorem dX7_adds_94 : decode cX7_adds 94 = .ok (.iushr, 1) := by decide +kernel
theorem dX7_adds_95 : decode cX7_adds 95 = .ok (.istore_n 3, 1) := by decide +kernel
theorem dX7_adds_96 : decode cX7_adds 96 = .ok (.iinc 5 1, 3) := by decide +kernel
theorem dX7_adds_99 : decode cX7_adds 99 = .ok (.goto (-62), 3) := by decide +kernel
theorem dX7_adds_102 : decode cX7_adds 102 = .ok (.aload_n 0, 1) := by decide +kernel
theorem dX7_adds_103 : decode cX7_adds 103 = .ok (.getfield 26, 3) := by decide +kernel
theorem dX7_adds_106 : decode cX7_adds 106 = .ok (.bipush 40, 2) := by decide +kernel
theorem dX7_adds_108 : decode cX7_adds 108 = .ok (.iload_n 1, 1) := by decide +kernel
theorem dX7_adds_109 : decode cX7_adds 109 = .ok (.imul, 1) := by decide +kernel
theorem dX7_adds_110 : decode cX7_adds 110 = .ok (.iload 4, 2) := by decide +kernel
theorem dX7_adds_112 : decode cX7_adds 112 = .ok (.iadd, 1) := by decide +kernel
theorem dX7_adds_113 : decode cX7_adds 113 = .ok (.iload_n 3, 1) := by decide +kernel
theorem dX7_adds_114 : decode cX7_adds 114 = .ok (.iastore, 1) := by decide +kernel
theorem dX7_adds_115 : decode cX7_adds 115 = .ok (.aload_n 0, 1) := by decide +kernel
theorem dX7_adds_116 : decode cX7_adds 116 = .ok (.getfield 29, 3) := by decide +kernel
theorem dX7_adds_119 : decode cX7_adds 119 = .ok (.iload_n 1, 1) := by decide +kernel
theorem dX7_adds_120 : decode cX7_adds 120 = .ok (.iload 4, 2) := by decide +kernel
theorem dX7_adds_122 : decode cX7_adds 122 = .ok (.iload_n 3, 1) := by decide +kernel
theorem dX7_adds_123 : decode cX7_adds 123 = .ok (.iadd, 1) := by decide +kernel
theorem dX7_adds_124 : decode cX7_adds 124 = .ok (.iastore, 1) := by decide +kernel
theorem dX7_adds_125 : decode cX7_adds 125 = .ok (.aload_n 0, 1) := by decide +kernel
theorem dX7_adds_126 : decode cX7_adds 126 = .ok (.iload_n 1, 1) := by decide +kernel
theorem dX7_adds_127 : decode cX7_adds 127 = .ok (.invokevirtual 70, 3) := by decide +kernel
theorem dX7_adds_130 : decode cX7_adds 130 = .ok (.return_, 1) := by decide +kernel
theorem dX7_lessens_0 : decode cX7_lessens 0 = .ok (.iconst 0, 1) := by decide +kernel
theorem dX7_lessens_1 : decode cX7_lessens 1 = .ok (.istore_n 3, 1) := by decide +kernel
theorem dX7_lessens_2 : decode cX7_lessens 2 = .ok (.iconst 0, 1) := by decide +kernel
theorem dX7_lessens_3 : decode cX7_lessens 3 = .ok (.istore 4, 2) := by decide +kernel
theorem dX7_lessens_5 : decode cX7_lessens 5 = .ok (.iload 4, 2) := by decide +kernel
theorem dX7_lessens_7 : decode cX7_lessens 7 = .ok (.aload_n 0, 1) := by decide +kernel
theorem dX7_lessens_8 : decode cX7_lessens 8 = .ok (.getfield 29, 3) := by decide +kernel
theorem dX7_lessens_11 : decode cX7_lessens 11 = .ok (.iload_n 1, 1) := by decide +kernel
theorem dX7_lessens_12 : decode cX7_lessens 12 = .ok (.iaload, 1) := by decide +kernel
theorem dX7_lessens_13 : decode cX7_lessens 13 = .ok (.if_icmp .ge 66, 3) := by decide +kernel
theorem dX7_lessens_16 : decode cX7_lessens 16 = .ok (.aload_n 0, 1) := by decide +kernel
theorem dX7_lessens_17 : decode cX7_lessens 17 = .ok (.getfield 26, 3) := by decide +kernel
theorem dX7_lessens_20 : decode cX7_lessens 20 = .ok (.bipush 40, 2) := by decide +kernel
theorem dX7_lessens_22 : decode cX7_lessens 22 = .ok (.iload_n 1, 1) := by decide +kernel
theorem dX7_lessens_23 : decode cX7_lessens 23 = .ok (.imul, 1) := by decide +kernel
theorem dX7_lessens_24 : decode cX7_lessens 24 = .ok (.iload 4, 2) := by decide +kernel
theorem dX7_lessens_26 : decode cX7_lessens 26 = .ok (.iadd, 1) := by decide +kernel
theorem dX7_lessens_27 : decode cX7_lessens 27 = .ok (.iaload, 1) := by decide +kernel
theorem dX7_lessens_28 : decode cX7_lessens 28 = .ok (.aload_n 0, 1) := by decide +kernel
theorem dX7_lessens_29 : decode cX7_lessens 29 = .ok (.getfield 26, 3) := by decide +kernel
theorem dX7_lessens_32 : decode cX7_lessens 32 = .ok (.bipush 40, 2) := by decide +kernel
theorem dX7_lessens_34 : decode cX7_lessens 34 = .ok (.iload_n 2, 1) := by decide +kernel
theorem dX7_lessens_35 : decode cX7_lessens 35 = .ok (.imul, 1) := by decide +kernel
theorem dX7_lessens_36 : decode cX7_lessens 36 = .ok (.iload 4, 2) := by decide +kernel
theorem dX7_lessens_38 : decode cX7_lessens 38 = .ok (.iadd, 1) := by decide +kernel
theorem dX7_lessens_39 : decode cX7_lessens 39 = .ok (.iaload, 1) := by decide +kernel
theorem dX7_lessens_40 : decode cX7_lessens 40 = .ok (.isub, 1) := by decide +kernel
theorem dX7_lessens_41 : decode cX7_lessens 41 = .ok (.iload_n 3, 1) := by decide +kernel
theorem dX7_lessens_42 : decode cX7_lessens 42 = .ok (.isub, 1) := by decide +kernel
theorem dX7_lessens_43 : decode cX7_lessens 43 = .ok (.istore 5, 2) := by decide +kernel
theorem dX7_lessens_45 : decode cX7_lessens 45 = .ok (.aload_n 0, 1) := by decide +kernel
theorem dX7_lessens_46 : decode cX7_lessens 46 = .ok (.getfield 26, 3) := by decide +kernel
theorem dX7_lessens_49 : decode cX7_lessens 49 = .ok (.bipush 40, 2) := by decide +kernel
theorem dX7_lessens_51 : decode cX7_lessens 51 = .ok (.iload_n 1, 1) := by decide +kernel
theorem dX7_lessens_52 : decode cX7_lessens 52 = .ok (.imul, 1) := by decide +kernel
theorem dX7_lessens_53 : decode cX7_lessens 53 = .ok (.iload 4, 2) := by decide +kernel
theorem dX7_lessens_55 : decode cX7_lessens 55 = .ok (.iadd, 1) := by decide +kernel
theorem dX7_lessens_56 : decode cX7_lessens 56 = .ok (.iload 5, 2) := by decide +kernel
theorem dX7_lessens_58 : decode cX7_lessens 58 = .ok (.ldc 78, 2) := by decide +kernel
theorem dX7_lessens_60 : decode cX7_lessens 60 = .ok (.iand, 1) := by decide +kernel
theorem dX7_lessens_61 : decode cX7_lessens 61 = .ok (.iastore, 1) := by decide +kernel
theorem dX7_lessens_62 : decode cX7_lessens 62 = .ok (.iload 5, 2) := by decide +kernel
theorem dX7_lessens_64 : decode cX7_lessens 64 = .ok (.ifCond .ge 7, 3) := by decide +kernel
theorem dX7_lessens_67 : decode cX7_lessens 67 = .ok (.iconst 1, 1) := by decide +kernel
theorem dX7_lessens_68 : decode cX7_lessens 68 = .ok (.goto 4, 3) := by decide +kernel
theorem dX7_lessens_71 : decode cX7_lessens 71 = .ok (.iconst 0, 1) := by decide +kernel
theorem dX7_lessens_72 : decode cX7_lessens 72 = .ok (.istore_n 3, 1) := by decide +kernel
theorem dX7_lessens_73 : decode cX7_lessens 73 = .ok (.iinc 4 1, 3) := by decide +kernel
theorem dX7_lessens_76 : decode cX7_lessens 76 = .ok (.goto (-71), 3) := by decide +kernel
theorem dX7_lessens_79 : decode cX7_lessens 79 = .ok (.aload_n 0, 1) := by decide +kernel
theorem dX7_lessens_80 : decode cX7_lessens 80 = .ok (.iload_n 1, 1) := by decide +kernel
theorem dX7_lessens_81 : decode cX7_lessens 81 = .ok (.invokevirtual 70, 3) := by decide +kernel
theorem dX7_lessens_84 : decode cX7_lessens 84 = .ok (.return_, 1) := by decide +kernel
theorem dX7_against_0 : decode cX7_against 0 = .ok (.aload_n 0, 1) := by decide +kernel
theorem dX7_against_1 : decode cX7_against 1 = .ok (.getfield 29, 3) := by decide +kernel
theorem dX7_against_4 : decode cX7_against 4 = .ok (.iload_n 1, 1) := by decide +kernel
theorem dX7_against_5 : decode cX7_against 5 = .ok (.iaload, 1) := by decide +kernel
theorem dX7_against_6 : decode cX7_against 6 = .ok (.aload_n 0, 1) := by decide +kernel
theorem dX7_against_7 : decode cX7_against 7 = .ok (.getfield 29, 3) := by decide +kernel
theorem dX7_against_10 : decode cX7_against 10 = .ok (.iload_n 2, 1) := by decide +kernel
theorem dX7_against_11 : decode cX7_against 11 = .ok (.iaload, 1) := by decide +kernel
theorem dX7_against_12 : decode cX7_against 12 = .ok (.if_icmp .eq 24, 3) := by decide +kernel
theorem dX7_against_15 : decode cX7_against 15 = .ok (.aload_n 0, 1) := by decide +kernel
theorem dX7_against_16 : decode cX7_against 16 = .ok (.getfield 29, 3) := by decide +kernel
theorem dX7_against_19 : decode cX7_against 19 = .ok (.iload_n 1, 1) := by decide +kernel
theorem dX7_against_20 : decode cX7_against 20 = .ok (.iaload, 1) := by decide +kernel
theorem dX7_against_21 : decode cX7_against 21 = .ok (.aload_n 0, 1) := by decide +kernel
theorem dX7_against_22 : decode cX7_against 22 = .ok (.getfield 29, 3) := by decide +kernel
theorem dX7_against_25 : decode cX7_against 25 = .ok (.iload_n 2, 1) := by decide +kernel
theorem dX7_against_26 : decode cX7_against 26 = .ok (.iaload, 1) := by decide +kernel
theorem dX7_against_27 : decode cX7_against 27 = .ok (.if_icmp .ge 7, 3) := by decide +kernel
theorem dX7_against_30 : decode cX7_against 30 = .ok (.iconst (-1), 1) := by decide +kernel
theorem dX7_against_31 : decode cX7_against 31 = .ok (.goto 4, 3) := by decide +kernel
theorem dX7_against_34 : decode cX7_against 34 = .ok (.iconst 1, 1) := by decide +kernel
theorem dX7_against_35 : decode cX7_against 35 = .ok (.ireturn, 1) := by decide +kernel
theorem dX7_against_36 : decode cX7_against 36 = .ok (.aload_n 0, 1) := by decide +kernel
theorem dX7_against_37 : decode cX7_against 37 = .ok (.getfield 29, 3) := by decide +kernel
theorem dX7_against_40 : decode cX7_against 40 = .ok (.iload_n 1, 1) := by decide +kernel
theorem dX7_against_41 : decode cX7_against 41 = .ok (.iaload, 1) := by decide +kernel
theorem dX7_against_42 : decode cX7_against 42 = .ok (.iconst 1, 1) := by decide +kernel
theorem dX7_against_43 : decode cX7_against 43 = .ok (.isub, 1) := by decide +kernel
theorem dX7_against_44 : decode cX7_against 44 = .ok (.istore_n 3, 1) := by decide +kernel
theorem dX7_against_45 : decode cX7_against 45 = .ok (.iload_n 3, 1) := by decide +kernel
theorem dX7_against_46 : decode cX7_against 46 = .ok (.ifCond .lt 65, 3) := by decide +kernel
theorem dX7_against_49 : decode cX7_against 49 = .ok (.aload_n 0, 1) := by decide +kernel
theorem dX7_against_50 : decode cX7_against 50 = .ok (.getfield 26, 3) := by decide +kernel
theorem dX7_against_53 : decode cX7_against 53 = .ok (.bipush 40, 2) := by decide +kernel
theorem dX7_against_55 : decode cX7_against 55 = .ok (.iload_n 1, 1) := by decide +kernel
theorem dX7_against_56 : decode cX7_against 56 = .ok (.imul, 1) := by decide +kernel
theorem dX7_against_57 : decode cX7_against 57 = .ok (.iload_n 3, 1) := by decide +kernel
theorem dX7_against_58 : decode cX7_against 58 = .ok (.iadd, 1) := by decide +kernel
theorem dX7_against_59 : decode cX7_against 59 = .ok (.iaload, 1) := by decide +kernel
theorem dX7_against_60 : decode cX7_against 60 = .ok (.aload_n 0, 1) := by decide +kernel
theorem dX7_against_61 : decode cX7_against 61 = .ok (.getfield 26, 3) := by decide +kernel
theorem dX7_against_64 : decode cX7_against 64 = .ok (.bipush 40, 2) := by decide +kernel
theorem dX7_against_66 : decode cX7_against 66 = .ok (.iload_n 2, 1) := by decide +kernel
theorem dX7_against_67 : decode cX7_against 67 = .ok (.imul, 1) := by decide +kernel
theorem dX7_against_68 : decode cX7_against 68 = .ok (.iload_n 3, 1) := by decide +kernel
theorem dX7_against_69 : decode cX7_against 69 = .ok (.iadd, 1) := by decide +kernel
theorem dX7_against_70 : decode cX7_against 70 = .ok (.iaload, 1) := by decide +kernel
theorem dX7_against_71 : decode cX7_against 71 = .ok (.if_icmp .eq 34, 3) := by decide +kernel
theorem dX7_against_74 : decode cX7_against 74 = .ok (.aload_n 0, 1) := by decide +kernel
theorem dX7_against_75 : decode cX7_against 75 = .ok (.getfield 26, 3) := by decide +kernel
theorem dX7_against_78 : decode cX7_against 78 = .ok (.bipush 40, 2) := by decide +kernel
theorem dX7_against_80 : decode cX7_against 80 = .ok (.iload_n 1, 1) := by decide +kernel
theorem dX7_against_81 : decode cX7_against 81 = .ok (.imul, 1) := by decide +kernel
theorem dX7_against_82 : decode cX7_against 82 = .ok (.iload_n 3, 1) := by decide +kernel
theorem dX7_against_83 : decode cX7_against 83 = .ok (.iadd, 1) := by decide +kernel
theorem dX7_against_84 : decode cX7_against 84 = .ok (.iaload, 1) := by decide +kernel
theorem dX7_against_85 : decode cX7_against 85 = .ok (.aload_n 0, 1) := by decide +kernel
theorem dX7_against_86 : decode cX7_against 86 = .ok (.getfield 26, 3) := by decide +kernel
theorem dX7_against_89 : decode cX7_against 89 = .ok (.bipush 40, 2) := by decide +kernel
theorem dX7_against_91 : decode cX7_against 91 = .ok (.iload_n 2, 1) := by decide +kernel
theorem dX7_against_92 : decode cX7_against 92 = .ok (.imul, 1) := by decide +kernel
theorem dX7_against_93 : decode cX7_against 93 = .ok (.iload_n 3, 1) := by decide +kernel
theorem dX7_against_94 : decode cX7_against 94 = .ok (.iadd, 1) := by decide +kernel
theorem dX7_against_95 : decode cX7_against 95 = .ok (.iaload, 1) := by decide +kernel
theorem dX7_against_96 : decode cX7_against 96 = .ok (.if_icmp .ge 7, 3) := by decide +kernel
theorem dX7_against_99 : decode cX7_against 99 = .ok (.iconst (-1), 1) := by decide +kernel
theorem dX7_against_100 : decode cX7_against 100 = .ok (.goto 4, 3) := by decide +kernel
theorem dX7_against_103 : decode cX7_against 103 = .ok (.iconst 1, 1) := by decide +kernel
theorem dX7_against_104 : decode cX7_against 104 = .ok (.ireturn, 1) := by decide +kernel
theorem dX7_against_105 : decode cX7_against 105 = .ok (.iinc 3 (-1), 3) := by decide +kernel
theorem dX7_against_108 : decode cX7_against 108 = .ok (.goto (-63), 3) := by decide +kernel
theorem dX7_against_111 : decode cX7_against 111 = .ok (.iconst 0, 1) := by decide +kernel
theorem dX7_against_112 : decode cX7_against 112 = .ok (.ireturn, 1) := by decide +kernel
theorem dX7_isEven_0 : decode cX7_isEven 0 = .ok (.aload_n 0, 1) := by decide +kernel
theorem dX7_isEven_1 : decode cX7_isEven 1 = .ok (.getfield 26, 3) := by decide +kernel
theorem dX7_isEven_4 : decode cX7_isEven 4 = .ok (.bipush 40, 2) := by decide +kernel
theorem dX7_isEven_6 : decode cX7_isEven 6 = .ok (.iload_n 1, 1) := by decide +kernel
theorem dX7_isEven_7 : decode cX7_isEven 7 = .ok (.imul, 1) := by decide +kernel
theorem dX7_isEven_8 : decode cX7_isEven 8 = .ok (.iaload, 1) := by decide +kernel
theorem dX7_isEven_9 : decode cX7_isEven 9 = .ok (.iconst 1, 1) := by decide +kernel
theorem dX7_isEven_10 : decode cX7_isEven 10 = .ok (.iand, 1) := by decide +kernel
theorem dX7_isEven_11 : decode cX7_isEven 11 = .ok (.ifCond .ne 7, 3) := by decide +kernel
theorem dX7_isEven_14 : decode cX7_isEven 14 = .ok (.iconst 1, 1) := by decide +kernel
theorem dX7_isEven_15 : decode cX7_isEven 15 = .ok (.goto 4, 3) := by decide +kernel
theorem dX7_isEven_18 : decode cX7_isEven 18 = .ok (.iconst 0, 1) := by decide +kernel
theorem dX7_isEven_19 : decode cX7_isEven 19 = .ok (.ireturn, 1) := by decide +kernel
theorem dX7_halves_0 : decode cX7_halves 0 = .ok (.iconst 0, 1) := by decide +kernel
theorem dX7_halves_1 : decode cX7_halves 1 = .ok (.istore_n 2, 1) := by decide +kernel
theorem dX7_halves_2 : decode cX7_halves 2 = .ok (.iload_n 2, 1) := by decide +kernel
theorem dX7_halves_3 : decode cX7_halves 3 = .ok (.aload_n 0, 1) := by decide +kernel
theorem dX7_halves_4 : decode cX7_halves 4 = .ok (.getfield 29, 3) := by decide +kernel
theorem dX7_halves_7 : decode cX7_halves 7 = .ok (.iload_n 1, 1) := by decide +kernel
theorem dX7_halves_8 : decode cX7_halves 8 = .ok (.iaload, 1) := by decide +kernel
theorem dX7_halves_9 : decode cX7_halves 9 = .ok (.if_icmp .ge 70, 3) := by decide +kernel
theorem dX7_halves_12 : decode cX7_halves 12 = .ok (.iload_n 2, 1) := by decide +kernel
theorem dX7_halves_13 : decode cX7_halves 13 = .ok (.iconst 1, 1) := by decide +kernel
theorem dX7_halves_14 : decode cX7_halves 14 = .ok (.iadd, 1) := by decide +kernel
theorem dX7_halves_15 : decode cX7_halves 15 = .ok (.aload_n 0, 1) := by decide +kernel
theorem dX7_halves_16 : decode cX7_halves 16 = .ok (.getfield 29, 3) := by decide +kernel
theorem dX7_halves_19 : decode cX7_halves 19 = .ok (.iload_n 1, 1) := by decide +kernel
theorem dX7_halves_20 : decode cX7_halves 20 = .ok (.iaload, 1) := by decide +kernel
theorem dX7_halves_21 : decode cX7_halves 21 = .ok (.if_icmp .ge 21, 3) := by decide +kernel
theorem dX7_halves_24 : decode cX7_halves 24 = .ok (.aload_n 0, 1) := by decide +kernel
theorem dX7_halves_25 : decode cX7_halves 25 = .ok (.getfield 26, 3) := by decide +kernel
theorem dX7_halves_28 : decode cX7_halves 28 = .ok (.bipush 40, 2) := by decide +kernel
theorem dX7_halves_30 : decode cX7_halves 30 = .ok (.iload_n 1, 1) := by decide +kernel
theorem dX7_halves_31 : decode cX7_halves 31 = .ok (.imul, 1) := by decide +kernel
theorem dX7_halves_32 : decode cX7_halves 32 = .ok (.iload_n 2, 1) := by decide +kernel
theorem dX7_halves_33 : decode cX7_halves 33 = .ok (.iadd, 1) := by decide +kernel
theorem dX7_halves_34 : decode cX7_halves 34 = .ok (.iconst 1, 1) := by decide +kernel
theorem dX7_halves_35 : decode cX7_halves 35 = .ok (.iadd, 1) := by decide +kernel
theorem dX7_halves_36 : decode cX7_halves 36 = .ok (.iaload, 1) := by decide +kernel
theorem dX7_halves_37 : decode cX7_halves 37 = .ok (.iconst 1, 1) := by decide +kernel
theorem dX7_halves_38 : decode cX7_halves 38 = .ok (.iand, 1) := by decide +kernel
theorem dX7_halves_39 : decode cX7_halves 39 = .ok (.goto 4, 3) := by decide +kernel
theorem dX7_halves_42 : decode cX7_halves 42 = .ok (.iconst 0, 1) := by decide +kernel
theorem dX7_halves_43 : decode cX7_halves 43 = .ok (.istore_n 3, 1) := by decide +kernel
theorem dX7_halves_44 : decode cX7_halves 44 = .ok (.aload_n 0, 1) := by decide +kernel
theorem dX7_halves_45 : decode cX7_halves 45 = .ok (.getfield 26, 3) := by decide +kernel
theorem dX7_halves_48 : decode cX7_halves 48 = .ok (.bipush 40, 2) := by decide +kernel
theorem dX7_halves_50 : decode cX7_halves 50 = .ok (.iload_n 1, 1) := by decide +kernel
theorem dX7_halves_51 : decode cX7_halves 51 = .ok (.imul, 1) := by decide +kernel
theorem dX7_halves_52 : decode cX7_halves 52 = .ok (.iload_n 2, 1) := by decide +kernel
theorem dX7_halves_53 : decode cX7_halves 53 = .ok (.iadd, 1) := by decide +kernel
theorem dX7_halves_54 : decode cX7_halves 54 = .ok (.aload_n 0, 1) := by decide +kernel
theorem dX7_halves_55 : decode cX7_halves 55 = .ok (.getfield 26, 3) := by decide +kernel
theorem dX7_halves_58 : decode cX7_halves 58 = .ok (.bipush 40, 2) := by decide +kernel
theorem dX7_halves_60 : decode cX7_halves 60 = .ok (.iload_n 1, 1) := by decide +kernel
theorem dX7_halves_61 : decode cX7_halves 61 = .ok (.imul, 1) := by decide +kernel
theorem dX7_halves_62 : decode cX7_halves 62 = .ok (.iload_n 2, 1) := by decide +kernel
theorem dX7_halves_63 : decode cX7_halves 63 = .ok (.iadd, 1) := by decide +kernel
theorem dX7_halves_64 : decode cX7_halves 64 = .ok (.iaload, 1) := by decide +kernel
theorem dX7_halves_65 : decode cX7_halves 65 = .ok (.iconst 1, 1) := by decide +kernel
theorem dX7_halves_66 : decode cX7_halves 66 = .ok (.ishr, 1) := by decide +kernel
theorem dX7_halves_67 : decode cX7_halves 67 = .ok (.iload_n 3, 1) := by decide +kernel
theorem dX7_halves_68 : decode cX7_halves 68 = .ok (.bipush 29, 2) := by decide +kernel
theorem dX7_halves_70 : decode cX7_halves 70 = .ok (.ishl, 1) := by decide +kernel
theorem dX7_halves_71 : decode cX7_halves 71 = .ok (.ior, 1) := by decide +kernel
theorem dX7_halves_72 : decode cX7_halves 72 = .ok (.iastore, 1) := by decide +kernel
theorem dX7_halves_73 : decode cX7_halves 73 = .ok (.iinc 2 1, 3) := by decide +kernel
theorem dX7_halves_76 : decode cX7_halves 76 = .ok (.goto (-74), 3) := by decide +kernel
theorem dX7_halves_79 : decode cX7_halves 79 = .ok (.aload_n 0, 1) := by decide +kernel
theorem dX7_halves_80 : decode cX7_halves 80 = .ok (.iload_n 1, 1) := by decide +kernel
theorem dX7_halves_81 : decode cX7_halves 81 = .ok (.invokevirtual 70, 3) := by decide +kernel
theorem dX7_halves_84 : decode cX7_halves 84 = .ok (.return_, 1) := by decide +kernel
theorem dX7_lowers_0 : decode cX7_lowers 0 = .ok (.aload_n 0, 1) := by decide +kernel
theorem dX7_lowers_1 : decode cX7_lowers 1 = .ok (.getfield 29, 3) := by decide +kernel
theorem dX7_lowers_4 : decode cX7_lowers 4 = .ok (.iconst 0, 1) := by decide +kernel
theorem dX7_lowers_5 : decode cX7_lowers 5 = .ok (.iaload, 1) := by decide +kernel
theorem dX7_lowers_6 : decode cX7_lowers 6 = .ok (.ifCond .ne 10, 3) := by decide +kernel
theorem dX7_lowers_9 : decode cX7_lowers 9 = .ok (.aload_n 0, 1) := by decide +kernel
theorem dX7_lowers_10 : decode cX7_lowers 10 = .ok (.iconst 1, 1) := by decide +kernel
theorem dX7_lowers_11 : decode cX7_lowers 11 = .ok (.lconst 1, 1) := by decide +kernel
theorem dX7_lowers_12 : decode cX7_lowers 12 = .ok (.invokevirtual 56, 3) := by decide +kernel
theorem dX7_lowers_15 : decode cX7_lowers 15 = .ok (.return_, 1) := by decide +kernel
theorem dX7_lowers_16 : decode cX7_lowers 16 = .ok (.aload_n 0, 1) := by decide +kernel
theorem dX7_lowers_17 : decode cX7_lowers 17 = .ok (.iconst 0, 1) := by decide +kernel
theorem dX7_lowers_18 : decode cX7_lowers 18 = .ok (.invokevirtual 79, 3) := by decide +kernel
theorem dX7_lowers_21 : decode cX7_lowers 21 = .ok (.ifCond .eq 24, 3) := by decide +kernel
theorem dX7_lowers_24 : decode cX7_lowers 24 = .ok (.aload_n 0, 1) := by decide +kernel
theorem dX7_lowers_25 : decode cX7_lowers 25 = .ok (.iconst 1, 1) := by decide +kernel
theorem dX7_lowers_26 : decode cX7_lowers 26 = .ok (.invokevirtual 79, 3) := by decide +kernel
theorem dX7_lowers_29 : decode cX7_lowers 29 = .ok (.ifCond .eq 16, 3) := by decide +kernel
theorem dX7_lowers_32 : decode cX7_lowers 32 = .ok (.aload_n 0, 1) := by decide +kernel
theorem dX7_lowers_33 : decode cX7_lowers 33 = .ok (.iconst 0, 1) := by decide +kernel
theorem dX7_lowers_34 : decode cX7_lowers 34 = .ok (.invokevirtual 83, 3) := by decide +kernel
theorem dX7_lowers_37 : decode cX7_lowers 37 = .ok (.aload_n 0, 1) := by decide +kernel
theorem dX7_lowers_38 : decode cX7_lowers 38 = .ok (.iconst 1, 1) := by decide +kernel
theorem dX7_lowers_39 : decode cX7_lowers 39 = .ok (.invokevirtual 83, 3) := by decide +kernel
theorem dX7_lowers_42 : decode cX7_lowers 42 = .ok (.goto (-26), 3) := by decide +kernel
theorem dX7_lowers_45 : decode cX7_lowers 45 = .ok (.aload_n 0, 1) := by decide +kernel
theorem dX7_lowers_46 : decode cX7_lowers 46 = .ok (.iconst 2, 1) := by decide +kernel
theorem dX7_lowers_47 : decode cX7_lowers 47 = .ok (.iconst 0, 1) := by decide +kernel
theorem dX7_lowers_48 : decode cX7_lowers 48 = .ok (.invokevirtual 74, 3) := by decide +kernel
theorem dX7_lowers_51 : decode cX7_lowers 51 = .ok (.aload_n 0, 1) := by decide +kernel
theorem dX7_lowers_52 : decode cX7_lowers 52 = .ok (.iconst 3, 1) := by decide +kernel
theorem dX7_lowers_53 : decode cX7_lowers 53 = .ok (.iconst 1, 1) := by decide +kernel
theorem dX7_lowers_54 : decode cX7_lowers 54 = .ok (.invokevirtual 74, 3) := by decide +kernel
theorem dX7_lowers_57 : decode cX7_lowers 57 = .ok (.aload_n 0, 1) := by decide +kernel
theorem dX7_lowers_58 : decode cX7_lowers 58 = .ok (.getfield 29, 3) := by decide +kernel
theorem dX7_lowers_61 : decode cX7_lowers 61 = .ok (.iconst 2, 1) := by decide +kernel
theorem dX7_lowers_62 : decode cX7_lowers 62 = .ok (.iaload, 1) := by decide +kernel
theorem dX7_lowers_63 : decode cX7_lowers 63 = .ok (.ifCond .le 82, 3) := by decide +kernel
theorem dX7_lowers_66 : decode cX7_lowers 66 = .ok (.aload_n 0, 1) := by decide +kernel
theorem dX7_lowers_67 : decode cX7_lowers 67 = .ok (.iconst 2, 1) := by decide +kernel
theorem dX7_lowers_68 : decode cX7_lowers 68 = .ok (.invokevirtual 79, 3) := by decide +kernel
theorem dX7_lowers_71 : decode cX7_lowers 71 = .ok (.ifCond .eq 11, 3) := by decide +kernel
theorem dX7_lowers_74 : decode cX7_lowers 74 = .ok (.aload_n 0, 1) := by decide +kernel
theorem dX7_lowers_75 : decode cX7_lowers 75 = .ok (.iconst 2, 1) := by decide +kernel
theorem dX7_lowers_76 : decode cX7_lowers 76 = .ok (.invokevirtual 83, 3) := by decide +kernel
theorem dX7_lowers_79 : decode cX7_lowers 79 = .ok (.goto (-13), 3) := by decide +kernel
theorem dX7_lowers_82 : decode cX7_lowers 82 = .ok (.aload_n 0, 1) := by decide +kernel
theorem dX7_lowers_83 : decode cX7_lowers 83 = .ok (.iconst 3, 1) := by decide +kernel
theorem dX7_lowers_84 : decode cX7_lowers 84 = .ok (.invokevirtual 79, 3) := by decide +kernel
theorem dX7_lowers_87 : decode cX7_lowers 87 = .ok (.ifCond .eq 11, 3) := by decide +kernel
theorem dX7_lowers_90 : decode cX7_lowers 90 = .ok (.aload_n 0, 1) := by decide +kernel
theorem dX7_lowers_91 : decode cX7_lowers 91 = .ok (.iconst 3, 1) := by decide +kernel
theorem dX7_lowers_92 : decode cX7_lowers 92 = .ok (.invokevirtual 83, 3) := by decide +kernel
theorem dX7_lowers_95 : decode cX7_lowers 95 = .ok (.goto (-13), 3) := by decide +kernel
theorem dX7_lowers_98 : decode cX7_lowers 98 = .ok (.aload_n 0, 1) := by decide +kernel
theorem dX7_lowers_99 : decode cX7_lowers 99 = .ok (.iconst 2, 1) := by decide +kernel
theorem dX7_lowers_100 : decode cX7_lowers 100 = .ok (.iconst 3, 1) := by decide +kernel
theorem dX7_lowers_101 : decode cX7_lowers 101 = .ok (.invokevirtual 86, 3) := by decide +kernel
theorem dX7_lowers_104 : decode cX7_lowers 104 = .ok (.ifCond .lt 7, 3) := by decide +kernel
theorem dX7_lowers_107 : decode cX7_lowers 107 = .ok (.iconst 2, 1) := by decide +kernel
theorem dX7_lowers_108 : decode cX7_lowers 108 = .ok (.goto 4, 3) := by decide +kernel
theorem dX7_lowers_111 : decode cX7_lowers 111 = .ok (.iconst 3, 1) := by decide +kernel
theorem dX7_lowers_112 : decode cX7_lowers 112 = .ok (.istore_n 1, 1) := by decide +kernel
theorem dX7_lowers_113 : decode cX7_lowers 113 = .ok (.aload_n 0, 1) := by decide +kernel
theorem dX7_lowers_114 : decode cX7_lowers 114 = .ok (.iload_n 1, 1) := by decide +kernel
theorem dX7_lowers_115 : decode cX7_lowers 115 = .ok (.iconst 5, 1) := by decide +kernel
theorem dX7_lowers_116 : decode cX7_lowers 116 = .ok (.iload_n 1, 1) := by decide +kernel
theorem dX7_lowers_117 : decode cX7_lowers 117 = .ok (.isub, 1) := by decide +kernel
theorem dX7_lowers_118 : decode cX7_lowers 118 = .ok (.invokevirtual 89, 3) := by decide +kernel
theorem dX7_lowers_121 : decode cX7_lowers 121 = .ok (.aload_n 0, 1) := by decide +kernel
theorem dX7_lowers_122 : decode cX7_lowers 122 = .ok (.getfield 29, 3) := by decide +kernel
theorem dX7_lowers_125 : decode cX7_lowers 125 = .ok (.iconst 3, 1) := by decide +kernel
theorem dX7_lowers_126 : decode cX7_lowers 126 = .ok (.iaload, 1) := by decide +kernel
theorem dX7_lowers_127 : decode cX7_lowers 127 = .ok (.ifCond .ne 15, 3) := by decide +kernel
theorem dX7_lowers_130 : decode cX7_lowers 130 = .ok (.aload_n 0, 1) := by decide +kernel
theorem dX7_lowers_131 : decode cX7_lowers 131 = .ok (.iconst 3, 1) := by decide +kernel
theorem dX7_lowers_132 : decode cX7_lowers 132 = .ok (.iconst 2, 1) := by decide +kernel
theorem dX7_lowers_133 : decode cX7_lowers 133 = .ok (.invokevirtual 74, 3) := by decide +kernel
theorem dX7_lowers_136 : decode cX7_lowers 136 = .ok (.aload_n 0, 1) := by decide +kernel
theorem dX7_lowers_137 : decode cX7_lowers 137 = .ok (.iconst 2, 1) := by decide +kernel
theorem dX7_lowers_138 : decode cX7_lowers 138 = .ok (.lconst 0, 1) := by decide +kernel
theorem dX7_lowers_139 : decode cX7_lowers 139 = .ok (.invokevirtual 56, 3) := by decide +kernel
theorem dX7_lowers_142 : decode cX7_lowers 142 = .ok (.goto (-85), 3) := by decide +kernel
theorem dX7_lowers_145 : decode cX7_lowers 145 = .ok (.aload_n 0, 1) := by decide +kernel
theorem dX7_lowers_146 : decode cX7_lowers 146 = .ok (.iconst 0, 1) := by decide +kernel
theorem dX7_lowers_147 : decode cX7_lowers 147 = .ok (.invokevirtual 92, 3) := by decide +kernel
theorem dX7_lowers_150 : decode cX7_lowers 150 = .ok (.aload_n 0, 1) := by decide +kernel
theorem dX7_lowers_151 : decode cX7_lowers 151 = .ok (.iconst 1, 1) := by decide +kernel
theorem dX7_lowers_152 : decode cX7_lowers 152 = .ok (.invokevirtual 92, 3) := by decide +kernel
theorem dX7_lowers_155 : decode cX7_lowers 155 = .ok (.return_, 1) := by decide +kernel
theorem dX7_parts_0 : decode cX7_parts 0 = .ok (.iconst 1, 1) := by decide +kernel
theorem dX7_parts_1 : decode cX7_parts 1 = .ok (.istore_n 2, 1) := by decide +kernel
theorem dX7_parts_2 : decode cX7_parts 2 = .ok (.iconst 0, 1) := by decide +kernel
theorem dX7_parts_3 : decode cX7_parts 3 = .ok (.istore_n 3, 1) := by decide +kernel
theorem dX7_parts_4 : decode cX7_parts 4 = .ok (.iload_n 3, 1) := by decide +kernel
theorem dX7_parts_5 : decode cX7_parts 5 = .ok (.iconst 5, 1) := by decide +kernel
theorem dX7_parts_6 : decode cX7_parts 6 = .ok (.if_icmp .ge 23, 3) := by decide +kernel
theorem dX7_parts_9 : decode cX7_parts 9 = .ok (.iload_n 2, 1) := by decide +kernel
theorem dX7_parts_10 : decode cX7_parts 10 = .ok (.iconst 2, 1) := by decide +kernel
theorem dX7_parts_11 : decode cX7_parts 11 = .ok (.aload_n 0, 1) := by decide +kernel
theorem dX7_parts_12 : decode cX7_parts 12 = .ok (.getfield 26, 3) := by decide +kernel
theorem dX7_parts_15 : decode cX7_parts 15 = .ok (.bipush 120, 2) := by decide +kernel
theorem dX7_parts_17 : decode cX7_parts 17 = .ok (.iaload, 1) := by decide +kernel
theorem dX7_parts_18 : decode cX7_parts 18 = .ok (.iload_n 2, 1) := by decide +kernel
theorem dX7_parts_19 : decode cX7_parts 19 = .ok (.imul, 1) := by decide +kernel
theorem dX7_parts_20 : decode cX7_parts 20 = .ok (.isub, 1) := by decide +kernel
theorem dX7_parts_21 : decode cX7_parts 21 = .ok (.imul, 1) := by decide +kernel
theorem dX7_parts_22 : decode cX7_parts 22 = .ok (.istore_n 2, 1) := by decide +kernel
theorem dX7_parts_23 : decode cX7_parts 23 = .ok (.iinc 3 1, 3) := by decide +kernel
theorem dX7_parts_26 : decode cX7_parts 26 = .ok (.goto (-22), 3) := by decide +kernel
theorem dX7_parts_29 : decode cX7_parts 29 = .ok (.aload_n 0, 1) := by decide +kernel
theorem dX7_parts_30 : decode cX7_parts 30 = .ok (.getfield 29, 3) := by decide +kernel
theorem dX7_parts_33 : decode cX7_parts 33 = .ok (.iload_n 1, 1) := by decide +kernel
theorem dX7_parts_34 : decode cX7_parts 34 = .ok (.iaload, 1) := by decide +kernel
theorem dX7_parts_35 : decode cX7_parts 35 = .ok (.istore_n 3, 1) := by decide +kernel
theorem dX7_parts_36 : decode cX7_parts 36 = .ok (.iconst 0, 1) := by decide +kernel
theorem dX7_parts_37 : decode cX7_parts 37 = .ok (.istore 4, 2) := by decide +kernel
theorem dX7_parts_39 : decode cX7_parts 39 = .ok (.iload 4, 2) := by decide +kernel
theorem dX7_parts_41 : decode cX7_parts 41 = .ok (.iload_n 3, 1) := by decide +kernel
theorem dX7_parts_42 : decode cX7_parts 42 = .ok (.if_icmp .ge 148, 3) := by decide +kernel
theorem dX7_parts_45 : decode cX7_parts 45 = .ok (.aload_n 0, 1) := by decide +kernel
theorem dX7_parts_46 : decode cX7_parts 46 = .ok (.getfield 26, 3) := by decide +kernel
theorem dX7_parts_49 : decode cX7_parts 49 = .ok (.bipush 40, 2) := by decide +kernel
theorem dX7_parts_51 : decode cX7_parts 51 = .ok (.iload_n 1, 1) := by decide +kernel
theorem dX7_parts_52 : decode cX7_parts 52 = .ok (.imul, 1) := by decide +kernel
theorem dX7_parts_53 : decode cX7_parts 53 = .ok (.iload 4, 2) := by decide +kernel
theorem dX7_parts_55 : decode cX7_parts 55 = .ok (.iadd, 1) := by decide +kernel
theorem dX7_parts_56 : decode cX7_parts 56 = .ok (.iaload, 1) := by decide +kernel
theorem dX7_parts_57 : decode cX7_parts 57 = .ok (.iload_n 2, 1) := by decide +kernel
theorem dX7_parts_58 : decode cX7_parts 58 = .ok (.imul, 1) := by decide +kernel
theorem dX7_parts_59 : decode cX7_parts 59 = .ok (.ldc 78, 2) := by decide +kernel
theorem dX7_parts_61 : decode cX7_parts 61 = .ok (.iand, 1) := by decide +kernel
theorem dX7_parts_62 : decode cX7_parts 62 = .ok (.istore 5, 2) := by decide +kernel
theorem dX7_parts_64 : decode cX7_parts 64 = .ok (.lconst 0, 1) := by decide +kernel
theorem dX7_parts_65 : decode cX7_parts 65 = .ok (.lstore 6, 2) := by decide +kernel
theorem dX7_parts_67 : decode cX7_parts 67 = .ok (.iconst 0, 1) := by decide +kernel
theorem dX7_parts_68 : decode cX7_parts 68 = .ok (.istore 8, 2) := by decide +kernel
theorem dX7_parts_70 : decode cX7_parts 70 = .ok (.iload 4, 2) := by decide +kernel
theorem dX7_parts_72 : decode cX7_parts 72 = .ok (.iload 8, 2) := by decide +kernel
theorem dX7_parts_74 : decode cX7_parts 74 = .ok (.iadd, 1) := by decide +kernel
theorem dX7_parts_75 : decode cX7_parts 75 = .ok (.iload_n 3, 1) := by decide +kernel
theorem dX7_parts_76 : decode cX7_parts 76 = .ok (.if_icmp .ge 95, 3) := by decide +kernel
theorem dX7_parts_79 : decode cX7_parts 79 = .ok (.iload 8, 2) := by decide +kernel
theorem dX7_parts_81 : decode cX7_parts 81 = .ok (.aload_n 0, 1) := by decide +kernel
theorem dX7_parts_82 : decode cX7_parts 82 = .ok (.getfield 29, 3) := by decide +kernel
theorem dX7_parts_85 : decode cX7_parts 85 = .ok (.iconst 3, 1) := by decide +kernel
theorem dX7_parts_86 : decode cX7_parts 86 = .ok (.iaload, 1) := by decide +kernel
theorem dX7_parts_87 : decode cX7_parts 87 = .ok (.if_icmp .ge 21, 3) := by decide +kernel
theorem dX7_parts_90 : decode cX7_parts 90 = .ok (.iload 5, 2) := by decide +kernel
theorem dX7_parts_92 : decode cX7_parts 92 = .ok (.i2l, 1) := by decide +kernel
theorem dX7_parts_93 : decode cX7_parts 93 = .ok (.aload_n 0, 1) := by decide +kernel
theorem dX7_parts_94 : decode cX7_parts 94 = .ok (.getfield 26, 3) := by decide +kernel
theorem dX7_parts_97 : decode cX7_parts 97 = .ok (.bipush 120, 2) := by decide +kernel
theorem dX7_parts_99 : decode cX7_parts 99 = .ok (.iload 8, 2) := by decide +kernel
theorem dX7_parts_101 : decode cX7_parts 101 = .ok (.iadd, 1) := by decide +kernel
theorem dX7_parts_102 : decode cX7_parts 102 = .ok (.iaload, 1) := by decide +kernel
theorem dX7_parts_103 : decode cX7_parts 103 = .ok (.i2l, 1) := by decide +kernel
theorem dX7_parts_104 : decode cX7_parts 104 = .ok (.lmul, 1) := by decide +kernel
theorem dX7_parts_105 : decode cX7_parts 105 = .ok (.goto 4, 3) := by decide +kernel
theorem dX7_parts_108 : decode cX7_parts 108 = .ok (.lconst 0, 1) := by decide +kernel
theorem dX7_parts_109 : decode cX7_parts 109 = .ok (.lstore 9, 2) := by decide +kernel
theorem dX7_parts_111 : decode cX7_parts 111 = .ok (.aload_n 0, 1) := by decide +kernel
theorem dX7_parts_112 : decode cX7_parts 112 = .ok (.getfield 26, 3) := by decide +kernel
theorem dX7_parts_115 : decode cX7_parts 115 = .ok (.bipush 40, 2) := by decide +kernel
theorem dX7_parts_117 : decode cX7_parts 117 = .ok (.iload_n 1, 1) := by decide +kernel
theorem dX7_parts_118 : decode cX7_parts 118 = .ok (.imul, 1) := by decide +kernel
theorem dX7_parts_119 : decode cX7_parts 119 = .ok (.iload 4, 2) := by decide +kernel
theorem dX7_parts_121 : decode cX7_parts 121 = .ok (.iadd, 1) := by decide +kernel
theorem dX7_parts_122 : decode cX7_parts 122 = .ok (.iload 8, 2) := by decide +kernel
theorem dX7_parts_124 : decode cX7_parts 124 = .ok (.iadd, 1) := by decide +kernel
theorem dX7_parts_125 : decode cX7_parts 125 = .ok (.iaload, 1) := by decide +kernel
theorem dX7_parts_126 : decode cX7_parts 126 = .ok (.i2l, 1) := by decide +kernel
theorem dX7_parts_127 : decode cX7_parts 127 = .ok (.lload 9, 2) := by decide +kernel
theorem dX7_parts_129 : decode cX7_parts 129 = .ok (.lsub, 1) := by decide +kernel
theorem dX7_parts_130 : decode cX7_parts 130 = .ok (.lload 6, 2) := by decide +kernel
theorem dX7_parts_132 : decode cX7_parts 132 = .ok (.lsub, 1) := by decide +kernel
theorem dX7_parts_133 : decode cX7_parts 133 = .ok (.lstore 11, 2) := by decide +kernel
theorem dX7_parts_135 : decode cX7_parts 135 = .ok (.aload_n 0, 1) := by decide +kernel
theorem dX7_parts_136 : decode cX7_parts 136 = .ok (.getfield 26, 3) := by decide +kernel
theorem dX7_parts_139 : decode cX7_parts 139 = .ok (.bipush 40, 2) := by decide +kernel
theorem dX7_parts_141 : decode cX7_parts 141 = .ok (.iload_n 1, 1) := by decide +kernel
theorem dX7_parts_142 : decode cX7_parts 142 = .ok (.imul, 1) := by decide +kernel
theorem dX7_parts_143 : decode cX7_parts 143 = .ok (.iload 4, 2) := by decide +kernel
theorem dX7_parts_145 : decode cX7_parts 145 = .ok (.iadd, 1) := by decide +kernel
theorem dX7_parts_146 : decode cX7_parts 146 = .ok (.iload 8, 2) := by decide +kernel
theorem dX7_parts_148 : decode cX7_parts 148 = .ok (.iadd, 1) := by decide +kernel
theorem dX7_parts_149 : decode cX7_parts 149 = .ok (.lload 11, 2) := by decide +kernel
theorem dX7_parts_151 : decode cX7_parts 151 = .ok (.ldc2_w 68, 3) := by decide +kernel
theorem dX7_parts_154 : decode cX7_parts 154 = .ok (.land, 1) := by decide +kernel
theorem dX7_parts_155 : decode cX7_parts 155 = .ok (.l2i, 1) := by decide +kernel
theorem dX7_parts_156 : decode cX7_parts 156 = .ok (.iastore, 1) := by decide +kernel
theorem dX7_parts_157 : decode cX7_parts 157 = .ok (.lload 11, 2) := by decide +kernel
theorem dX7_parts_159 : decode cX7_parts 159 = .ok (.bipush 30, 2) := by decide +kernel
theorem dX7_parts_161 : decode cX7_parts 161 = .ok (.lshr, 1) := by decide +kernel
theorem dX7_parts_162 : decode cX7_parts 162 = .ok (.lneg, 1) := by decide +kernel
theorem dX7_parts_163 : decode cX7_parts 163 = .ok (.lstore 6, 2) := by decide +kernel
theorem dX7_parts_165 : decode cX7_parts 165 = .ok (.iinc 8 1, 3) := by decide +kernel
theorem dX7_parts_168 : decode cX7_parts 168 = .ok (.goto (-98), 3) := by decide +kernel
theorem dX7_parts_171 : decode cX7_parts 171 = .ok (.aload_n 0, 1) := by decide +kernel
theorem dX7_parts_172 : decode cX7_parts 172 = .ok (.getfield 26, 3) := by decide +kernel
theorem dX7_parts_175 : decode cX7_parts 175 = .ok (.sipush 160, 3) := by decide +kernel
theorem dX7_parts_178 : decode cX7_parts 178 = .ok (.iload 4, 2) := by decide +kernel
theorem dX7_parts_180 : decode cX7_parts 180 = .ok (.iadd, 1) := by decide +kernel
theorem dX7_parts_181 : decode cX7_parts 181 = .ok (.iload 5, 2) := by decide +kernel
theorem dX7_parts_183 : decode cX7_parts 183 = .ok (.iastore, 1) := by decide +kernel
theorem dX7_parts_184 : decode cX7_parts 184 = .ok (.iinc 4 1, 3) := by decide +kernel
theorem dX7_parts_187 : decode cX7_parts 187 = .ok (.goto (-148), 3) := by decide +kernel
theorem dX7_parts_190 : decode cX7_parts 190 = .ok (.iconst 0, 1) := by decide +kernel
theorem dX7_parts_191 : decode cX7_parts 191 = .ok (.istore 4, 2) := by decide +kernel
theorem dX7_parts_193 : decode cX7_parts 193 = .ok (.iload 4, 2) := by decide +kernel
theorem dX7_parts_195 : decode cX7_parts 195 = .ok (.iload_n 3, 1) := by decide +kernel
theorem dX7_parts_196 : decode cX7_parts 196 = .ok (.if_icmp .ge 32, 3) := by decide +kernel
theorem dX7_parts_199 : decode cX7_parts 199 = .ok (.aload_n 0, 1) := by decide +kernel
theorem dX7_parts_200 : decode cX7_parts 200 = .ok (.getfield 26, 3) := by decide +kernel
theorem dX7_parts_203 : decode cX7_parts 203 = .ok (.bipush 40, 2) := by decide +kernel
theorem dX7_parts_205 : decode cX7_parts 205 = .ok (.iload_n 1, 1) := by decide +kernel
theorem dX7_parts_206 : decode cX7_parts 206 = .ok (.imul, 1) := by decide +kernel
theorem dX7_parts_207 : decode cX7_parts 207 = .ok (.iload 4, 2) := by decide +kernel
theorem dX7_parts_209 : decode cX7_parts 209 = .ok (.iadd, 1) := by decide +kernel
theorem dX7_parts_210 : decode cX7_parts 210 = .ok (.aload_n 0, 1) := by decide +kernel
theorem dX7_parts_211 : decode cX7_parts 211 = .ok (.getfield 26, 3) := by decide +kernel
theorem dX7_parts_214 : decode cX7_parts 214 = .ok (.sipush 160, 3) := by decide +kernel
theorem dX7_parts_217 : decode cX7_parts 217 = .ok (.iload 4, 2) := by decide +kernel
theorem dX7_parts_219 : decode cX7_parts 219 = .ok (.iadd, 1) := by decide +kernel
theorem dX7_parts_220 : decode cX7_parts 220 = .ok (.iaload, 1) := by decide +kernel
theorem dX7_parts_221 : decode cX7_parts 221 = .ok (.iastore, 1) := by decide +kernel
theorem dX7_parts_222 : decode cX7_parts 222 = .ok (.iinc 4 1, 3) := by decide +kernel
theorem dX7_parts_225 : decode cX7_parts 225 = .ok (.goto (-32), 3) := by decide +kernel
theorem dX7_parts_228 : decode cX7_parts 228 = .ok (.aload_n 0, 1) := by decide +kernel
theorem dX7_parts_229 : decode cX7_parts 229 = .ok (.iload_n 1, 1) := by decide +kernel
theorem dX7_parts_230 : decode cX7_parts 230 = .ok (.invokevirtual 70, 3) := by decide +kernel
theorem dX7_parts_233 : decode cX7_parts 233 = .ok (.return_, 1) := by decide +kernel
theorem dX7_sign_0 : decode cX7_sign 0 = .ok (.iload_n 1, 1) := by decide +kernel
theorem dX7_sign_1 : decode cX7_sign 1 = .ok (.ifCond .ne 20, 3) := by decide +kernel
theorem dX7_sign_4 : decode cX7_sign 4 = .ok (.aload_n 0, 1) := by decide +kernel
theorem dX7_sign_5 : decode cX7_sign 5 = .ok (.getfield 29, 3) := by decide +kernel
theorem dX7_sign_8 : decode cX7_sign 8 = .ok (.iconst 0, 1) := by decide +kernel
theorem dX7_sign_9 : decode cX7_sign 9 = .ok (.iaload, 1) := by decide +kernel
theorem dX7_sign_10 : decode cX7_sign 10 = .ok (.ifCond .le 7, 3) := by decide +kernel
theorem dX7_sign_13 : decode cX7_sign 13 = .ok (.iconst 1, 1) := by decide +kernel
theorem dX7_sign_14 : decode cX7_sign 14 = .ok (.goto 39, 3) := by decide +kernel
theorem dX7_sign_17 : decode cX7_sign 17 = .ok (.iconst 0, 1) := by decide +kernel
theorem dX7_sign_18 : decode cX7_sign 18 = .ok (.goto 35, 3) := by decide +kernel
theorem dX7_sign_21 : decode cX7_sign 21 = .ok (.iload_n 1, 1) := by decide +kernel
theorem dX7_sign_22 : decode cX7_sign 22 = .ok (.iconst 1, 1) := by decide +kernel
theorem dX7_sign_23 : decode cX7_sign 23 = .ok (.if_icmp .ne 12, 3) := by decide +kernel
theorem dX7_sign_26 : decode cX7_sign 26 = .ok (.aload_n 0, 1) := by decide +kernel
theorem dX7_sign_27 : decode cX7_sign 27 = .ok (.getfield 29, 3) := by decide +kernel
theorem dX7_sign_30 : decode cX7_sign 30 = .ok (.iconst 0, 1) := by decide +kernel
theorem dX7_sign_31 : decode cX7_sign 31 = .ok (.iaload, 1) := by decide +kernel
theorem dX7_sign_32 : decode cX7_sign 32 = .ok (.goto 21, 3) := by decide +kernel
theorem dX7_sign_35 : decode cX7_sign 35 = .ok (.iload_n 1, 1) := by decide +kernel
theorem dX7_sign_36 : decode cX7_sign 36 = .ok (.iconst 2, 1) := by decide +kernel
theorem dX7_sign_37 : decode cX7_sign 37 = .ok (.if_icmp .ne 12, 3) := by decide +kernel
theorem dX7_sign_40 : decode cX7_sign 40 = .ok (.aload_n 0, 1) := by decide +kernel
theorem dX7_sign_41 : decode cX7_sign 41 = .ok (.getfield 29, 3) := by decide +kernel
theorem dX7_sign_44 : decode cX7_sign 44 = .ok (.iconst 1, 1) := by decide +kernel
theorem dX7_sign_45 : decode cX7_sign 45 = .ok (.iaload, 1) := by decide +kernel
theorem dX7_sign_46 : decode cX7_sign 46 = .ok (.goto 7, 3) := by decide +kernel
theorem dX7_sign_49 : decode cX7_sign 49 = .ok (.aload_n 0, 1) := by decide +kernel
theorem dX7_sign_50 : decode cX7_sign 50 = .ok (.invokevirtual 98, 3) := by decide +kernel
theorem dX7_sign_53 : decode cX7_sign 53 = .ok (.ireturn, 1) := by decide +kernel
theorem dX7_limb_0 : decode cX7_limb 0 = .ok (.iload_n 1, 1) := by decide +kernel
theorem dX7_limb_1 : decode cX7_limb 1 = .ok (.i2l, 1) := by decide +kernel
theorem dX7_limb_2 : decode cX7_limb 2 = .ok (.lconst 0, 1) := by decide +kernel
theorem dX7_limb_3 : decode cX7_limb 3 = .ok (.lconst 1, 1) := by decide +kernel
theorem dX7_limb_4 : decode cX7_limb 4 = .ok (.invokestatic 102, 3) := by decide +kernel
theorem dX7_limb_7 : decode cX7_limb 7 = .ok (.ifCond .eq 7, 3) := by decide +kernel
theorem dX7_limb_10 : decode cX7_limb 10 = .ok (.iload_n 2, 1) := by decide +kernel
theorem dX7_limb_11 : decode cX7_limb 11 = .ok (.ifCond .ge 8, 3) := by decide +kernel
theorem dX7_limb_14 : decode cX7_limb 14 = .ok (.aload_n 0, 1) := by decide +kernel
theorem dX7_limb_15 : decode cX7_limb 15 = .ok (.invokevirtual 98, 3) := by decide +kernel
theorem dX7_limb_18 : decode cX7_limb 18 = .ok (.ireturn, 1) := by decide +kernel
theorem dX7_limb_19 : decode cX7_limb 19 = .ok (.iload_n 2, 1) := by decide +kernel
theorem dX7_limb_20 : decode cX7_limb 20 = .ok (.aload_n 0, 1) := by decide +kernel
theorem dX7_limb_21 : decode cX7_limb 21 = .ok (.getfield 29, 3) := by decide +kernel
theorem dX7_limb_24 : decode cX7_limb 24 = .ok (.iload_n 1, 1) := by decide +kernel
theorem dX7_limb_25 : decode cX7_limb 25 = .ok (.iaload, 1) := by decide +kernel
theorem dX7_limb_26 : decode cX7_limb 26 = .ok (.if_icmp .ge 17, 3) := by decide +kernel
theorem dX7_limb_29 : decode cX7_limb 29 = .ok (.aload_n 0, 1) := by decide +kernel
theorem dX7_limb_30 : decode cX7_limb 30 = .ok (.getfield 26, 3) := by decide +kernel
theorem dX7_limb_33 : decode cX7_limb 33 = .ok (.bipush 40, 2) := by decide +kernel
theorem dX7_limb_35 : decode cX7_limb 35 = .ok (.iload_n 1, 1) := by decide +kernel
theorem dX7_limb_36 : decode cX7_limb 36 = .ok (.imul, 1) := by decide +kernel
theorem dX7_limb_37 : decode cX7_limb 37 = .ok (.iload_n 2, 1) := by decide +kernel
theorem dX7_limb_38 : decode cX7_limb 38 = .ok (.iadd, 1) := by decide +kernel
theorem dX7_limb_39 : decode cX7_limb 39 = .ok (.iaload, 1) := by decide +kernel
theorem dX7_limb_40 : decode cX7_limb 40 = .ok (.goto 4, 3) := by decide +kernel
theorem dX7_limb_43 : decode cX7_limb 43 = .ok (.iconst (-1), 1) := by decide +kernel
theorem dX7_limb_44 : decode cX7_limb 44 = .ok (.ireturn, 1) := by decide +kernel
theorem dX7_puts_0 : decode cX7_puts 0 = .ok (.aload_n 0, 1) := by decide +kernel
theorem dX7_puts_1 : decode cX7_puts 1 = .ok (.getfield 7, 3) := by decide +kernel
theorem dX7_puts_4 : decode cX7_puts 4 = .ok (.iload_n 1, 1) := by decide +kernel
theorem dX7_puts_5 : decode cX7_puts 5 = .ok (.iaload, 1) := by decide +kernel
theorem dX7_puts_6 : decode cX7_puts 6 = .ok (.istore_n 3, 1) := by decide +kernel
theorem dX7_puts_7 : decode cX7_puts 7 = .ok (.aload_n 0, 1) := by decide +kernel
theorem dX7_puts_8 : decode cX7_puts 8 = .ok (.getfield 7, 3) := by decide +kernel
theorem dX7_puts_11 : decode cX7_puts 11 = .ok (.iload_n 1, 1) := by decide +kernel
theorem dX7_puts_12 : decode cX7_puts 12 = .ok (.iload_n 2, 1) := by decide +kernel
theorem dX7_puts_13 : decode cX7_puts 13 = .ok (.iastore, 1) := by decide +kernel
theorem dX7_puts_14 : decode cX7_puts 14 = .ok (.iload_n 3, 1) := by decide +kernel
theorem dX7_puts_15 : decode cX7_puts 15 = .ok (.ireturn, 1) := by decide +kernel
theorem dX7_isCell_0 : decode cX7_isCell 0 = .ok (.iload_n 0, 1) := by decide +kernel
theorem dX7_isCell_1 : decode cX7_isCell 1 = .ok (.i2l, 1) := by decide +kernel
theorem dX7_isCell_2 : decode cX7_isCell 2 = .ok (.lconst 0, 1) := by decide +kernel
theorem dX7_isCell_3 : decode cX7_isCell 3 = .ok (.ldc2_w 106, 3) := by decide +kernel
theorem dX7_isCell_6 : decode cX7_isCell 6 = .ok (.invokestatic 102, 3) := by decide +kernel
theorem dX7_isCell_9 : decode cX7_isCell 9 = .ok (.ireturn, 1) := by decide +kernel
theorem dX7_isStuff_0 : decode cX7_isStuff 0 = .ok (.iload_n 1, 1) := by decide +kernel
theorem dX7_isStuff_1 : decode cX7_isStuff 1 = .ok (.i2l, 1) := by decide +kernel
theorem dX7_isStuff_2 : decode cX7_isStuff 2 = .ok (.lconst 0, 1) := by decide +kernel
theorem dX7_isStuff_3 : decode cX7_isStuff 3 = .ok (.aload_n 0, 1) := by decide +kernel
theorem dX7_isStuff_4 : decode cX7_isStuff 4 = .ok (.getfield 7, 3) := by decide +kernel
theorem dX7_isStuff_7 : decode cX7_isStuff 7 = .ok (.iconst 0, 1) := by decide +kernel
theorem dX7_isStuff_8 : decode cX7_isStuff 8 = .ok (.iaload, 1) := by decide +kernel
theorem dX7_isStuff_9 : decode cX7_isStuff 9 = .ok (.iconst 1, 1) := by decide +kernel
theorem dX7_isStuff_10 : decode cX7_isStuff 10 = .ok (.isub, 1) := by decide +kernel
theorem dX7_isStuff_11 : decode cX7_isStuff 11 = .ok (.i2l, 1) := by decide +kernel
theorem dX7_isStuff_12 : decode cX7_isStuff 12 = .ok (.invokestatic 102, 3) := by decide +kernel
theorem dX7_isStuff_15 : decode cX7_isStuff 15 = .ok (.ireturn, 1) := by decide +kernel
theorem dX7_ofStuff_0 : decode cX7_ofStuff 0 = .ok (.aload_n 0, 1) := by decide +kernel
theorem dX7_ofStuff_1 : decode cX7_ofStuff 1 = .ok (.getfield 7, 3) := by decide +kernel
theorem dX7_ofStuff_4 : decode cX7_ofStuff 4 = .ok (.bipush 40, 2) := by decide +kernel
theorem dX7_ofStuff_6 : decode cX7_ofStuff 6 = .ok (.iconst 4, 1) := by decide +kernel
theorem dX7_ofStuff_7 : decode cX7_ofStuff 7 = .ok (.iload_n 1, 1) := by decide +kernel
theorem dX7_ofStuff_8 : decode cX7_ofStuff 8 = .ok (.imul, 1) := by decide +kernel
theorem dX7_ofStuff_9 : decode cX7_ofStuff 9 = .ok (.iadd, 1) := by decide +kernel
theorem dX7_ofStuff_10 : decode cX7_ofStuff 10 = .ok (.iload_n 2, 1) := by decide +kernel
theorem dX7_ofStuff_11 : decode cX7_ofStuff 11 = .ok (.iadd, 1) := by decide +kernel
theorem dX7_ofStuff_12 : decode cX7_ofStuff 12 = .ok (.iaload, 1) := by decide +kernel
theorem dX7_ofStuff_13 : decode cX7_ofStuff 13 = .ok (.ireturn, 1) := by decide +kernel
theorem dX7_stuff_0 : decode cX7_stuff 0 = .ok (.iload_n 1, 1) := by decide +kernel
theorem dX7_stuff_1 : decode cX7_stuff 1 = .ok (.i2l, 1) := by decide +kernel
theorem dX7_stuff_2 : decode cX7_stuff 2 = .ok (.lconst 1, 1) := by decide +kernel
theorem dX7_stuff_3 : decode cX7_stuff 3 = .ok (.ldc2_w 108, 3) := by decide +kernel
theorem dX7_stuff_6 : decode cX7_stuff 6 = .ok (.invokestatic 102, 3) := by decide +kernel
theorem dX7_stuff_9 : decode cX7_stuff 9 = .ok (.ifCond .eq 40, 3) := by decide +kernel
theorem dX7_stuff_12 : decode cX7_stuff 12 = .ok (.iload_n 2, 1) := by decide +kernel
theorem dX7_stuff_13 : decode cX7_stuff 13 = .ok (.i2l, 1) := by decide +kernel
theorem dX7_stuff_14 : decode cX7_stuff 14 = .ok (.lconst 0, 1) := by decide +kernel
theorem dX7_stuff_15 : decode cX7_stuff 15 = .ok (.ldc2_w 110, 3) := by decide +kernel
theorem dX7_stuff_18 : decode cX7_stuff 18 = .ok (.invokestatic 102, 3) := by decide +kernel
theorem dX7_stuff_21 : decode cX7_stuff 21 = .ok (.ifCond .eq 28, 3) := by decide +kernel
theorem dX7_stuff_24 : decode cX7_stuff 24 = .ok (.iload_n 3, 1) := by decide +kernel
theorem dX7_stuff_25 : decode cX7_stuff 25 = .ok (.i2l, 1) := by decide +kernel
theorem dX7_stuff_26 : decode cX7_stuff 26 = .ok (.lconst 0, 1) := by decide +kernel
theorem dX7_stuff_27 : decode cX7_stuff 27 = .ok (.ldc2_w 112, 3) := by decide +kernel
theorem dX7_stuff_30 : decode cX7_stuff 30 = .ok (.invokestatic 102, 3) := by decide +kernel
theorem dX7_stuff_33 : decode cX7_stuff 33 = .ok (.ifCond .eq 16, 3) := by decide +kernel
theorem dX7_stuff_36 : decode cX7_stuff 36 = .ok (.iload 4, 2) := by decide +kernel
theorem dX7_stuff_38 : decode cX7_stuff 38 = .ok (.i2l, 1) := by decide +kernel
theorem dX7_stuff_39 : decode cX7_stuff 39 = .ok (.lconst 1, 1) := by decide +kernel
theorem dX7_stuff_40 : decode cX7_stuff 40 = .ok (.ldc2_w 110, 3) := by decide +kernel
theorem dX7_stuff_43 : decode cX7_stuff 43 = .ok (.invokestatic 102, 3) := by decide +kernel
theorem dX7_stuff_46 : decode cX7_stuff 46 = .ok (.ifCond .ne 8, 3) := by decide +kernel
theorem dX7_stuff_49 : decode cX7_stuff 49 = .ok (.aload_n 0, 1) := by decide +kernel
theorem dX7_stuff_50 : decode cX7_stuff 50 = .ok (.invokevirtual 98, 3) := by decide +kernel
theorem dX7_stuff_53 : decode cX7_stuff 53 = .ok (.ireturn, 1) := by decide +kernel
theorem dX7_stuff_54 : decode cX7_stuff 54 = .ok (.aload_n 0, 1) := by decide +kernel
theorem dX7_stuff_55 : decode cX7_stuff 55 = .ok (.getfield 7, 3) := by decide +kernel
theorem dX7_stuff_58 : decode cX7_stuff 58 = .ok (.iconst 0, 1) := by decide +kernel
theorem dX7_stuff_59 : decode cX7_stuff 59 = .ok (.iaload, 1) := by decide +kernel
theorem dX7_stuff_60 : decode cX7_stuff 60 = .ok (.iconst 4, 1) := by decide +kernel
theorem dX7_stuff_61 : decode cX7_stuff 61 = .ok (.if_icmp .ne 8, 3) := by decide +kernel
theorem dX7_stuff_64 : decode cX7_stuff 64 = .ok (.aload_n 0, 1) := by decide +kernel
theorem dX7_stuff_65 : decode cX7_stuff 65 = .ok (.invokevirtual 114, 3) := by decide +kernel
theorem dX7_stuff_68 : decode cX7_stuff 68 = .ok (.ireturn, 1) := by decide +kernel
theorem dX7_stuff_69 : decode cX7_stuff 69 = .ok (.bipush 40, 2) := by decide +kernel
theorem dX7_stuff_71 : decode cX7_stuff 71 = .ok (.iconst 4, 1) := by decide +kernel
theorem dX7_stuff_72 : decode cX7_stuff 72 = .ok (.aload_n 0, 1) := by decide +kernel
theorem dX7_stuff_73 : decode cX7_stuff 73 = .ok (.getfield 7, 3) := by decide +kernel
theorem dX7_stuff_76 : decode cX7_stuff 76 = .ok (.iconst 0, 1) := by decide +kernel
theorem dX7_stuff_77 : decode cX7_stuff 77 = .ok (.iaload, 1) := by decide +kernel
theorem dX7_stuff_78 : decode cX7_stuff 78 = .ok (.imul, 1) := by decide +kernel
theorem dX7_stuff_79 : decode cX7_stuff 79 = .ok (.iadd, 1) := by decide +kernel
theorem dX7_stuff_80 : decode cX7_stuff 80 = .ok (.istore 5, 2) := by decide +kernel
theorem dX7_stuff_82 : decode cX7_stuff 82 = .ok (.aload_n 0, 1) := by decide +kernel
theorem dX7_stuff_83 : decode cX7_stuff 83 = .ok (.getfield 7, 3) := by decide +kernel
theorem dX7_stuff_86 : decode cX7_stuff 86 = .ok (.iload 5, 2) := by decide +kernel
theorem dX7_stuff_88 : decode cX7_stuff 88 = .ok (.iload_n 1, 1) := by decide +kernel
theorem dX7_stuff_89 : decode cX7_stuff 89 = .ok (.iastore, 1) := by decide +kernel
theorem dX7_stuff_90 : decode cX7_stuff 90 = .ok (.aload_n 0, 1) := by decide +kernel
theorem dX7_stuff_91 : decode cX7_stuff 91 = .ok (.getfield 7, 3) := by decide +kernel
theorem dX7_stuff_94 : decode cX7_stuff 94 = .ok (.iload 5, 2) := by decide +kernel
theorem dX7_stuff_96 : decode cX7_stuff 96 = .ok (.iconst 1, 1) := by decide +kernel
theorem dX7_stuff_97 : decode cX7_stuff 97 = .ok (.iadd, 1) := by decide +kernel
theorem dX7_stuff_98 : decode cX7_stuff 98 = .ok (.iload_n 2, 1) := by decide +kernel
theorem dX7_stuff_99 : decode cX7_stuff 99 = .ok (.iastore, 1) := by decide +kernel
theorem dX7_stuff_100 : decode cX7_stuff 100 = .ok (.aload_n 0, 1) := by decide +kernel
theorem dX7_stuff_101 : decode cX7_stuff 101 = .ok (.getfield 7, 3) := by decide +kernel
theorem dX7_stuff_104 : decode cX7_stuff 104 = .ok (.iload 5, 2) := by decide +kernel
theorem dX7_stuff_106 : decode cX7_stuff 106 = .ok (.iconst 2, 1) := by decide +kernel
theorem dX7_stuff_107 : decode cX7_stuff 107 = .ok (.iadd, 1) := by decide +kernel
theorem dX7_stuff_108 : decode cX7_stuff 108 = .ok (.iload_n 3, 1) := by decide +kernel
theorem dX7_stuff_109 : decode cX7_stuff 109 = .ok (.iastore, 1) := by decide +kernel
theorem dX7_stuff_110 : decode cX7_stuff 110 = .ok (.aload_n 0, 1) := by decide +kernel
theorem dX7_stuff_111 : decode cX7_stuff 111 = .ok (.getfield 7, 3) := by decide +kernel
theorem dX7_stuff_114 : decode cX7_stuff 114 = .ok (.iload 5, 2) := by decide +kernel
theorem dX7_stuff_116 : decode cX7_stuff 116 = .ok (.iconst 3, 1) := by decide +kernel
theorem dX7_stuff_117 : decode cX7_stuff 117 = .ok (.iadd, 1) := by decide +kernel
theorem dX7_stuff_118 : decode cX7_stuff 118 = .ok (.iload 4, 2) := by decide +kernel
theorem dX7_stuff_120 : decode cX7_stuff 120 = .ok (.iastore, 1) := by decide +kernel
theorem dX7_stuff_121 : decode cX7_stuff 121 = .ok (.aload_n 0, 1) := by decide +kernel
theorem dX7_stuff_122 : decode cX7_stuff 122 = .ok (.getfield 7, 3) := by decide +kernel
theorem dX7_stuff_125 : decode cX7_stuff 125 = .ok (.iconst 0, 1) := by decide +kernel
theorem dX7_stuff_126 : decode cX7_stuff 126 = .ok (.dup2, 1) := by decide +kernel
theorem dX7_stuff_127 : decode cX7_stuff 127 = .ok (.iaload, 1) := by decide +kernel
theorem dX7_stuff_128 : decode cX7_stuff 128 = .ok (.iconst 1, 1) := by decide +kernel
theorem dX7_stuff_129 : decode cX7_stuff 129 = .ok (.iadd, 1) := by decide +kernel
theorem dX7_stuff_130 : decode cX7_stuff 130 = .ok (.iastore, 1) := by decide +kernel
theorem dX7_stuff_131 : decode cX7_stuff 131 = .ok (.aload_n 0, 1) := by decide +kernel
theorem dX7_stuff_132 : decode cX7_stuff 132 = .ok (.getfield 7, 3) := by decide +kernel
theorem dX7_stuff_135 : decode cX7_stuff 135 = .ok (.iconst 0, 1) := by decide +kernel
theorem dX7_stuff_136 : decode cX7_stuff 136 = .ok (.iaload, 1) := by decide +kernel
theorem dX7_stuff_137 : decode cX7_stuff 137 = .ok (.iconst 1, 1) := by decide +kernel
theorem dX7_stuff_138 : decode cX7_stuff 138 = .ok (.isub, 1) := by decide +kernel
theorem dX7_stuff_139 : decode cX7_stuff 139 = .ok (.ireturn, 1) := by decide +kernel
theorem dX7_put_0 : decode cX7_put 0 = .ok (.iload_n 1, 1) := by decide +kernel
theorem dX7_put_1 : decode cX7_put 1 = .ok (.i2l, 1) := by decide +kernel
theorem dX7_put_2 : decode cX7_put 2 = .ok (.lconst 0, 1) := by decide +kernel
theorem dX7_put_3 : decode cX7_put 3 = .ok (.ldc2_w 117, 3) := by decide +kernel
theorem dX7_put_6 : decode cX7_put 6 = .ok (.invokestatic 102, 3) := by decide +kernel
theorem dX7_put_9 : decode cX7_put 9 = .ok (.ifCond .eq 15, 3) := by decide +kernel
theorem dX7_put_12 : decode cX7_put 12 = .ok (.iload_n 2, 1) := by decide +kernel
theorem dX7_put_13 : decode cX7_put 13 = .ok (.i2l, 1) := by decide +kernel
theorem dX7_put_14 : decode cX7_put 14 = .ok (.lconst 0, 1) := by decide +kernel
theorem dX7_put_15 : decode cX7_put 15 = .ok (.ldc2_w 119, 3) := by decide +kernel
theorem dX7_put_18 : decode cX7_put 18 = .ok (.invokestatic 102, 3) := by decide +kernel
theorem dX7_put_21 : decode cX7_put 21 = .ok (.goto 60, 3) := by decide +kernel
theorem dX7_put_24 : decode cX7_put 24 = .ok (.iload_n 1, 1) := by decide +kernel
theorem dX7_put_25 : decode cX7_put 25 = .ok (.iconst 4, 1) := by decide +kernel
theorem dX7_put_26 : decode cX7_put 26 = .ok (.if_icmp .ne 15, 3) := by decide +kernel
theorem dX7_put_29 : decode cX7_put 29 = .ok (.iload_n 2, 1) := by decide +kernel
theorem dX7_put_30 : decode cX7_put 30 = .ok (.i2l, 1) := by decide +kernel
theorem dX7_put_31 : decode cX7_put 31 = .ok (.lconst 0, 1) := by decide +kernel
theorem dX7_put_32 : decode cX7_put 32 = .ok (.ldc2_w 108, 3) := by decide +kernel
theorem dX7_put_35 : decode cX7_put 35 = .ok (.invokestatic 102, 3) := by decide +kernel
theorem dX7_put_38 : decode cX7_put 38 = .ok (.goto 43, 3) := by decide +kernel
theorem dX7_put_41 : decode cX7_put 41 = .ok (.iload_n 1, 1) := by decide +kernel
theorem dX7_put_42 : decode cX7_put 42 = .ok (.iconst 5, 1) := by decide +kernel
theorem dX7_put_43 : decode cX7_put 43 = .ok (.if_icmp .ne 15, 3) := by decide +kernel
theorem dX7_put_46 : decode cX7_put 46 = .ok (.iload_n 2, 1) := by decide +kernel
theorem dX7_put_47 : decode cX7_put 47 = .ok (.i2l, 1) := by decide +kernel
theorem dX7_put_48 : decode cX7_put 48 = .ok (.lconst 0, 1) := by decide +kernel
theorem dX7_put_49 : decode cX7_put 49 = .ok (.ldc2_w 117, 3) := by decide +kernel
theorem dX7_put_52 : decode cX7_put 52 = .ok (.invokestatic 102, 3) := by decide +kernel
theorem dX7_put_55 : decode cX7_put 55 = .ok (.goto 26, 3) := by decide +kernel
theorem dX7_put_58 : decode cX7_put 58 = .ok (.iload_n 1, 1) := by decide +kernel
theorem dX7_put_59 : decode cX7_put 59 = .ok (.bipush 6, 2) := by decide +kernel
theorem dX7_put_61 : decode cX7_put 61 = .ok (.if_icmp .ne 19, 3) := by decide +kernel
theorem dX7_put_64 : decode cX7_put 64 = .ok (.iload_n 2, 1) := by decide +kernel
theorem dX7_put_65 : decode cX7_put 65 = .ok (.i2l, 1) := by decide +kernel
theorem dX7_put_66 : decode cX7_put 66 = .ok (.lconst 1, 1) := by decide +kernel
theorem dX7_put_67 : decode cX7_put 67 = .ok (.ldc2_w 110, 3) := by decide +kernel
theorem dX7_put_70 : decode cX7_put 70 = .ok (.invokestatic 102, 3) := by decide +kernel
theorem dX7_put_73 : decode cX7_put 73 = .ok (.ifCond .eq 7, 3) := by decide +kernel
theorem dX7_put_76 : decode cX7_put 76 = .ok (.iconst 1, 1) := by decide +kernel
theorem dX7_put_77 : decode cX7_put 77 = .ok (.goto 4, 3) := by decide +kernel
theorem dX7_put_80 : decode cX7_put 80 = .ok (.iconst 0, 1) := by decide +kernel
theorem dX7_put_81 : decode cX7_put 81 = .ok (.istore_n 3, 1) := by decide +kernel
theorem dX7_put_82 : decode cX7_put 82 = .ok (.iload_n 3, 1) := by decide +kernel
theorem dX7_put_83 : decode cX7_put 83 = .ok (.ifCond .eq 14, 3) := by decide +kernel
theorem dX7_put_86 : decode cX7_put 86 = .ok (.aload_n 0, 1) := by decide +kernel
theorem dX7_put_87 : decode cX7_put 87 = .ok (.iconst 2, 1) := by decide +kernel
theorem dX7_put_88 : decode cX7_put 88 = .ok (.iload_n 1, 1) := by decide +kernel
theorem dX7_put_89 : decode cX7_put 89 = .ok (.iadd, 1) := by decide +kernel
theorem dX7_put_90 : decode cX7_put 90 = .ok (.iload_n 2, 1) := by decide +kernel
theorem dX7_put_91 : decode cX7_put 91 = .ok (.invokevirtual 121, 3) := by decide +kernel
theorem dX7_put_94 : decode cX7_put 94 = .ok (.goto 7, 3) := by decide +kernel
theorem dX7_put_97 : decode cX7_put 97 = .ok (.aload_n 0, 1) := by decide +kernel
theorem dX7_put_98 : decode cX7_put 98 = .ok (.invokevirtual 98, 3) := by decide +kernel
theorem dX7_put_101 : decode cX7_put 101 = .ok (.ireturn, 1) := by decide +kernel
theorem dX7_habit_0 : decode cX7_habit 0 = .ok (.iload_n 1, 1) := by decide +kernel
theorem dX7_habit_1 : decode cX7_habit 1 = .ok (.i2l, 1) := by decide +kernel
theorem dX7_habit_2 : decode cX7_habit 2 = .ok (.lconst 0, 1) := by decide +kernel
theorem dX7_habit_3 : decode cX7_habit 3 = .ok (.ldc2_w 124, 3) := by decide +kernel
theorem dX7_habit_6 : decode cX7_habit 6 = .ok (.invokestatic 102, 3) := by decide +kernel
theorem dX7_habit_9 : decode cX7_habit 9 = .ok (.ifCond .eq 27, 3) := by decide +kernel
theorem dX7_habit_12 : decode cX7_habit 12 = .ok (.iload_n 2, 1) := by decide +kernel
theorem dX7_habit_13 : decode cX7_habit 13 = .ok (.i2l, 1) := by decide +kernel
theorem dX7_habit_14 : decode cX7_habit 14 = .ok (.lconst 0, 1) := by decide +kernel
theorem dX7_habit_15 : decode cX7_habit 15 = .ok (.ldc2_w 110, 3) := by decide +kernel
theorem dX7_habit_18 : decode cX7_habit 18 = .ok (.invokestatic 102, 3) := by decide +kernel
theorem dX7_habit_21 : decode cX7_habit 21 = .ok (.ifCond .eq 15, 3) := by decide +kernel
theorem dX7_habit_24 : decode cX7_habit 24 = .ok (.aload_n 0, 1) := by decide +kernel
theorem dX7_habit_25 : decode cX7_habit 25 = .ok (.bipush 10, 2) := by decide +kernel
theorem dX7_habit_27 : decode cX7_habit 27 = .ok (.iload_n 1, 1) := by decide +kernel
theorem dX7_habit_28 : decode cX7_habit 28 = .ok (.iadd, 1) := by decide +kernel
theorem dX7_habit_29 : decode cX7_habit 29 = .ok (.iload_n 2, 1) := by decide +kernel
theorem dX7_habit_30 : decode cX7_habit 30 = .ok (.invokevirtual 121, 3) := by decide +kernel
theorem dX7_habit_33 : decode cX7_habit 33 = .ok (.goto 7, 3) := by decide +kernel
theorem dX7_habit_36 : decode cX7_habit 36 = .ok (.aload_n 0, 1) := by decide +kernel
theorem dX7_habit_37 : decode cX7_habit 37 = .ok (.invokevirtual 98, 3) := by decide +kernel
theorem dX7_habit_40 : decode cX7_habit 40 = .ok (.ireturn, 1) := by decide +kernel
theorem dX7_isTrace_0 : decode cX7_isTrace 0 = .ok (.iload_n 2, 1) := by decide +kernel
theorem dX7_isTrace_1 : decode cX7_isTrace 1 = .ok (.tableswitch 106 0 6 #[43, 49, 49, 59, 59, 69, 96], 43) := by decide +kernel
theorem dX7_isTrace_44 : decode cX7_isTrace 44 = .ok (.aload_n 0, 1) := by decide +kernel
theorem dX7_isTrace_45 : decode cX7_isTrace 45 = .ok (.iload_n 3, 1) := by decide +kernel
theorem dX7_isTrace_46 : decode cX7_isTrace 46 = .ok (.invokevirtual 126, 3) := by decide +kernel
theorem dX7_isTrace_49 : decode cX7_isTrace 49 = .ok (.ireturn, 1) := by decide +kernel
theorem dX7_isTrace_50 : decode cX7_isTrace 50 = .ok (.iload_n 3, 1) := by decide +kernel
theorem dX7_isTrace_51 : decode cX7_isTrace 51 = .ok (.i2l, 1) := by decide +kernel
theorem dX7_isTrace_52 : decode cX7_isTrace 52 = .ok (.lconst 0, 1) := by decide +kernel
theorem dX7_isTrace_53 : decode cX7_isTrace 53 = .ok (.ldc2_w 117, 3) := by decide +kernel
theorem dX7_isTrace_56 : decode cX7_isTrace 56 = .ok (.invokestatic 102, 3) := by decide +kernel
theorem dX7_isTrace_59 : decode cX7_isTrace 59 = .ok (.ireturn, 1) := by decide +kernel
theorem dX7_isTrace_60 : decode cX7_isTrace 60 = .ok (.iload_n 3, 1) := by decide +kernel
theorem dX7_isTrace_61 : decode cX7_isTrace 61 = .ok (.i2l, 1) := by decide +kernel
theorem dX7_isTrace_62 : decode cX7_isTrace 62 = .ok (.lconst 0, 1) := by decide +kernel
theorem dX7_isTrace_63 : decode cX7_isTrace 63 = .ok (.ldc2_w 129, 3) := by decide +kernel
theorem dX7_isTrace_66 : decode cX7_isTrace 66 = .ok (.invokestatic 102, 3) := by decide +kernel
theorem dX7_isTrace_69 : decode cX7_isTrace 69 = .ok (.ireturn, 1) := by decide +kernel
theorem dX7_isTrace_70 : decode cX7_isTrace 70 = .ok (.iload_n 3, 1) := by decide +kernel
theorem dX7_isTrace_71 : decode cX7_isTrace 71 = .ok (.i2l, 1) := by decide +kernel
theorem dX7_isTrace_72 : decode cX7_isTrace 72 = .ok (.lconst 1, 1) := by decide +kernel
theorem dX7_isTrace_73 : decode cX7_isTrace 73 = .ok (.ldc2_w 129, 3) := by decide +kernel
theorem dX7_isTrace_76 : decode cX7_isTrace 76 = .ok (.invokestatic 102, 3) := by decide +kernel
theorem dX7_isTrace_79 : decode cX7_isTrace 79 = .ok (.ifCond .eq 16, 3) := by decide +kernel
theorem dX7_isTrace_82 : decode cX7_isTrace 82 = .ok (.iload_n 1, 1) := by decide +kernel
theorem dX7_isTrace_83 : decode cX7_isTrace 83 = .ok (.bipush 8, 2) := by decide +kernel
theorem dX7_isTrace_85 : decode cX7_isTrace 85 = .ok (.irem, 1) := by decide +kernel
theorem dX7_isTrace_86 : decode cX7_isTrace 86 = .ok (.bipush 7, 2) := by decide +kernel
theorem dX7_isTrace_88 : decode cX7_isTrace 88 = .ok (.if_icmp .eq 7, 3) := by decide +kernel
theorem dX7_isTrace_91 : decode cX7_isTrace 91 = .ok (.iconst 1, 1) := by decide +kernel
theorem dX7_isTrace_92 : decode cX7_isTrace 92 = .ok (.goto 4, 3) := by decide +kernel
theorem dX7_isTrace_95 : decode cX7_isTrace 95 = .ok (.iconst 0, 1) := by decide +kernel
theorem dX7_isTrace_96 : decode cX7_isTrace 96 = .ok (.ireturn, 1) := by decide +kernel
theorem dX7_isTrace_97 : decode cX7_isTrace 97 = .ok (.iload_n 3, 1) := by decide +kernel
theorem dX7_isTrace_98 : decode cX7_isTrace 98 = .ok (.ifCond .ne 7, 3) := by decide +kernel
theorem dX7_isTrace_101 : decode cX7_isTrace 101 = .ok (.iconst 1, 1) := by decide +kernel
theorem dX7_isTrace_102 : decode cX7_isTrace 102 = .ok (.goto 4, 3) := by decide +kernel
theorem dX7_isTrace_105 : decode cX7_isTrace 105 = .ok (.iconst 0, 1) := by decide +kernel
theorem dX7_isTrace_106 : decode cX7_isTrace 106 = .ok (.ireturn, 1) := by decide +kernel
theorem dX7_isTrace_107 : decode cX7_isTrace 107 = .ok (.iconst 0, 1) := by decide +kernel
theorem dX7_isTrace_108 : decode cX7_isTrace 108 = .ok (.ireturn, 1) := by decide +kernel
theorem dX7_trace_0 : decode cX7_trace 0 = .ok (.iload_n 1, 1) := by decide +kernel
theorem dX7_trace_1 : decode cX7_trace 1 = .ok (.invokestatic 131, 3) := by decide +kernel
theorem dX7_trace_4 : decode cX7_trace 4 = .ok (.ifCond .eq 13, 3) := by decide +kernel
theorem dX7_trace_7 : decode cX7_trace 7 = .ok (.aload_n 0, 1) := by decide +kernel
theorem dX7_trace_8 : decode cX7_trace 8 = .ok (.iload_n 1, 1) := by decide +kernel
theorem dX7_trace_9 : decode cX7_trace 9 = .ok (.iload_n 2, 1) := by decide +kernel
theorem dX7_trace_10 : decode cX7_trace 10 = .ok (.iload_n 3, 1) := by decide +kernel
theorem dX7_trace_11 : decode cX7_trace 11 = .ok (.invokevirtual 134, 3) := by decide +kernel
theorem dX7_trace_14 : decode cX7_trace 14 = .ok (.ifCond .ne 8, 3) := by decide +kernel
theorem dX7_trace_17 : decode cX7_trace 17 = .ok (.aload_n 0, 1) := by decide +kernel
theorem dX7_trace_18 : decode cX7_trace 18 = .ok (.invokevirtual 98, 3) := by decide +kernel
theorem dX7_trace_21 : decode cX7_trace 21 = .ok (.ireturn, 1) := by decide +kernel
theorem dX7_trace_22 : decode cX7_trace 22 = .ok (.aload_n 0, 1) := by decide +kernel
theorem dX7_trace_23 : decode cX7_trace 23 = .ok (.getfield 7, 3) := by decide +kernel
theorem dX7_trace_26 : decode cX7_trace 26 = .ok (.iconst 1, 1) := by decide +kernel
theorem dX7_trace_27 : decode cX7_trace 27 = .ok (.iaload, 1) := by decide +kernel
theorem dX7_trace_28 : decode cX7_trace 28 = .ok (.bipush 20, 2) := by decide +kernel
theorem dX7_trace_30 : decode cX7_trace 30 = .ok (.if_icmp .ne 8, 3) := by decide +kernel
theorem dX7_trace_33 : decode cX7_trace 33 = .ok (.aload_n 0, 1) := by decide +kernel
theorem dX7_trace_34 : decode cX7_trace 34 = .ok (.invokevirtual 114, 3) := by decide +kernel
theorem dX7_trace_37 : decode cX7_trace 37 = .ok (.ireturn, 1) := by decide +kernel
theorem dX7_trace_38 : decode cX7_trace 38 = .ok (.bipush 60, 2) := by decide +kernel
theorem dX7_trace_40 : decode cX7_trace 40 = .ok (.iconst 4, 1) := by decide +kernel
theorem dX7_trace_41 : decode cX7_trace 41 = .ok (.aload_n 0, 1) := by decide +kernel
theorem dX7_trace_42 : decode cX7_trace 42 = .ok (.getfield 7, 3) := by decide +kernel
theorem dX7_trace_45 : decode cX7_trace 45 = .ok (.iconst 1, 1) := by decide +kernel
theorem dX7_trace_46 : decode cX7_trace 46 = .ok (.iaload, 1) := by decide +kernel
theorem dX7_trace_47 : decode cX7_trace 47 = .ok (.imul, 1) := by decide +kernel
theorem dX7_trace_48 : decode cX7_trace 48 = .ok (.iadd, 1) := by decide +kernel
theorem dX7_trace_49 : decode cX7_trace 49 = .ok (.istore 4, 2) := by decide +kernel
theorem dX7_trace_51 : decode cX7_trace 51 = .ok (.aload_n 0, 1) := by decide +kernel
theorem dX7_trace_52 : decode cX7_trace 52 = .ok (.getfield 7, 3) := by decide +kernel
theorem dX7_trace_55 : decode cX7_trace 55 = .ok (.iload 4, 2) := by decide +kernel
theorem dX7_trace_57 : decode cX7_trace 57 = .ok (.iload_n 1, 1) := by decide +kernel
theorem dX7_trace_58 : decode cX7_trace 58 = .ok (.iastore, 1) := by decide +kernel
theorem dX7_trace_59 : decode cX7_trace 59 = .ok (.aload_n 0, 1) := by decide +kernel
theorem dX7_trace_60 : decode cX7_trace 60 = .ok (.getfield 7, 3) := by decide +kernel
theorem dX7_trace_63 : decode cX7_trace 63 = .ok (.iload 4, 2) := by decide +kernel
theorem dX7_trace_65 : decode cX7_trace 65 = .ok (.iconst 1, 1) := by decide +kernel
theorem dX7_trace_66 : decode cX7_trace 66 = .ok (.iadd, 1) := by decide +kernel
theorem dX7_trace_67 : decode cX7_trace 67 = .ok (.iload_n 2, 1) := by decide +kernel
theorem dX7_trace_68 : decode cX7_trace 68 = .ok (.iastore, 1) := by decide +kernel
theorem dX7_trace_69 : decode cX7_trace 69 = .ok (.aload_n 0, 1) := by decide +kernel
theorem dX7_trace_70 : decode cX7_trace 70 = .ok (.getfield 7, 3) := by decide +kernel
theorem dX7_trace_73 : decode cX7_trace 73 = .ok (.iload 4, 2) := by decide +kernel
theorem dX7_trace_75 : decode cX7_trace 75 = .ok (.iconst 2, 1) := by decide +kernel
theorem dX7_trace_76 : decode cX7_trace 76 = .ok (.iadd, 1) := by decide +kernel
theorem dX7_trace_77 : decode cX7_trace 77 = .ok (.iload_n 3, 1) := by decide +kernel
theorem dX7_trace_78 : decode cX7_trace 78 = .ok (.iastore, 1) := by decide +kernel
theorem dX7_trace_79 : decode cX7_trace 79 = .ok (.aload_n 0, 1) := by decide +kernel
theorem dX7_trace_80 : decode cX7_trace 80 = .ok (.getfield 7, 3) := by decide +kernel
theorem dX7_trace_83 : decode cX7_trace 83 = .ok (.iload 4, 2) := by decide +kernel
theorem dX7_trace_85 : decode cX7_trace 85 = .ok (.iconst 3, 1) := by decide +kernel
theorem dX7_trace_86 : decode cX7_trace 86 = .ok (.iadd, 1) := by decide +kernel
theorem dX7_trace_87 : decode cX7_trace 87 = .ok (.iconst 0, 1) := by decide +kernel
theorem dX7_trace_88 : decode cX7_trace 88 = .ok (.iastore, 1) := by decide +kernel
theorem dX7_trace_89 : decode cX7_trace 89 = .ok (.aload_n 0, 1) := by decide +kernel
theorem dX7_trace_90 : decode cX7_trace 90 = .ok (.getfield 7, 3) := by decide +kernel
theorem dX7_trace_93 : decode cX7_trace 93 = .ok (.iconst 1, 1) := by decide +kernel
theorem dX7_trace_94 : decode cX7_trace 94 = .ok (.dup2, 1) := by decide +kernel
theorem dX7_trace_95 : decode cX7_trace 95 = .ok (.iaload, 1) := by decide +kernel
theorem dX7_trace_96 : decode cX7_trace 96 = .ok (.iconst 1, 1) := by decide +kernel
theorem dX7_trace_97 : decode cX7_trace 97 = .ok (.iadd, 1) := by decide +kernel
theorem dX7_trace_98 : decode cX7_trace 98 = .ok (.iastore, 1) := by decide +kernel
theorem dX7_trace_99 : decode cX7_trace 99 = .ok (.aload_n 0, 1) := by decide +kernel
theorem dX7_trace_100 : decode cX7_trace 100 = .ok (.getfield 7, 3) := by decide +kernel
theorem dX7_trace_103 : decode cX7_trace 103 = .ok (.iconst 1, 1) := by decide +kernel
theorem dX7_trace_104 : decode cX7_trace 104 = .ok (.iaload, 1) := by decide +kernel
theorem dX7_trace_105 : decode cX7_trace 105 = .ok (.iconst 1, 1) := by decide +kernel
theorem dX7_trace_106 : decode cX7_trace 106 = .ok (.isub, 1) := by decide +kernel
theorem dX7_trace_107 : decode cX7_trace 107 = .ok (.ireturn, 1) := by decide +kernel
theorem dX7_ofTrace_0 : decode cX7_ofTrace 0 = .ok (.aload_n 0, 1) := by decide +kernel
theorem dX7_ofTrace_1 : decode cX7_ofTrace 1 = .ok (.getfield 7, 3) := by decide +kernel
theorem dX7_ofTrace_4 : decode cX7_ofTrace 4 = .ok (.bipush 60, 2) := by decide +kernel
theorem dX7_ofTrace_6 : decode cX7_ofTrace 6 = .ok (.iconst 4, 1) := by decide +kernel
theorem dX7_ofTrace_7 : decode cX7_ofTrace 7 = .ok (.iload_n 1, 1) := by decide +kernel
theorem dX7_ofTrace_8 : decode cX7_ofTrace 8 = .ok (.imul, 1) := by decide +kernel
theorem dX7_ofTrace_9 : decode cX7_ofTrace 9 = .ok (.iadd, 1) := by decide +kernel
theorem dX7_ofTrace_10 : decode cX7_ofTrace 10 = .ok (.iload_n 2, 1) := by decide +kernel
theorem dX7_ofTrace_11 : decode cX7_ofTrace 11 = .ok (.iadd, 1) := by decide +kernel
theorem dX7_ofTrace_12 : decode cX7_ofTrace 12 = .ok (.iaload, 1) := by decide +kernel
theorem dX7_ofTrace_13 : decode cX7_ofTrace 13 = .ok (.ireturn, 1) := by decide +kernel
theorem dX7_aside_0 : decode cX7_aside 0 = .ok (.iload_n 1, 1) := by decide +kernel
theorem dX7_aside_1 : decode cX7_aside 1 = .ok (.i2l, 1) := by decide +kernel
theorem dX7_aside_2 : decode cX7_aside 2 = .ok (.lconst 0, 1) := by decide +kernel
theorem dX7_aside_3 : decode cX7_aside 3 = .ok (.aload_n 0, 1) := by decide +kernel
theorem dX7_aside_4 : decode cX7_aside 4 = .ok (.getfield 7, 3) := by decide +kernel
theorem dX7_aside_7 : decode cX7_aside 7 = .ok (.iconst 1, 1) := by decide +kernel
theorem dX7_aside_8 : decode cX7_aside 8 = .ok (.iaload, 1) := by decide +kernel
theorem dX7_aside_9 : decode cX7_aside 9 = .ok (.iconst 1, 1) := by decide +kernel
theorem dX7_aside_10 : decode cX7_aside 10 = .ok (.isub, 1) := by decide +kernel
theorem dX7_aside_11 : decode cX7_aside 11 = .ok (.i2l, 1) := by decide +kernel
theorem dX7_aside_12 : decode cX7_aside 12 = .ok (.invokestatic 102, 3) := by decide +kernel
theorem dX7_aside_15 : decode cX7_aside 15 = .ok (.ifCond .ne 8, 3) := by decide +kernel
theorem dX7_aside_18 : decode cX7_aside 18 = .ok (.aload_n 0, 1) := by decide +kernel
theorem dX7_aside_19 : decode cX7_aside 19 = .ok (.invokevirtual 98, 3) := by decide +kernel
theorem dX7_aside_22 : decode cX7_aside 22 = .ok (.ireturn, 1) := by decide +kernel
theorem dX7_aside_23 : decode cX7_aside 23 = .ok (.aload_n 0, 1) := by decide +kernel
theorem dX7_aside_24 : decode cX7_aside 24 = .ok (.iload_n 1, 1) := by decide +kernel
theorem dX7_aside_25 : decode cX7_aside 25 = .ok (.iconst 3, 1) := by decide +kernel
theorem dX7_aside_26 : decode cX7_aside 26 = .ok (.invokevirtual 138, 3) := by decide +kernel
theorem dX7_aside_29 : decode cX7_aside 29 = .ok (.iconst 1, 1) := by decide +kernel
theorem dX7_aside_30 : decode cX7_aside 30 = .ok (.if_icmp .ne 7, 3) := by decide +kernel
theorem dX7_aside_33 : decode cX7_aside 33 = .ok (.iconst 1, 1) := by decide +kernel
theorem dX7_aside_34 : decode cX7_aside 34 = .ok (.goto 4, 3) := by decide +kernel
theorem dX7_aside_37 : decode cX7_aside 37 = .ok (.iconst 0, 1) := by decide +kernel
theorem dX7_aside_38 : decode cX7_aside 38 = .ok (.iload_n 2, 1) := by decide +kernel
theorem dX7_aside_39 : decode cX7_aside 39 = .ok (.if_icmp .ne 8, 3) := by decide +kernel
theorem dX7_aside_42 : decode cX7_aside 42 = .ok (.aload_n 0, 1) := by decide +kernel
theorem dX7_aside_43 : decode cX7_aside 43 = .ok (.invokevirtual 141, 3) := by decide +kernel
theorem dX7_aside_46 : decode cX7_aside 46 = .ok (.ireturn, 1) := by decide +kernel
theorem dX7_aside_47 : decode cX7_aside 47 = .ok (.aload_n 0, 1) := by decide +kernel
theorem dX7_aside_48 : decode cX7_aside 48 = .ok (.getfield 7, 3) := by decide +kernel
theorem dX7_aside_51 : decode cX7_aside 51 = .ok (.bipush 60, 2) := by decide +kernel
theorem dX7_aside_53 : decode cX7_aside 53 = .ok (.iconst 4, 1) := by decide +kernel
theorem dX7_aside_54 : decode cX7_aside 54 = .ok (.iload_n 1, 1) := by decide +kernel
theorem dX7_aside_55 : decode cX7_aside 55 = .ok (.imul, 1) := by decide +kernel
theorem dX7_aside_56 : decode cX7_aside 56 = .ok (.iadd, 1) := by decide +kernel
theorem dX7_aside_57 : decode cX7_aside 57 = .ok (.iconst 3, 1) := by decide +kernel
theorem dX7_aside_58 : decode cX7_aside 58 = .ok (.iadd, 1) := by decide +kernel
theorem dX7_aside_59 : decode cX7_aside 59 = .ok (.iload_n 2, 1) := by decide +kernel
theorem dX7_aside_60 : decode cX7_aside 60 = .ok (.ifCond .eq 7, 3) := by decide +kernel
theorem dX7_aside_63 : decode cX7_aside 63 = .ok (.iconst 1, 1) := by decide +kernel
theorem dX7_aside_64 : decode cX7_aside 64 = .ok (.goto 4, 3) := by decide +kernel
theorem dX7_aside_67 : decode cX7_aside 67 = .ok (.iconst 0, 1) := by decide +kernel
theorem dX7_aside_68 : decode cX7_aside 68 = .ok (.iastore, 1) := by decide +kernel
theorem dX7_aside_69 : decode cX7_aside 69 = .ok (.iconst 1, 1) := by decide +kernel
theorem dX7_aside_70 : decode cX7_aside 70 = .ok (.ireturn, 1) := by decide +kernel
theorem dX7_copy_0 : decode cX7_copy 0 = .ok (.iload_n 1, 1) := by decide +kernel
theorem dX7_copy_1 : decode cX7_copy 1 = .ok (.invokestatic 131, 3) := by decide +kernel
theorem dX7_copy_4 : decode cX7_copy 4 = .ok (.ifCond .eq 29, 3) := by decide +kernel
theorem dX7_copy_7 : decode cX7_copy 7 = .ok (.iload_n 2, 1) := by decide +kernel
theorem dX7_copy_8 : decode cX7_copy 8 = .ok (.iconst (-1), 1) := by decide +kernel
theorem dX7_copy_9 : decode cX7_copy 9 = .ok (.if_icmp .eq 11, 3) := by decide +kernel
theorem dX7_copy_12 : decode cX7_copy 12 = .ok (.aload_n 0, 1) := by decide +kernel
theorem dX7_copy_13 : decode cX7_copy 13 = .ok (.iload_n 2, 1) := by decide +kernel
theorem dX7_copy_14 : decode cX7_copy 14 = .ok (.invokevirtual 126, 3) := by decide +kernel
theorem dX7_copy_17 : decode cX7_copy 17 = .ok (.ifCond .eq 16, 3) := by decide +kernel
theorem dX7_copy_20 : decode cX7_copy 20 = .ok (.aload_n 0, 1) := by decide +kernel
theorem dX7_copy_21 : decode cX7_copy 21 = .ok (.sipush 150, 3) := by decide +kernel
theorem dX7_copy_24 : decode cX7_copy 24 = .ok (.iload_n 1, 1) := by decide +kernel
theorem dX7_copy_25 : decode cX7_copy 25 = .ok (.iadd, 1) := by decide +kernel
theorem dX7_copy_26 : decode cX7_copy 26 = .ok (.iload_n 2, 1) := by decide +kernel
theorem dX7_copy_27 : decode cX7_copy 27 = .ok (.invokevirtual 121, 3) := by decide +kernel
theorem dX7_copy_30 : decode cX7_copy 30 = .ok (.goto 10, 3) := by decide +kernel
theorem dX7_copy_33 : decode cX7_copy 33 = .ok (.aload_n 0, 1) := by decide +kernel
theorem dX7_copy_34 : decode cX7_copy 34 = .ok (.iconst 0, 1) := by decide +kernel
theorem dX7_copy_35 : decode cX7_copy 35 = .ok (.bipush (-10), 2) := by decide +kernel
theorem dX7_copy_37 : decode cX7_copy 37 = .ok (.invokevirtual 64, 3) := by decide +kernel
theorem dX7_copy_40 : decode cX7_copy 40 = .ok (.ireturn, 1) := by decide +kernel
theorem dX7_type_0 : decode cX7_type 0 = .ok (.iload_n 3, 1) := by decide +kernel
theorem dX7_type_1 : decode cX7_type 1 = .ok (.i2l, 1) := by decide +kernel
theorem dX7_type_2 : decode cX7_type 2 = .ok (.lconst 1, 1) := by decide +kernel
theorem dX7_type_3 : decode cX7_type 3 = .ok (.ldc2_w 144, 3) := by decide +kernel
theorem dX7_type_6 : decode cX7_type 6 = .ok (.invokestatic 102, 3) := by decide +kernel
theorem dX7_type_9 : decode cX7_type 9 = .ok (.ifCond .ne 8, 3) := by decide +kernel
theorem dX7_type_12 : decode cX7_type 12 = .ok (.aload_n 0, 1) := by decide +kernel
theorem dX7_type_13 : decode cX7_type 13 = .ok (.invokevirtual 98, 3) := by decide +kernel
theorem dX7_type_16 : decode cX7_type 16 = .ok (.ireturn, 1) := by decide +kernel
theorem dX7_type_17 : decode cX7_type 17 = .ok (.aload_n 0, 1) := by decide +kernel
theorem dX7_type_18 : decode cX7_type 18 = .ok (.getfield 146, 3) := by decide +kernel
theorem dX7_type_21 : decode cX7_type 21 = .ok (.iload_n 3, 1) := by decide +kernel
theorem dX7_type_22 : decode cX7_type 22 = .ok (.iadd, 1) := by decide +kernel
theorem dX7_type_23 : decode cX7_type 23 = .ok (.sipush 300, 3) := by decide +kernel
theorem dX7_type_26 : decode cX7_type 26 = .ok (.if_icmp .le 8, 3) := by decide +kernel
theorem dX7_type_29 : decode cX7_type 29 = .ok (.aload_n 0, 1) := by decide +kernel
theorem dX7_type_30 : decode cX7_type 30 = .ok (.invokevirtual 114, 3) := by decide +kernel
theorem dX7_type_33 : decode cX7_type 33 = .ok (.ireturn, 1) := by decide +kernel
theorem dX7_type_34 : decode cX7_type 34 = .ok (.iload_n 3, 1) := by decide +kernel
theorem dX7_type_35 : decode cX7_type 35 = .ok (.iconst 1, 1) := by decide +kernel
theorem dX7_type_36 : decode cX7_type 36 = .ok (.isub, 1) := by decide +kernel
theorem dX7_type_37 : decode cX7_type 37 = .ok (.istore 4, 2) := by decide +kernel
theorem dX7_type_39 : decode cX7_type 39 = .ok (.iload 4, 2) := by decide +kernel
theorem dX7_type_41 : decode cX7_type 41 = .ok (.ifCond .lt 40, 3) := by decide +kernel
theorem dX7_type_44 : decode cX7_type 44 = .ok (.aload_n 0, 1) := by decide +kernel
theorem dX7_type_45 : decode cX7_type 45 = .ok (.getfield 32, 3) := by decide +kernel
theorem dX7_type_48 : decode cX7_type 48 = .ok (.aload_n 0, 1) := by decide +kernel
theorem dX7_type_49 : decode cX7_type 49 = .ok (.getfield 146, 3) := by decide +kernel
theorem dX7_type_52 : decode cX7_type 52 = .ok (.lload_n 1, 1) := by decide +kernel
theorem dX7_type_53 : decode cX7_type 53 = .ok (.bipush 8, 2) := by decide +kernel
theorem dX7_type_55 : decode cX7_type 55 = .ok (.iload 4, 2) := by decide +kernel
theorem dX7_type_57 : decode cX7_type 57 = .ok (.imul, 1) := by decide +kernel
theorem dX7_type_58 : decode cX7_type 58 = .ok (.lshr, 1) := by decide +kernel
theorem dX7_type_59 : decode cX7_type 59 = .ok (.ldc2_w 150, 3) := by decide +kernel
theorem dX7_type_62 : decode cX7_type 62 = .ok (.land, 1) := by decide +kernel
theorem dX7_type_63 : decode cX7_type 63 = .ok (.l2i, 1) := by decide +kernel
theorem dX7_type_64 : decode cX7_type 64 = .ok (.iastore, 1) := by decide +kernel
theorem dX7_type_65 : decode cX7_type 65 = .ok (.aload_n 0, 1) := by decide +kernel
theorem dX7_type_66 : decode cX7_type 66 = .ok (.dup, 1) := by decide +kernel
theorem dX7_type_67 : decode cX7_type 67 = .ok (.getfield 146, 3) := by decide +kernel
theorem dX7_type_70 : decode cX7_type 70 = .ok (.iconst 1, 1) := by decide +kernel
theorem dX7_type_71 : decode cX7_type 71 = .ok (.iadd, 1) := by decide +kernel
theorem dX7_type_72 : decode cX7_type 72 = .ok (.putfield 146, 3) := by decide +kernel
theorem dX7_type_75 : decode cX7_type 75 = .ok (.iinc 4 (-1), 3) := by decide +kernel
theorem dX7_type_78 : decode cX7_type 78 = .ok (.goto (-39), 3) := by decide +kernel
theorem dX7_type_81 : decode cX7_type 81 = .ok (.aload_n 0, 1) := by decide +kernel
theorem dX7_type_82 : decode cX7_type 82 = .ok (.getfield 146, 3) := by decide +kernel
theorem dX7_type_85 : decode cX7_type 85 = .ok (.ireturn, 1) := by decide +kernel
theorem dX7_clear_0 : decode cX7_clear 0 = .ok (.aload_n 0, 1) := by decide +kernel
theorem dX7_clear_1 : decode cX7_clear 1 = .ok (.getfield 146, 3) := by decide +kernel
theorem dX7_clear_4 : decode cX7_clear 4 = .ok (.istore_n 1, 1) := by decide +kernel
theorem dX7_clear_5 : decode cX7_clear 5 = .ok (.aload_n 0, 1) := by decide +kernel
theorem dX7_clear_6 : decode cX7_clear 6 = .ok (.iconst 0, 1) := by decide +kernel
theorem dX7_clear_7 : decode cX7_clear 7 = .ok (.putfield 146, 3) := by decide +kernel
theorem dX7_clear_10 : decode cX7_clear 10 = .ok (.iload_n 1, 1) := by decide +kernel
theorem dX7_clear_11 : decode cX7_clear 11 = .ok (.ireturn, 1) := by decide +kernel
theorem dX7_isAt_0 : decode cX7_isAt 0 = .ok (.aload_n 0, 1) := by decide +kernel
theorem dX7_isAt_1 : decode cX7_isAt 1 = .ok (.getfield 152, 3) := by decide +kernel
theorem dX7_isAt_4 : decode cX7_isAt 4 = .ok (.aload_n 0, 1) := by decide +kernel
theorem dX7_isAt_5 : decode cX7_isAt 5 = .ok (.getfield 146, 3) := by decide +kernel
theorem dX7_isAt_8 : decode cX7_isAt 8 = .ok (.if_icmp .ge 27, 3) := by decide +kernel
theorem dX7_isAt_11 : decode cX7_isAt 11 = .ok (.aload_n 0, 1) := by decide +kernel
theorem dX7_isAt_12 : decode cX7_isAt 12 = .ok (.getfield 32, 3) := by decide +kernel
theorem dX7_isAt_15 : decode cX7_isAt 15 = .ok (.aload_n 0, 1) := by decide +kernel
theorem dX7_isAt_16 : decode cX7_isAt 16 = .ok (.getfield 152, 3) := by decide +kernel
theorem dX7_isAt_19 : decode cX7_isAt 19 = .ok (.iaload, 1) := by decide +kernel
theorem dX7_isAt_20 : decode cX7_isAt 20 = .ok (.i2l, 1) := by decide +kernel
theorem dX7_isAt_21 : decode cX7_isAt 21 = .ok (.iload_n 1, 1) := by decide +kernel
theorem dX7_isAt_22 : decode cX7_isAt 22 = .ok (.i2l, 1) := by decide +kernel
theorem dX7_isAt_23 : decode cX7_isAt 23 = .ok (.iload_n 2, 1) := by decide +kernel
theorem dX7_isAt_24 : decode cX7_isAt 24 = .ok (.i2l, 1) := by decide +kernel
theorem dX7_isAt_25 : decode cX7_isAt 25 = .ok (.invokestatic 102, 3) := by decide +kernel
theorem dX7_isAt_28 : decode cX7_isAt 28 = .ok (.ifCond .eq 7, 3) := by decide +kernel
theorem dX7_isAt_31 : decode cX7_isAt 31 = .ok (.iconst 1, 1) := by decide +kernel
theorem dX7_isAt_32 : decode cX7_isAt 32 = .ok (.goto 4, 3) := by decide +kernel
theorem dX7_isAt_35 : decode cX7_isAt 35 = .ok (.iconst 0, 1) := by decide +kernel
theorem dX7_isAt_36 : decode cX7_isAt 36 = .ok (.ireturn, 1) := by decide +kernel
theorem dX7_wordOf_0 : decode cX7_wordOf 0 = .ok (.lload_n 0, 1) := by decide +kernel
theorem dX7_wordOf_1 : decode cX7_wordOf 1 = .ok (.ldc2_w 155, 3) := by decide +kernel
theorem dX7_wordOf_4 : decode cX7_wordOf 4 = .ok (.lcmp, 1) := by decide +kernel
theorem dX7_wordOf_5 : decode cX7_wordOf 5 = .ok (.ifCond .ne 8, 3) := by decide +kernel
theorem dX7_wordOf_8 : decode cX7_wordOf 8 = .ok (.bipush 10, 2) := by decide +kernel
theorem dX7_wordOf_10 : decode cX7_wordOf 10 = .ok (.goto 82, 3) := by decide +kernel
theorem dX7_wordOf_13 : decode cX7_wordOf 13 = .ok (.lload_n 0, 1) := by decide +kernel
theorem dX7_wordOf_14 : decode cX7_wordOf 14 = .ok (.ldc2_w 157, 3) := by decide +kernel
theorem dX7_wordOf_17 : decode cX7_wordOf 17 = .ok (.lcmp, 1) := by decide +kernel
theorem dX7_wordOf_18 : decode cX7_wordOf 18 = .ok (.ifCond .ne 8, 3) := by decide +kernel
theorem dX7_wordOf_21 : decode cX7_wordOf 21 = .ok (.bipush 11, 2) := by decide +kernel
theorem dX7_wordOf_23 : decode cX7_wordOf 23 = .ok (.goto 69, 3) := by decide +kernel
theorem dX7_wordOf_26 : decode cX7_wordOf 26 = .ok (.lload_n 0, 1) := by decide +kernel
theorem dX7_wordOf_27 : decode cX7_wordOf 27 = .ok (.ldc2_w 159, 3) := by decide +kernel
theorem dX7_wordOf_30 : decode cX7_wordOf 30 = .ok (.lcmp, 1) := by decide +kernel
theorem dX7_wordOf_31 : decode cX7_wordOf 31 = .ok (.ifCond .ne 8, 3) := by decide +kernel
theorem dX7_wordOf_34 : decode cX7_wordOf 34 = .ok (.bipush 12, 2) := by decide +kernel
theorem dX7_wordOf_36 : decode cX7_wordOf 36 = .ok (.goto 56, 3) := by decide +kernel
theorem dX7_wordOf_39 : decode cX7_wordOf 39 = .ok (.lload_n 0, 1) := by decide +kernel
theorem dX7_wordOf_40 : decode cX7_wordOf 40 = .ok (.ldc2_w 161, 3) := by decide +kernel
theorem dX7_wordOf_43 : decode cX7_wordOf 43 = .ok (.lcmp, 1) := by decide +kernel
theorem dX7_wordOf_44 : decode cX7_wordOf 44 = .ok (.ifCond .ne 8, 3) := by decide +kernel
theorem dX7_wordOf_47 : decode cX7_wordOf 47 = .ok (.bipush 13, 2) := by decide +kernel
theorem dX7_wordOf_49 : decode cX7_wordOf 49 = .ok (.goto 43, 3) := by decide +kernel
theorem dX7_wordOf_52 : decode cX7_wordOf 52 = .ok (.lload_n 0, 1) := by decide +kernel
theorem dX7_wordOf_53 : decode cX7_wordOf 53 = .ok (.ldc2_w 163, 3) := by decide +kernel
theorem dX7_wordOf_56 : decode cX7_wordOf 56 = .ok (.lcmp, 1) := by decide +kernel
theorem dX7_wordOf_57 : decode cX7_wordOf 57 = .ok (.ifCond .ne 8, 3) := by decide +kernel
theorem dX7_wordOf_60 : decode cX7_wordOf 60 = .ok (.bipush 14, 2) := by decide +kernel
theorem dX7_wordOf_62 : decode cX7_wordOf 62 = .ok (.goto 30, 3) := by decide +kernel
theorem dX7_wordOf_65 : decode cX7_wordOf 65 = .ok (.lload_n 0, 1) := by decide +kernel
theorem dX7_wordOf_66 : decode cX7_wordOf 66 = .ok (.ldc2_w 165, 3) := by decide +kernel
theorem dX7_wordOf_69 : decode cX7_wordOf 69 = .ok (.lcmp, 1) := by decide +kernel
theorem dX7_wordOf_70 : decode cX7_wordOf 70 = .ok (.ifCond .ne 8, 3) := by decide +kernel
theorem dX7_wordOf_73 : decode cX7_wordOf 73 = .ok (.bipush 15, 2) := by decide +kernel
theorem dX7_wordOf_75 : decode cX7_wordOf 75 = .ok (.goto 17, 3) := by decide +kernel
theorem dX7_wordOf_78 : decode cX7_wordOf 78 = .ok (.lload_n 0, 1) := by decide +kernel
theorem dX7_wordOf_79 : decode cX7_wordOf 79 = .ok (.ldc2_w 167, 3) := by decide +kernel
theorem dX7_wordOf_82 : decode cX7_wordOf 82 = .ok (.lcmp, 1) := by decide +kernel
theorem dX7_wordOf_83 : decode cX7_wordOf 83 = .ok (.ifCond .ne 8, 3) := by decide +kernel
theorem dX7_wordOf_86 : decode cX7_wordOf 86 = .ok (.bipush 16, 2) := by decide +kernel
theorem dX7_wordOf_88 : decode cX7_wordOf 88 = .ok (.goto 4, 3) := by decide +kernel
theorem dX7_wordOf_91 : decode cX7_wordOf 91 = .ok (.iconst 1, 1) := by decide +kernel
theorem dX7_wordOf_92 : decode cX7_wordOf 92 = .ok (.istore_n 2, 1) := by decide +kernel
theorem dX7_wordOf_93 : decode cX7_wordOf 93 = .ok (.lload_n 0, 1) := by decide +kernel
theorem dX7_wordOf_94 : decode cX7_wordOf 94 = .ok (.ldc2_w 169, 3) := by decide +kernel
theorem dX7_wordOf_97 : decode cX7_wordOf 97 = .ok (.lcmp, 1) := by decide +kernel
theorem dX7_wordOf_98 : decode cX7_wordOf 98 = .ok (.ifCond .ne 8, 3) := by decide +kernel
theorem dX7_wordOf_101 : decode cX7_wordOf 101 = .ok (.bipush 20, 2) := by decide +kernel
theorem dX7_wordOf_103 : decode cX7_wordOf 103 = .ok (.goto 82, 3) := by decide +kernel
theorem dX7_wordOf_106 : decode cX7_wordOf 106 = .ok (.lload_n 0, 1) := by decide +kernel
theorem dX7_wordOf_107 : decode cX7_wordOf 107 = .ok (.ldc2_w 171, 3) := by decide +kernel
theorem dX7_wordOf_110 : decode cX7_wordOf 110 = .ok (.lcmp, 1) := by decide +kernel
theorem dX7_wordOf_111 : decode cX7_wordOf 111 = .ok (.ifCond .ne 8, 3) := by decide +kernel
theorem dX7_wordOf_114 : decode cX7_wordOf 114 = .ok (.bipush 21, 2) := by decide +kernel
theorem dX7_wordOf_116 : decode cX7_wordOf 116 = .ok (.goto 69, 3) := by decide +kernel
theorem dX7_wordOf_119 : decode cX7_wordOf 119 = .ok (.lload_n 0, 1) := by decide +kernel
theorem dX7_wordOf_120 : decode cX7_wordOf 120 = .ok (.ldc2_w 173, 3) := by decide +kernel
theorem dX7_wordOf_123 : decode cX7_wordOf 123 = .ok (.lcmp, 1) := by decide +kernel
theorem dX7_wordOf_124 : decode cX7_wordOf 124 = .ok (.ifCond .ne 8, 3) := by decide +kernel
theorem dX7_wordOf_127 : decode cX7_wordOf 127 = .ok (.bipush 22, 2) := by decide +kernel
theorem dX7_wordOf_129 : decode cX7_wordOf 129 = .ok (.goto 56, 3) := by decide +kernel
theorem dX7_wordOf_132 : decode cX7_wordOf 132 = .ok (.lload_n 0, 1) := by decide +kernel
theorem dX7_wordOf_133 : decode cX7_wordOf 133 = .ok (.ldc2_w 175, 3) := by decide +kernel
theorem dX7_wordOf_136 : decode cX7_wordOf 136 = .ok (.lcmp, 1) := by decide +kernel
theorem dX7_wordOf_137 : decode cX7_wordOf 137 = .ok (.ifCond .ne 8, 3) := by decide +kernel
theorem dX7_wordOf_140 : decode cX7_wordOf 140 = .ok (.bipush 23, 2) := by decide +kernel
theorem dX7_wordOf_142 : decode cX7_wordOf 142 = .ok (.goto 43, 3) := by decide +kernel
theorem dX7_wordOf_145 : decode cX7_wordOf 145 = .ok (.lload_n 0, 1) := by decide +kernel
theorem dX7_wordOf_146 : decode cX7_wordOf 146 = .ok (.ldc2_w 177, 3) := by decide +kernel
theorem dX7_wordOf_149 : decode cX7_wordOf 149 = .ok (.lcmp, 1) := by decide +kernel
theorem dX7_wordOf_150 : decode cX7_wordOf 150 = .ok (.ifCond .ne 8, 3) := by decide +kernel
theorem dX7_wordOf_153 : decode cX7_wordOf 153 = .ok (.bipush 24, 2) := by decide +kernel
theorem dX7_wordOf_155 : decode cX7_wordOf 155 = .ok (.goto 30, 3) := by decide +kernel
theorem dX7_wordOf_158 : decode cX7_wordOf 158 = .ok (.lload_n 0, 1) := by decide +kernel
theorem dX7_wordOf_159 : decode cX7_wordOf 159 = .ok (.ldc2_w 179, 3) := by decide +kernel
theorem dX7_wordOf_162 : decode cX7_wordOf 162 = .ok (.lcmp, 1) := by decide +kernel
theorem dX7_wordOf_163 : decode cX7_wordOf 163 = .ok (.ifCond .ne 8, 3) := by decide +kernel
theorem dX7_wordOf_166 : decode cX7_wordOf 166 = .ok (.bipush 25, 2) := by decide +kernel
theorem dX7_wordOf_168 : decode cX7_wordOf 168 = .ok (.goto 17, 3) := by decide +kernel
theorem dX7_wordOf_171 : decode cX7_wordOf 171 = .ok (.lload_n 0, 1) := by decide +kernel
theorem dX7_wordOf_172 : decode cX7_wordOf 172 = .ok (.ldc2_w 181, 3) := by decide +kernel
theorem dX7_wordOf_175 : decode cX7_wordOf 175 = .ok (.lcmp, 1) := by decide +kernel
theorem dX7_wordOf_176 : decode cX7_wordOf 176 = .ok (.ifCond .ne 8, 3) := by decide +kernel
theorem dX7_wordOf_179 : decode cX7_wordOf 179 = .ok (.bipush 26, 2) := by decide +kernel
theorem dX7_wordOf_181 : decode cX7_wordOf 181 = .ok (.goto 4, 3) := by decide +kernel
theorem dX7_wordOf_184 : decode cX7_wordOf 184 = .ok (.iconst 1, 1) := by decide +kernel
theorem dX7_wordOf_185 : decode cX7_wordOf 185 = .ok (.istore_n 3, 1) := by decide +kernel
theorem dX7_wordOf_186 : decode cX7_wordOf 186 = .ok (.iload_n 2, 1) := by decide +kernel
theorem dX7_wordOf_187 : decode cX7_wordOf 187 = .ok (.iconst 1, 1) := by decide +kernel
theorem dX7_wordOf_188 : decode cX7_wordOf 188 = .ok (.if_icmp .eq 7, 3) := by decide +kernel
theorem dX7_wordOf_191 : decode cX7_wordOf 191 = .ok (.iload_n 2, 1) := by decide +kernel
theorem dX7_wordOf_192 : decode cX7_wordOf 192 = .ok (.goto 4, 3) := by decide +kernel
theorem dX7_wordOf_195 : decode cX7_wordOf 195 = .ok (.iload_n 3, 1) := by decide +kernel
theorem dX7_wordOf_196 : decode cX7_wordOf 196 = .ok (.ireturn, 1) := by decide +kernel
theorem dX7_scans_0 : decode cX7_scans 0 = .ok (.aload_n 0, 1) := by decide +kernel
theorem dX7_scans_1 : decode cX7_scans 1 = .ok (.bipush 32, 2) := by decide +kernel
theorem dX7_scans_3 : decode cX7_scans 3 = .ok (.bipush 32, 2) := by decide +kernel
theorem dX7_scans_5 : decode cX7_scans 5 = .ok (.invokevirtual 183, 3) := by decide +kernel
theorem dX7_scans_8 : decode cX7_scans 8 = .ok (.ifCond .eq 16, 3) := by decide +kernel
theorem dX7_scans_11 : decode cX7_scans 11 = .ok (.aload_n 0, 1) := by decide +kernel
theorem dX7_scans_12 : decode cX7_scans 12 = .ok (.dup, 1) := by decide +kernel
theorem dX7_scans_13 : decode cX7_scans 13 = .ok (.getfield 152, 3) := by decide +kernel
theorem dX7_scans_16 : decode cX7_scans 16 = .ok (.iconst 1, 1) := by decide +kernel
theorem dX7_scans_17 : decode cX7_scans 17 = .ok (.iadd, 1) := by decide +kernel
theorem dX7_scans_18 : decode cX7_scans 18 = .ok (.putfield 152, 3) := by decide +kernel
theorem dX7_scans_21 : decode cX7_scans 21 = .ok (.goto (-21), 3) := by decide +kernel
theorem dX7_scans_24 : decode cX7_scans 24 = .ok (.aload_n 0, 1) := by decide +kernel
theorem dX7_scans_25 : decode cX7_scans 25 = .ok (.aload_n 0, 1) := by decide +kernel
theorem dX7_scans_26 : decode cX7_scans 26 = .ok (.getfield 152, 3) := by decide +kernel
theorem dX7_scans_29 : decode cX7_scans 29 = .ok (.putfield 187, 3) := by decide +kernel
theorem dX7_scans_32 : decode cX7_scans 32 = .ok (.aload_n 0, 1) := by decide +kernel
theorem dX7_scans_33 : decode cX7_scans 33 = .ok (.getfield 152, 3) := by decide +kernel
theorem dX7_scans_36 : decode cX7_scans 36 = .ok (.aload_n 0, 1) := by decide +kernel
theorem dX7_scans_37 : decode cX7_scans 37 = .ok (.getfield 146, 3) := by decide +kernel
theorem dX7_scans_40 : decode cX7_scans 40 = .ok (.if_icmp .ne 9, 3) := by decide +kernel
theorem dX7_scans_43 : decode cX7_scans 43 = .ok (.aload_n 0, 1) := by decide +kernel
theorem dX7_scans_44 : decode cX7_scans 44 = .ok (.iconst 0, 1) := by decide +kernel
theorem dX7_scans_45 : decode cX7_scans 45 = .ok (.putfield 190, 3) := by decide +kernel
theorem dX7_scans_48 : decode cX7_scans 48 = .ok (.return_, 1) := by decide +kernel
theorem dX7_scans_49 : decode cX7_scans 49 = .ok (.aload_n 0, 1) := by decide +kernel
theorem dX7_scans_50 : decode cX7_scans 50 = .ok (.bipush 97, 2) := by decide +kernel
theorem dX7_scans_52 : decode cX7_scans 52 = .ok (.bipush 122, 2) := by decide +kernel
theorem dX7_scans_54 : decode cX7_scans 54 = .ok (.invokevirtual 183, 3) := by decide +kernel
theorem dX7_scans_57 : decode cX7_scans 57 = .ok (.ifCond .eq 97, 3) := by decide +kernel
theorem dX7_scans_60 : decode cX7_scans 60 = .ok (.lconst 0, 1) := by decide +kernel
theorem dX7_scans_61 : decode cX7_scans 61 = .ok (.lstore_n 1, 1) := by decide +kernel
theorem dX7_scans_62 : decode cX7_scans 62 = .ok (.aload_n 0, 1) := by decide +kernel
theorem dX7_scans_63 : decode cX7_scans 63 = .ok (.bipush 97, 2) := by decide +kernel
theorem dX7_scans_65 : decode cX7_scans 65 = .ok (.bipush 122, 2) := by decide +kernel
theorem dX7_scans_67 : decode cX7_scans 67 = .ok (.invokevirtual 183, 3) := by decide +kernel
theorem dX7_scans_70 : decode cX7_scans 70 = .ok (.ifCond .eq 57, 3) := by decide +kernel
theorem dX7_scans_73 : decode cX7_scans 73 = .ok (.aload_n 0, 1) := by decide +kernel
theorem dX7_scans_74 : decode cX7_scans 74 = .ok (.getfield 152, 3) := by decide +kernel
theorem dX7_scans_77 : decode cX7_scans 77 = .ok (.aload_n 0, 1) := by decide +kernel
theorem dX7_scans_78 : decode cX7_scans 78 = .ok (.getfield 187, 3) := by decide +kernel
theorem dX7_scans_81 : decode cX7_scans 81 = .ok (.isub, 1) := by decide +kernel
theorem dX7_scans_82 : decode cX7_scans 82 = .ok (.bipush 6, 2) := by decide +kernel
theorem dX7_scans_84 : decode cX7_scans 84 = .ok (.if_icmp .le 7, 3) := by decide +kernel
theorem dX7_scans_87 : decode cX7_scans 87 = .ok (.lconst 0, 1) := by decide +kernel
theorem dX7_scans_88 : decode cX7_scans 88 = .ok (.goto 25, 3) := by decide +kernel
theorem dX7_scans_91 : decode cX7_scans 91 = .ok (.ldc2_w 193, 3) := by decide +kernel
theorem dX7_scans_94 : decode cX7_scans 94 = .ok (.lload_n 1, 1) := by decide +kernel
theorem dX7_scans_95 : decode cX7_scans 95 = .ok (.lmul, 1) := by decide +kernel
theorem dX7_scans_96 : decode cX7_scans 96 = .ok (.aload_n 0, 1) := by decide +kernel
theorem dX7_scans_97 : decode cX7_scans 97 = .ok (.getfield 32, 3) := by decide +kernel
theorem dX7_scans_100 : decode cX7_scans 100 = .ok (.aload_n 0, 1) := by decide +kernel
theorem dX7_scans_101 : decode cX7_scans 101 = .ok (.getfield 152, 3) := by decide +kernel
theorem dX7_scans_104 : decode cX7_scans 104 = .ok (.iaload, 1) := by decide +kernel
theorem dX7_scans_105 : decode cX7_scans 105 = .ok (.i2l, 1) := by decide +kernel
theorem dX7_scans_106 : decode cX7_scans 106 = .ok (.ladd, 1) := by decide +kernel
theorem dX7_scans_107 : decode cX7_scans 107 = .ok (.ldc2_w 195, 3) := by decide +kernel
theorem dX7_scans_110 : decode cX7_scans 110 = .ok (.lsub, 1) := by decide +kernel
theorem dX7_scans_111 : decode cX7_scans 111 = .ok (.lconst 1, 1) := by decide +kernel
theorem dX7_scans_112 : decode cX7_scans 112 = .ok (.ladd, 1) := by decide +kernel
theorem dX7_scans_113 : decode cX7_scans 113 = .ok (.lstore_n 1, 1) := by decide +kernel
theorem dX7_scans_114 : decode cX7_scans 114 = .ok (.aload_n 0, 1) := by decide +kernel
theorem dX7_scans_115 : decode cX7_scans 115 = .ok (.dup, 1) := by decide +kernel
theorem dX7_scans_116 : decode cX7_scans 116 = .ok (.getfield 152, 3) := by decide +kernel
theorem dX7_scans_119 : decode cX7_scans 119 = .ok (.iconst 1, 1) := by decide +kernel
theorem dX7_scans_120 : decode cX7_scans 120 = .ok (.iadd, 1) := by decide +kernel
theorem dX7_scans_121 : decode cX7_scans 121 = .ok (.putfield 152, 3) := by decide +kernel
theorem dX7_scans_124 : decode cX7_scans 124 = .ok (.goto (-62), 3) := by decide +kernel
theorem dX7_scans_127 : decode cX7_scans 127 = .ok (.aload_n 0, 1) := by decide +kernel
theorem dX7_scans_128 : decode cX7_scans 128 = .ok (.aload_n 0, 1) := by decide +kernel
theorem dX7_scans_129 : decode cX7_scans 129 = .ok (.getfield 152, 3) := by decide +kernel
theorem dX7_scans_132 : decode cX7_scans 132 = .ok (.aload_n 0, 1) := by decide +kernel
theorem dX7_scans_133 : decode cX7_scans 133 = .ok (.getfield 187, 3) := by decide +kernel
theorem dX7_scans_136 : decode cX7_scans 136 = .ok (.isub, 1) := by decide +kernel
theorem dX7_scans_137 : decode cX7_scans 137 = .ok (.bipush 6, 2) := by decide +kernel
theorem dX7_scans_139 : decode cX7_scans 139 = .ok (.if_icmp .le 7, 3) := by decide +kernel
theorem dX7_scans_142 : decode cX7_scans 142 = .ok (.iconst 1, 1) := by decide +kernel
theorem dX7_scans_143 : decode cX7_scans 143 = .ok (.goto 7, 3) := by decide +kernel
theorem dX7_scans_146 : decode cX7_scans 146 = .ok (.lload_n 1, 1) := by decide +kernel
theorem dX7_scans_147 : decode cX7_scans 147 = .ok (.invokestatic 197, 3) := by decide +kernel
theorem dX7_scans_150 : decode cX7_scans 150 = .ok (.putfield 190, 3) := by decide +kernel
theorem dX7_scans_153 : decode cX7_scans 153 = .ok (.return_, 1) := by decide +kernel
theorem dX7_scans_154 : decode cX7_scans 154 = .ok (.aload_n 0, 1) := by decide +kernel
theorem dX7_scans_155 : decode cX7_scans 155 = .ok (.bipush 48, 2) := by decide +kernel
theorem dX7_scans_157 : decode cX7_scans 157 = .ok (.bipush 57, 2) := by decide +kernel
theorem dX7_scans_159 : decode cX7_scans 159 = .ok (.invokevirtual 183, 3) := by decide +kernel
theorem dX7_scans_162 : decode cX7_scans 162 = .ok (.ifCond .eq 99, 3) := by decide +kernel
theorem dX7_scans_165 : decode cX7_scans 165 = .ok (.aload_n 0, 1) := by decide +kernel
theorem dX7_scans_166 : decode cX7_scans 166 = .ok (.iconst 0, 1) := by decide +kernel
theorem dX7_scans_167 : decode cX7_scans 167 = .ok (.putfield 201, 3) := by decide +kernel
theorem dX7_scans_170 : decode cX7_scans 170 = .ok (.aload_n 0, 1) := by decide +kernel
theorem dX7_scans_171 : decode cX7_scans 171 = .ok (.bipush 48, 2) := by decide +kernel
theorem dX7_scans_173 : decode cX7_scans 173 = .ok (.bipush 57, 2) := by decide +kernel
theorem dX7_scans_175 : decode cX7_scans 175 = .ok (.invokevirtual 183, 3) := by decide +kernel
theorem dX7_scans_178 : decode cX7_scans 178 = .ok (.ifCond .eq 60, 3) := by decide +kernel
theorem dX7_scans_181 : decode cX7_scans 181 = .ok (.aload_n 0, 1) := by decide +kernel
theorem dX7_scans_182 : decode cX7_scans 182 = .ok (.aload_n 0, 1) := by decide +kernel
theorem dX7_scans_183 : decode cX7_scans 183 = .ok (.getfield 152, 3) := by decide +kernel
theorem dX7_scans_186 : decode cX7_scans 186 = .ok (.aload_n 0, 1) := by decide +kernel
theorem dX7_scans_187 : decode cX7_scans 187 = .ok (.getfield 187, 3) := by decide +kernel
theorem dX7_scans_190 : decode cX7_scans 190 = .ok (.isub, 1) := by decide +kernel
theorem dX7_scans_191 : decode cX7_scans 191 = .ok (.iconst 3, 1) := by decide +kernel
theorem dX7_scans_192 : decode cX7_scans 192 = .ok (.if_icmp .ge 26, 3) := by decide +kernel
theorem dX7_scans_195 : decode cX7_scans 195 = .ok (.bipush 10, 2) := by decide +kernel

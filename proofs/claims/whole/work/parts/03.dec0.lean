theorem dX0_init_0 : decode cX0_init 0 = .ok (.aload_n 0, 1) := by decide +kernel
theorem dX0_init_1 : decode cX0_init 1 = .ok (.invokespecial 1, 3) := by decide +kernel
theorem dX0_init_4 : decode cX0_init 4 = .ok (.aload_n 0, 1) := by decide +kernel
theorem dX0_init_5 : decode cX0_init 5 = .ok (.new 7, 3) := by decide +kernel
theorem dX0_init_8 : decode cX0_init 8 = .ok (.dup, 1) := by decide +kernel
theorem dX0_init_9 : decode cX0_init 9 = .ok (.invokespecial 9, 3) := by decide +kernel
theorem dX0_init_12 : decode cX0_init 12 = .ok (.putfield 10, 3) := by decide +kernel
theorem dX0_init_15 : decode cX0_init 15 = .ok (.aload_n 0, 1) := by decide +kernel
theorem dX0_init_16 : decode cX0_init 16 = .ok (.new 7, 3) := by decide +kernel
theorem dX0_init_19 : decode cX0_init 19 = .ok (.dup, 1) := by decide +kernel
theorem dX0_init_20 : decode cX0_init 20 = .ok (.invokespecial 9, 3) := by decide +kernel
theorem dX0_init_23 : decode cX0_init 23 = .ok (.putfield 16, 3) := by decide +kernel
theorem dX0_init_26 : decode cX0_init 26 = .ok (.aload_n 0, 1) := by decide +kernel
theorem dX0_init_27 : decode cX0_init 27 = .ok (.new 7, 3) := by decide +kernel
theorem dX0_init_30 : decode cX0_init 30 = .ok (.dup, 1) := by decide +kernel
theorem dX0_init_31 : decode cX0_init 31 = .ok (.invokespecial 9, 3) := by decide +kernel
theorem dX0_init_34 : decode cX0_init 34 = .ok (.putfield 19, 3) := by decide +kernel
theorem dX0_init_37 : decode cX0_init 37 = .ok (.aload_n 0, 1) := by decide +kernel
theorem dX0_init_38 : decode cX0_init 38 = .ok (.new 7, 3) := by decide +kernel
theorem dX0_init_41 : decode cX0_init 41 = .ok (.dup, 1) := by decide +kernel
theorem dX0_init_42 : decode cX0_init 42 = .ok (.invokespecial 9, 3) := by decide +kernel
theorem dX0_init_45 : decode cX0_init 45 = .ok (.putfield 22, 3) := by decide +kernel
theorem dX0_init_48 : decode cX0_init 48 = .ok (.aload_n 0, 1) := by decide +kernel
theorem dX0_init_49 : decode cX0_init 49 = .ok (.getfield 16, 3) := by decide +kernel
theorem dX0_init_52 : decode cX0_init 52 = .ok (.lconst 1, 1) := by decide +kernel
theorem dX0_init_53 : decode cX0_init 53 = .ok (.invokevirtual 25, 3) := by decide +kernel
theorem dX0_init_56 : decode cX0_init 56 = .ok (.return_, 1) := by decide +kernel
theorem dX0_setTo_0 : decode cX0_setTo 0 = .ok (.aload_n 0, 1) := by decide +kernel
theorem dX0_setTo_1 : decode cX0_setTo 1 = .ok (.getfield 10, 3) := by decide +kernel
theorem dX0_setTo_4 : decode cX0_setTo 4 = .ok (.lload_n 1, 1) := by decide +kernel
theorem dX0_setTo_5 : decode cX0_setTo 5 = .ok (.invokevirtual 25, 3) := by decide +kernel
theorem dX0_setTo_8 : decode cX0_setTo 8 = .ok (.aload_n 0, 1) := by decide +kernel
theorem dX0_setTo_9 : decode cX0_setTo 9 = .ok (.getfield 16, 3) := by decide +kernel
theorem dX0_setTo_12 : decode cX0_setTo 12 = .ok (.lload_n 3, 1) := by decide +kernel
theorem dX0_setTo_13 : decode cX0_setTo 13 = .ok (.invokevirtual 25, 3) := by decide +kernel
theorem dX0_setTo_16 : decode cX0_setTo 16 = .ok (.aload_n 0, 1) := by decide +kernel
theorem dX0_setTo_17 : decode cX0_setTo 17 = .ok (.invokevirtual 29, 3) := by decide +kernel
theorem dX0_setTo_20 : decode cX0_setTo 20 = .ok (.return_, 1) := by decide +kernel
theorem dX0_setTo__0 : decode cX0_setTo_ 0 = .ok (.aload_n 0, 1) := by decide +kernel
theorem dX0_setTo__1 : decode cX0_setTo_ 1 = .ok (.getfield 10, 3) := by decide +kernel
theorem dX0_setTo__4 : decode cX0_setTo_ 4 = .ok (.aload_n 1, 1) := by decide +kernel
theorem dX0_setTo__5 : decode cX0_setTo_ 5 = .ok (.invokevirtual 32, 3) := by decide +kernel
theorem dX0_setTo__8 : decode cX0_setTo_ 8 = .ok (.aload_n 0, 1) := by decide +kernel
theorem dX0_setTo__9 : decode cX0_setTo_ 9 = .ok (.getfield 16, 3) := by decide +kernel
theorem dX0_setTo__12 : decode cX0_setTo_ 12 = .ok (.aload_n 2, 1) := by decide +kernel
theorem dX0_setTo__13 : decode cX0_setTo_ 13 = .ok (.invokevirtual 32, 3) := by decide +kernel
theorem dX0_setTo__16 : decode cX0_setTo_ 16 = .ok (.aload_n 0, 1) := by decide +kernel
theorem dX0_setTo__17 : decode cX0_setTo_ 17 = .ok (.invokevirtual 29, 3) := by decide +kernel
theorem dX0_setTo__20 : decode cX0_setTo_ 20 = .ok (.return_, 1) := by decide +kernel
theorem dX0_reduce_0 : decode cX0_reduce 0 = .ok (.aload_n 0, 1) := by decide +kernel
theorem dX0_reduce_1 : decode cX0_reduce 1 = .ok (.getfield 10, 3) := by decide +kernel
theorem dX0_reduce_4 : decode cX0_reduce 4 = .ok (.invokevirtual 36, 3) := by decide +kernel
theorem dX0_reduce_7 : decode cX0_reduce 7 = .ok (.ifCond .eq 12, 3) := by decide +kernel
theorem dX0_reduce_10 : decode cX0_reduce 10 = .ok (.aload_n 0, 1) := by decide +kernel
theorem dX0_reduce_11 : decode cX0_reduce 11 = .ok (.getfield 16, 3) := by decide +kernel
theorem dX0_reduce_14 : decode cX0_reduce 14 = .ok (.lconst 1, 1) := by decide +kernel
theorem dX0_reduce_15 : decode cX0_reduce 15 = .ok (.invokevirtual 25, 3) := by decide +kernel
theorem dX0_reduce_18 : decode cX0_reduce 18 = .ok (.return_, 1) := by decide +kernel
theorem dX0_reduce_19 : decode cX0_reduce 19 = .ok (.aload_n 0, 1) := by decide +kernel
theorem dX0_reduce_20 : decode cX0_reduce 20 = .ok (.getfield 10, 3) := by decide +kernel
theorem dX0_reduce_23 : decode cX0_reduce 23 = .ok (.invokevirtual 40, 3) := by decide +kernel
theorem dX0_reduce_26 : decode cX0_reduce 26 = .ok (.aload_n 0, 1) := by decide +kernel
theorem dX0_reduce_27 : decode cX0_reduce 27 = .ok (.getfield 16, 3) := by decide +kernel
theorem dX0_reduce_30 : decode cX0_reduce 30 = .ok (.invokevirtual 40, 3) := by decide +kernel
theorem dX0_reduce_33 : decode cX0_reduce 33 = .ok (.invokestatic 44, 3) := by decide +kernel
theorem dX0_reduce_36 : decode cX0_reduce 36 = .ok (.istore_n 1, 1) := by decide +kernel
theorem dX0_reduce_37 : decode cX0_reduce 37 = .ok (.aload_n 0, 1) := by decide +kernel
theorem dX0_reduce_38 : decode cX0_reduce 38 = .ok (.getfield 10, 3) := by decide +kernel
theorem dX0_reduce_41 : decode cX0_reduce 41 = .ok (.iload_n 1, 1) := by decide +kernel
theorem dX0_reduce_42 : decode cX0_reduce 42 = .ok (.invokevirtual 50, 3) := by decide +kernel
theorem dX0_reduce_45 : decode cX0_reduce 45 = .ok (.aload_n 0, 1) := by decide +kernel
theorem dX0_reduce_46 : decode cX0_reduce 46 = .ok (.getfield 16, 3) := by decide +kernel
theorem dX0_reduce_49 : decode cX0_reduce 49 = .ok (.iload_n 1, 1) := by decide +kernel
theorem dX0_reduce_50 : decode cX0_reduce 50 = .ok (.invokevirtual 50, 3) := by decide +kernel
theorem dX0_reduce_53 : decode cX0_reduce 53 = .ok (.aload_n 0, 1) := by decide +kernel
theorem dX0_reduce_54 : decode cX0_reduce 54 = .ok (.invokevirtual 54, 3) := by decide +kernel
theorem dX0_reduce_57 : decode cX0_reduce 57 = .ok (.aload_n 0, 1) := by decide +kernel
theorem dX0_reduce_58 : decode cX0_reduce 58 = .ok (.getfield 10, 3) := by decide +kernel
theorem dX0_reduce_61 : decode cX0_reduce 61 = .ok (.aload_n 0, 1) := by decide +kernel
theorem dX0_reduce_62 : decode cX0_reduce 62 = .ok (.getfield 19, 3) := by decide +kernel
theorem dX0_reduce_65 : decode cX0_reduce 65 = .ok (.invokevirtual 57, 3) := by decide +kernel
theorem dX0_reduce_68 : decode cX0_reduce 68 = .ok (.aload_n 0, 1) := by decide +kernel
theorem dX0_reduce_69 : decode cX0_reduce 69 = .ok (.getfield 16, 3) := by decide +kernel
theorem dX0_reduce_72 : decode cX0_reduce 72 = .ok (.aload_n 0, 1) := by decide +kernel
theorem dX0_reduce_73 : decode cX0_reduce 73 = .ok (.getfield 19, 3) := by decide +kernel
theorem dX0_reduce_76 : decode cX0_reduce 76 = .ok (.invokevirtual 57, 3) := by decide +kernel
theorem dX0_reduce_79 : decode cX0_reduce 79 = .ok (.return_, 1) := by decide +kernel
theorem dX0_findCommon_0 : decode cX0_findCommon 0 = .ok (.aload_n 0, 1) := by decide +kernel
theorem dX0_findCommon_1 : decode cX0_findCommon 1 = .ok (.getfield 19, 3) := by decide +kernel
theorem dX0_findCommon_4 : decode cX0_findCommon 4 = .ok (.aload_n 0, 1) := by decide +kernel
theorem dX0_findCommon_5 : decode cX0_findCommon 5 = .ok (.getfield 10, 3) := by decide +kernel
theorem dX0_findCommon_8 : decode cX0_findCommon 8 = .ok (.invokevirtual 32, 3) := by decide +kernel
theorem dX0_findCommon_11 : decode cX0_findCommon 11 = .ok (.aload_n 0, 1) := by decide +kernel
theorem dX0_findCommon_12 : decode cX0_findCommon 12 = .ok (.getfield 22, 3) := by decide +kernel
theorem dX0_findCommon_15 : decode cX0_findCommon 15 = .ok (.aload_n 0, 1) := by decide +kernel
theorem dX0_findCommon_16 : decode cX0_findCommon 16 = .ok (.getfield 16, 3) := by decide +kernel
theorem dX0_findCommon_19 : decode cX0_findCommon 19 = .ok (.invokevirtual 32, 3) := by decide +kernel
theorem dX0_findCommon_22 : decode cX0_findCommon 22 = .ok (.aload_n 0, 1) := by decide +kernel
theorem dX0_findCommon_23 : decode cX0_findCommon 23 = .ok (.getfield 19, 3) := by decide +kernel
theorem dX0_findCommon_26 : decode cX0_findCommon 26 = .ok (.aload_n 0, 1) := by decide +kernel
theorem dX0_findCommon_27 : decode cX0_findCommon 27 = .ok (.getfield 19, 3) := by decide +kernel
theorem dX0_findCommon_30 : decode cX0_findCommon 30 = .ok (.invokevirtual 40, 3) := by decide +kernel
theorem dX0_findCommon_33 : decode cX0_findCommon 33 = .ok (.invokevirtual 50, 3) := by decide +kernel
theorem dX0_findCommon_36 : decode cX0_findCommon 36 = .ok (.aload_n 0, 1) := by decide +kernel
theorem dX0_findCommon_37 : decode cX0_findCommon 37 = .ok (.getfield 22, 3) := by decide +kernel
theorem dX0_findCommon_40 : decode cX0_findCommon 40 = .ok (.aload_n 0, 1) := by decide +kernel
theorem dX0_findCommon_41 : decode cX0_findCommon 41 = .ok (.getfield 22, 3) := by decide +kernel
theorem dX0_findCommon_44 : decode cX0_findCommon 44 = .ok (.invokevirtual 40, 3) := by decide +kernel
theorem dX0_findCommon_47 : decode cX0_findCommon 47 = .ok (.invokevirtual 50, 3) := by decide +kernel
theorem dX0_findCommon_50 : decode cX0_findCommon 50 = .ok (.iconst 0, 1) := by decide +kernel
theorem dX0_findCommon_51 : decode cX0_findCommon 51 = .ok (.istore_n 1, 1) := by decide +kernel
theorem dX0_findCommon_52 : decode cX0_findCommon 52 = .ok (.iload_n 1, 1) := by decide +kernel
theorem dX0_findCommon_53 : decode cX0_findCommon 53 = .ok (.sipush 960, 3) := by decide +kernel
theorem dX0_findCommon_56 : decode cX0_findCommon 56 = .ok (.if_icmp .ge 69, 3) := by decide +kernel
theorem dX0_findCommon_59 : decode cX0_findCommon 59 = .ok (.aload_n 0, 1) := by decide +kernel
theorem dX0_findCommon_60 : decode cX0_findCommon 60 = .ok (.getfield 19, 3) := by decide +kernel
theorem dX0_findCommon_63 : decode cX0_findCommon 63 = .ok (.aload_n 0, 1) := by decide +kernel
theorem dX0_findCommon_64 : decode cX0_findCommon 64 = .ok (.getfield 22, 3) := by decide +kernel
theorem dX0_findCommon_67 : decode cX0_findCommon 67 = .ok (.invokevirtual 60, 3) := by decide +kernel
theorem dX0_findCommon_70 : decode cX0_findCommon 70 = .ok (.istore_n 2, 1) := by decide +kernel
theorem dX0_findCommon_71 : decode cX0_findCommon 71 = .ok (.iload_n 2, 1) := by decide +kernel
theorem dX0_findCommon_72 : decode cX0_findCommon 72 = .ok (.ifCond .ne 4, 3) := by decide +kernel
theorem dX0_findCommon_75 : decode cX0_findCommon 75 = .ok (.return_, 1) := by decide +kernel
theorem dX0_findCommon_76 : decode cX0_findCommon 76 = .ok (.iload_n 2, 1) := by decide +kernel
theorem dX0_findCommon_77 : decode cX0_findCommon 77 = .ok (.ifCond .le 10, 3) := by decide +kernel
theorem dX0_findCommon_80 : decode cX0_findCommon 80 = .ok (.aload_n 0, 1) := by decide +kernel
theorem dX0_findCommon_81 : decode cX0_findCommon 81 = .ok (.getfield 19, 3) := by decide +kernel
theorem dX0_findCommon_84 : decode cX0_findCommon 84 = .ok (.goto 7, 3) := by decide +kernel
theorem dX0_findCommon_87 : decode cX0_findCommon 87 = .ok (.aload_n 0, 1) := by decide +kernel
theorem dX0_findCommon_88 : decode cX0_findCommon 88 = .ok (.getfield 22, 3) := by decide +kernel
theorem dX0_findCommon_91 : decode cX0_findCommon 91 = .ok (.astore_n 3, 1) := by decide +kernel
theorem dX0_findCommon_92 : decode cX0_findCommon 92 = .ok (.aload_n 3, 1) := by decide +kernel
theorem dX0_findCommon_93 : decode cX0_findCommon 93 = .ok (.iload_n 2, 1) := by decide +kernel
theorem dX0_findCommon_94 : decode cX0_findCommon 94 = .ok (.ifCond .le 10, 3) := by decide +kernel
theorem dX0_findCommon_97 : decode cX0_findCommon 97 = .ok (.aload_n 0, 1) := by decide +kernel
theorem dX0_findCommon_98 : decode cX0_findCommon 98 = .ok (.getfield 22, 3) := by decide +kernel
theorem dX0_findCommon_101 : decode cX0_findCommon 101 = .ok (.goto 7, 3) := by decide +kernel
theorem dX0_findCommon_104 : decode cX0_findCommon 104 = .ok (.aload_n 0, 1) := by decide +kernel
theorem dX0_findCommon_105 : decode cX0_findCommon 105 = .ok (.getfield 19, 3) := by decide +kernel
theorem dX0_findCommon_108 : decode cX0_findCommon 108 = .ok (.invokevirtual 64, 3) := by decide +kernel
theorem dX0_findCommon_111 : decode cX0_findCommon 111 = .ok (.aload_n 3, 1) := by decide +kernel
theorem dX0_findCommon_112 : decode cX0_findCommon 112 = .ok (.aload_n 3, 1) := by decide +kernel
theorem dX0_findCommon_113 : decode cX0_findCommon 113 = .ok (.invokevirtual 40, 3) := by decide +kernel
theorem dX0_findCommon_116 : decode cX0_findCommon 116 = .ok (.invokevirtual 50, 3) := by decide +kernel
theorem dX0_findCommon_119 : decode cX0_findCommon 119 = .ok (.iinc 1 1, 3) := by decide +kernel
theorem dX0_findCommon_122 : decode cX0_findCommon 122 = .ok (.goto (-70), 3) := by decide +kernel
theorem dX0_findCommon_125 : decode cX0_findCommon 125 = .ok (.return_, 1) := by decide +kernel
theorem dX1_init_0 : decode cX1_init 0 = .ok (.aload_n 0, 1) := by decide +kernel
theorem dX1_init_1 : decode cX1_init 1 = .ok (.invokespecial 3, 3) := by decide +kernel
theorem dX1_init_4 : decode cX1_init 4 = .ok (.aload_n 0, 1) := by decide +kernel
theorem dX1_init_5 : decode cX1_init 5 = .ok (.bipush 21, 2) := by decide +kernel
theorem dX1_init_7 : decode cX1_init 7 = .ok (.newarray .int, 2) := by decide +kernel
theorem dX1_init_9 : decode cX1_init 9 = .ok (.putfield 9, 3) := by decide +kernel
theorem dX1_init_12 : decode cX1_init 12 = .ok (.aload_n 0, 1) := by decide +kernel
theorem dX1_init_13 : decode cX1_init 13 = .ok (.bipush 8, 2) := by decide +kernel
theorem dX1_init_15 : decode cX1_init 15 = .ok (.bipush 21, 2) := by decide +kernel
theorem dX1_init_17 : decode cX1_init 17 = .ok (.multianewarray 15 2, 4) := by decide +kernel
theorem dX1_init_21 : decode cX1_init 21 = .ok (.putfield 17, 3) := by decide +kernel
theorem dX1_init_24 : decode cX1_init 24 = .ok (.aload_n 0, 1) := by decide +kernel
theorem dX1_init_25 : decode cX1_init 25 = .ok (.bipush 8, 2) := by decide +kernel
theorem dX1_init_27 : decode cX1_init 27 = .ok (.bipush 21, 2) := by decide +kernel
theorem dX1_init_29 : decode cX1_init 29 = .ok (.multianewarray 15 2, 4) := by decide +kernel
theorem dX1_init_33 : decode cX1_init 33 = .ok (.putfield 20, 3) := by decide +kernel
theorem dX1_init_36 : decode cX1_init 36 = .ok (.aload_n 0, 1) := by decide +kernel
theorem dX1_init_37 : decode cX1_init 37 = .ok (.bipush 20, 2) := by decide +kernel
theorem dX1_init_39 : decode cX1_init 39 = .ok (.newarray .int, 2) := by decide +kernel
theorem dX1_init_41 : decode cX1_init 41 = .ok (.putfield 23, 3) := by decide +kernel
theorem dX1_init_44 : decode cX1_init 44 = .ok (.aload_n 0, 1) := by decide +kernel
theorem dX1_init_45 : decode cX1_init 45 = .ok (.bipush 20, 2) := by decide +kernel
theorem dX1_init_47 : decode cX1_init 47 = .ok (.newarray .int, 2) := by decide +kernel
theorem dX1_init_49 : decode cX1_init 49 = .ok (.putfield 26, 3) := by decide +kernel
theorem dX1_init_52 : decode cX1_init 52 = .ok (.aload_n 0, 1) := by decide +kernel
theorem dX1_init_53 : decode cX1_init 53 = .ok (.bipush 8, 2) := by decide +kernel
theorem dX1_init_55 : decode cX1_init 55 = .ok (.newarray .int, 2) := by decide +kernel
theorem dX1_init_57 : decode cX1_init 57 = .ok (.putfield 29, 3) := by decide +kernel
theorem dX1_init_60 : decode cX1_init 60 = .ok (.aload_n 0, 1) := by decide +kernel
theorem dX1_init_61 : decode cX1_init 61 = .ok (.bipush 8, 2) := by decide +kernel
theorem dX1_init_63 : decode cX1_init 63 = .ok (.bipush 21, 2) := by decide +kernel
theorem dX1_init_65 : decode cX1_init 65 = .ok (.multianewarray 32 2, 4) := by decide +kernel
theorem dX1_init_69 : decode cX1_init 69 = .ok (.putfield 34, 3) := by decide +kernel
theorem dX1_init_72 : decode cX1_init 72 = .ok (.aload_n 0, 1) := by decide +kernel
theorem dX1_init_73 : decode cX1_init 73 = .ok (.bipush 8, 2) := by decide +kernel
theorem dX1_init_75 : decode cX1_init 75 = .ok (.bipush 21, 2) := by decide +kernel
theorem dX1_init_77 : decode cX1_init 77 = .ok (.multianewarray 32 2, 4) := by decide +kernel
theorem dX1_init_81 : decode cX1_init 81 = .ok (.putfield 37, 3) := by decide +kernel
theorem dX1_init_84 : decode cX1_init 84 = .ok (.aload_n 0, 1) := by decide +kernel
theorem dX1_init_85 : decode cX1_init 85 = .ok (.bipush 8, 2) := by decide +kernel
theorem dX1_init_87 : decode cX1_init 87 = .ok (.bipush 21, 2) := by decide +kernel
theorem dX1_init_89 : decode cX1_init 89 = .ok (.multianewarray 32 2, 4) := by decide +kernel
theorem dX1_init_93 : decode cX1_init 93 = .ok (.putfield 40, 3) := by decide +kernel
theorem dX1_init_96 : decode cX1_init 96 = .ok (.aload_n 0, 1) := by decide +kernel
theorem dX1_init_97 : decode cX1_init 97 = .ok (.bipush 21, 2) := by decide +kernel
theorem dX1_init_99 : decode cX1_init 99 = .ok (.newarray .long, 2) := by decide +kernel
theorem dX1_init_101 : decode cX1_init 101 = .ok (.putfield 43, 3) := by decide +kernel
theorem dX1_init_104 : decode cX1_init 104 = .ok (.aload_n 0, 1) := by decide +kernel
theorem dX1_init_105 : decode cX1_init 105 = .ok (.iconst 4, 1) := by decide +kernel
theorem dX1_init_106 : decode cX1_init 106 = .ok (.newarray .long, 2) := by decide +kernel
theorem dX1_init_108 : decode cX1_init 108 = .ok (.putfield 47, 3) := by decide +kernel
theorem dX1_init_111 : decode cX1_init 111 = .ok (.return_, 1) := by decide +kernel
theorem dX1_look_0 : decode cX1_look 0 = .ok (.aload_n 0, 1) := by decide +kernel
theorem dX1_look_1 : decode cX1_look 1 = .ok (.aload_n 1, 1) := by decide +kernel
theorem dX1_look_2 : decode cX1_look 2 = .ok (.getfield 50, 3) := by decide +kernel
theorem dX1_look_5 : decode cX1_look 5 = .ok (.bipush 6, 2) := by decide +kernel
theorem dX1_look_7 : decode cX1_look 7 = .ok (.iaload, 1) := by decide +kernel
theorem dX1_look_8 : decode cX1_look 8 = .ok (.putfield 55, 3) := by decide +kernel
theorem dX1_look_11 : decode cX1_look 11 = .ok (.iconst 0, 1) := by decide +kernel
theorem dX1_look_12 : decode cX1_look 12 = .ok (.istore 4, 2) := by decide +kernel
theorem dX1_look_14 : decode cX1_look 14 = .ok (.iload 4, 2) := by decide +kernel
theorem dX1_look_16 : decode cX1_look 16 = .ok (.bipush 21, 2) := by decide +kernel
theorem dX1_look_18 : decode cX1_look 18 = .ok (.if_icmp .ge 36, 3) := by decide +kernel
theorem dX1_look_21 : decode cX1_look 21 = .ok (.aload_n 0, 1) := by decide +kernel
theorem dX1_look_22 : decode cX1_look 22 = .ok (.getfield 9, 3) := by decide +kernel
theorem dX1_look_25 : decode cX1_look 25 = .ok (.iload 4, 2) := by decide +kernel
theorem dX1_look_27 : decode cX1_look 27 = .ok (.aload_n 1, 1) := by decide +kernel
theorem dX1_look_28 : decode cX1_look 28 = .ok (.iload 4, 2) := by decide +kernel
theorem dX1_look_30 : decode cX1_look 30 = .ok (.invokevirtual 59, 3) := by decide +kernel
theorem dX1_look_33 : decode cX1_look 33 = .ok (.ifCond .eq 13, 3) := by decide +kernel
theorem dX1_look_36 : decode cX1_look 36 = .ok (.aload_n 1, 1) := by decide +kernel
theorem dX1_look_37 : decode cX1_look 37 = .ok (.getfield 63, 3) := by decide +kernel
theorem dX1_look_40 : decode cX1_look 40 = .ok (.iload 4, 2) := by decide +kernel
theorem dX1_look_42 : decode cX1_look 42 = .ok (.iaload, 1) := by decide +kernel
theorem dX1_look_43 : decode cX1_look 43 = .ok (.goto 4, 3) := by decide +kernel
theorem dX1_look_46 : decode cX1_look 46 = .ok (.iconst 0, 1) := by decide +kernel
theorem dX1_look_47 : decode cX1_look 47 = .ok (.iastore, 1) := by decide +kernel
theorem dX1_look_48 : decode cX1_look 48 = .ok (.iinc 4 1, 3) := by decide +kernel
theorem dX1_look_51 : decode cX1_look 51 = .ok (.goto (-37), 3) := by decide +kernel
theorem dX1_look_54 : decode cX1_look 54 = .ok (.iconst 0, 1) := by decide +kernel
theorem dX1_look_55 : decode cX1_look 55 = .ok (.istore 4, 2) := by decide +kernel
theorem dX1_look_57 : decode cX1_look 57 = .ok (.iload 4, 2) := by decide +kernel
theorem dX1_look_59 : decode cX1_look 59 = .ok (.bipush 8, 2) := by decide +kernel
theorem dX1_look_61 : decode cX1_look 61 = .ok (.if_icmp .ge 74, 3) := by decide +kernel
theorem dX1_look_64 : decode cX1_look 64 = .ok (.iconst 0, 1) := by decide +kernel
theorem dX1_look_65 : decode cX1_look 65 = .ok (.istore 5, 2) := by decide +kernel
theorem dX1_look_67 : decode cX1_look 67 = .ok (.iload 5, 2) := by decide +kernel
theorem dX1_look_69 : decode cX1_look 69 = .ok (.bipush 21, 2) := by decide +kernel
theorem dX1_look_71 : decode cX1_look 71 = .ok (.if_icmp .ge 58, 3) := by decide +kernel
theorem dX1_look_74 : decode cX1_look 74 = .ok (.aload_n 0, 1) := by decide +kernel
theorem dX1_look_75 : decode cX1_look 75 = .ok (.getfield 20, 3) := by decide +kernel
theorem dX1_look_78 : decode cX1_look 78 = .ok (.iload 4, 2) := by decide +kernel
theorem dX1_look_80 : decode cX1_look 80 = .ok (.aaload, 1) := by decide +kernel
theorem dX1_look_81 : decode cX1_look 81 = .ok (.iload 5, 2) := by decide +kernel
theorem dX1_look_83 : decode cX1_look 83 = .ok (.aload_n 2, 1) := by decide +kernel
theorem dX1_look_84 : decode cX1_look 84 = .ok (.getfield 66, 3) := by decide +kernel
theorem dX1_look_87 : decode cX1_look 87 = .ok (.iload 4, 2) := by decide +kernel
theorem dX1_look_89 : decode cX1_look 89 = .ok (.invokestatic 69, 3) := by decide +kernel
theorem dX1_look_92 : decode cX1_look 92 = .ok (.aaload, 1) := by decide +kernel
theorem dX1_look_93 : decode cX1_look 93 = .ok (.iload 5, 2) := by decide +kernel
theorem dX1_look_95 : decode cX1_look 95 = .ok (.iaload, 1) := by decide +kernel
theorem dX1_look_96 : decode cX1_look 96 = .ok (.iastore, 1) := by decide +kernel
theorem dX1_look_97 : decode cX1_look 97 = .ok (.aload_n 0, 1) := by decide +kernel
theorem dX1_look_98 : decode cX1_look 98 = .ok (.getfield 17, 3) := by decide +kernel
theorem dX1_look_101 : decode cX1_look 101 = .ok (.iload 4, 2) := by decide +kernel
theorem dX1_look_103 : decode cX1_look 103 = .ok (.aaload, 1) := by decide +kernel
theorem dX1_look_104 : decode cX1_look 104 = .ok (.iload 5, 2) := by decide +kernel
theorem dX1_look_106 : decode cX1_look 106 = .ok (.aload_n 0, 1) := by decide +kernel
theorem dX1_look_107 : decode cX1_look 107 = .ok (.getfield 9, 3) := by decide +kernel
theorem dX1_look_110 : decode cX1_look 110 = .ok (.iload 5, 2) := by decide +kernel
theorem dX1_look_112 : decode cX1_look 112 = .ok (.iaload, 1) := by decide +kernel
theorem dX1_look_113 : decode cX1_look 113 = .ok (.ifCond .ne 8, 3) := by decide +kernel
theorem dX1_look_116 : decode cX1_look 116 = .ok (.ldc 73, 2) := by decide +kernel
theorem dX1_look_118 : decode cX1_look 118 = .ok (.goto 4, 3) := by decide +kernel
theorem dX1_look_121 : decode cX1_look 121 = .ok (.iconst 0, 1) := by decide +kernel
theorem dX1_look_122 : decode cX1_look 122 = .ok (.iastore, 1) := by decide +kernel
theorem dX1_look_123 : decode cX1_look 123 = .ok (.iinc 5 1, 3) := by decide +kernel
theorem dX1_look_126 : decode cX1_look 126 = .ok (.goto (-59), 3) := by decide +kernel
theorem dX1_look_129 : decode cX1_look 129 = .ok (.iinc 4 1, 3) := by decide +kernel
theorem dX1_look_132 : decode cX1_look 132 = .ok (.goto (-75), 3) := by decide +kernel
theorem dX1_look_135 : decode cX1_look 135 = .ok (.aload_n 0, 1) := by decide +kernel
theorem dX1_look_136 : decode cX1_look 136 = .ok (.iconst 0, 1) := by decide +kernel
theorem dX1_look_137 : decode cX1_look 137 = .ok (.putfield 74, 3) := by decide +kernel
theorem dX1_look_140 : decode cX1_look 140 = .ok (.iconst 0, 1) := by decide +kernel
theorem dX1_look_141 : decode cX1_look 141 = .ok (.istore 4, 2) := by decide +kernel
theorem dX1_look_143 : decode cX1_look 143 = .ok (.iload 4, 2) := by decide +kernel
theorem dX1_look_145 : decode cX1_look 145 = .ok (.bipush 20, 2) := by decide +kernel
theorem dX1_look_147 : decode cX1_look 147 = .ok (.if_icmp .ge 58, 3) := by decide +kernel
theorem dX1_look_150 : decode cX1_look 150 = .ok (.aload_n 0, 1) := by decide +kernel
theorem dX1_look_151 : decode cX1_look 151 = .ok (.getfield 23, 3) := by decide +kernel
theorem dX1_look_154 : decode cX1_look 154 = .ok (.iload 4, 2) := by decide +kernel
theorem dX1_look_156 : decode cX1_look 156 = .ok (.iconst (-1), 1) := by decide +kernel
theorem dX1_look_157 : decode cX1_look 157 = .ok (.iastore, 1) := by decide +kernel
theorem dX1_look_158 : decode cX1_look 158 = .ok (.iload 4, 2) := by decide +kernel
theorem dX1_look_160 : decode cX1_look 160 = .ok (.aload_n 1, 1) := by decide +kernel
theorem dX1_look_161 : decode cX1_look 161 = .ok (.getfield 77, 3) := by decide +kernel
theorem dX1_look_164 : decode cX1_look 164 = .ok (.if_icmp .ge 35, 3) := by decide +kernel
theorem dX1_look_167 : decode cX1_look 167 = .ok (.aload_n 1, 1) := by decide +kernel
theorem dX1_look_168 : decode cX1_look 168 = .ok (.getfield 80, 3) := by decide +kernel
theorem dX1_look_171 : decode cX1_look 171 = .ok (.iload 4, 2) := by decide +kernel
theorem dX1_look_173 : decode cX1_look 173 = .ok (.iaload, 1) := by decide +kernel
theorem dX1_look_174 : decode cX1_look 174 = .ok (.ifCond .ne 25, 3) := by decide +kernel
theorem dX1_look_177 : decode cX1_look 177 = .ok (.aload_n 1, 1) := by decide +kernel
theorem dX1_look_178 : decode cX1_look 178 = .ok (.getfield 83, 3) := by decide +kernel
theorem dX1_look_181 : decode cX1_look 181 = .ok (.iload 4, 2) := by decide +kernel
theorem dX1_look_183 : decode cX1_look 183 = .ok (.iaload, 1) := by decide +kernel
theorem dX1_look_184 : decode cX1_look 184 = .ok (.bipush 8, 2) := by decide +kernel
theorem dX1_look_186 : decode cX1_look 186 = .ok (.idiv, 1) := by decide +kernel
theorem dX1_look_187 : decode cX1_look 187 = .ok (.iload_n 3, 1) := by decide +kernel
theorem dX1_look_188 : decode cX1_look 188 = .ok (.if_icmp .ne 11, 3) := by decide +kernel
theorem dX1_look_191 : decode cX1_look 191 = .ok (.aload_n 0, 1) := by decide +kernel
theorem dX1_look_192 : decode cX1_look 192 = .ok (.aload_n 1, 1) := by decide +kernel
theorem dX1_look_193 : decode cX1_look 193 = .ok (.aload_n 2, 1) := by decide +kernel
theorem dX1_look_194 : decode cX1_look 194 = .ok (.iload 4, 2) := by decide +kernel
theorem dX1_look_196 : decode cX1_look 196 = .ok (.invokevirtual 86, 3) := by decide +kernel
theorem dX1_look_199 : decode cX1_look 199 = .ok (.iinc 4 1, 3) := by decide +kernel
theorem dX1_look_202 : decode cX1_look 202 = .ok (.goto (-59), 3) := by decide +kernel
theorem dX1_look_205 : decode cX1_look 205 = .ok (.aload_n 0, 1) := by decide +kernel
theorem dX1_look_206 : decode cX1_look 206 = .ok (.iconst 0, 1) := by decide +kernel
theorem dX1_look_207 : decode cX1_look 207 = .ok (.invokevirtual 90, 3) := by decide +kernel
theorem dX1_look_210 : decode cX1_look 210 = .ok (.return_, 1) := by decide +kernel
theorem dX1_lookAtTrace_0 : decode cX1_lookAtTrace 0 = .ok (.aload_n 1, 1) := by decide +kernel
theorem dX1_lookAtTrace_1 : decode cX1_lookAtTrace 1 = .ok (.getfield 83, 3) := by decide +kernel
theorem dX1_lookAtTrace_4 : decode cX1_lookAtTrace 4 = .ok (.iload_n 3, 1) := by decide +kernel
theorem dX1_lookAtTrace_5 : decode cX1_lookAtTrace 5 = .ok (.iaload, 1) := by decide +kernel
theorem dX1_lookAtTrace_6 : decode cX1_lookAtTrace 6 = .ok (.bipush 8, 2) := by decide +kernel
theorem dX1_lookAtTrace_8 : decode cX1_lookAtTrace 8 = .ok (.irem, 1) := by decide +kernel
theorem dX1_lookAtTrace_9 : decode cX1_lookAtTrace 9 = .ok (.istore 4, 2) := by decide +kernel
theorem dX1_lookAtTrace_11 : decode cX1_lookAtTrace 11 = .ok (.aload_n 1, 1) := by decide +kernel
theorem dX1_lookAtTrace_12 : decode cX1_lookAtTrace 12 = .ok (.getfield 94, 3) := by decide +kernel
theorem dX1_lookAtTrace_15 : decode cX1_lookAtTrace 15 = .ok (.iload_n 3, 1) := by decide +kernel
theorem dX1_lookAtTrace_16 : decode cX1_lookAtTrace 16 = .ok (.iaload, 1) := by decide +kernel
theorem dX1_lookAtTrace_17 : decode cX1_lookAtTrace 17 = .ok (.istore 5, 2) := by decide +kernel
theorem dX1_lookAtTrace_19 : decode cX1_lookAtTrace 19 = .ok (.aload_n 0, 1) := by decide +kernel
theorem dX1_lookAtTrace_20 : decode cX1_lookAtTrace 20 = .ok (.dup, 1) := by decide +kernel
theorem dX1_lookAtTrace_21 : decode cX1_lookAtTrace 21 = .ok (.getfield 74, 3) := by decide +kernel
theorem dX1_lookAtTrace_24 : decode cX1_lookAtTrace 24 = .ok (.iconst 1, 1) := by decide +kernel
theorem dX1_lookAtTrace_25 : decode cX1_lookAtTrace 25 = .ok (.iload_n 3, 1) := by decide +kernel
theorem dX1_lookAtTrace_26 : decode cX1_lookAtTrace 26 = .ok (.ishl, 1) := by decide +kernel
theorem dX1_lookAtTrace_27 : decode cX1_lookAtTrace 27 = .ok (.ior, 1) := by decide +kernel
theorem dX1_lookAtTrace_28 : decode cX1_lookAtTrace 28 = .ok (.putfield 74, 3) := by decide +kernel
theorem dX1_lookAtTrace_31 : decode cX1_lookAtTrace 31 = .ok (.iload 5, 2) := by decide +kernel
theorem dX1_lookAtTrace_33 : decode cX1_lookAtTrace 33 = .ok (.iconst 5, 1) := by decide +kernel
theorem dX1_lookAtTrace_34 : decode cX1_lookAtTrace 34 = .ok (.if_icmp .ne 24, 3) := by decide +kernel
theorem dX1_lookAtTrace_37 : decode cX1_lookAtTrace 37 = .ok (.aload_n 0, 1) := by decide +kernel
theorem dX1_lookAtTrace_38 : decode cX1_lookAtTrace 38 = .ok (.getfield 23, 3) := by decide +kernel
theorem dX1_lookAtTrace_41 : decode cX1_lookAtTrace 41 = .ok (.iload_n 3, 1) := by decide +kernel
theorem dX1_lookAtTrace_42 : decode cX1_lookAtTrace 42 = .ok (.iload 4, 2) := by decide +kernel
theorem dX1_lookAtTrace_44 : decode cX1_lookAtTrace 44 = .ok (.iastore, 1) := by decide +kernel
theorem dX1_lookAtTrace_45 : decode cX1_lookAtTrace 45 = .ok (.aload_n 0, 1) := by decide +kernel
theorem dX1_lookAtTrace_46 : decode cX1_lookAtTrace 46 = .ok (.getfield 26, 3) := by decide +kernel
theorem dX1_lookAtTrace_49 : decode cX1_lookAtTrace 49 = .ok (.iload_n 3, 1) := by decide +kernel
theorem dX1_lookAtTrace_50 : decode cX1_lookAtTrace 50 = .ok (.aload_n 1, 1) := by decide +kernel
theorem dX1_lookAtTrace_51 : decode cX1_lookAtTrace 51 = .ok (.getfield 97, 3) := by decide +kernel
theorem dX1_lookAtTrace_54 : decode cX1_lookAtTrace 54 = .ok (.iload_n 3, 1) := by decide +kernel
theorem dX1_lookAtTrace_55 : decode cX1_lookAtTrace 55 = .ok (.iaload, 1) := by decide +kernel
theorem dX1_lookAtTrace_56 : decode cX1_lookAtTrace 56 = .ok (.iastore, 1) := by decide +kernel
theorem dX1_lookAtTrace_57 : decode cX1_lookAtTrace 57 = .ok (.return_, 1) := by decide +kernel
theorem dX1_lookAtTrace_58 : decode cX1_lookAtTrace 58 = .ok (.iconst 0, 1) := by decide +kernel
theorem dX1_lookAtTrace_59 : decode cX1_lookAtTrace 59 = .ok (.istore 6, 2) := by decide +kernel
theorem dX1_lookAtTrace_61 : decode cX1_lookAtTrace 61 = .ok (.iload 6, 2) := by decide +kernel
theorem dX1_lookAtTrace_63 : decode cX1_lookAtTrace 63 = .ok (.bipush 21, 2) := by decide +kernel
theorem dX1_lookAtTrace_65 : decode cX1_lookAtTrace 65 = .ok (.if_icmp .ge 47, 3) := by decide +kernel
theorem dX1_lookAtTrace_68 : decode cX1_lookAtTrace 68 = .ok (.aload_n 2, 1) := by decide +kernel
theorem dX1_lookAtTrace_69 : decode cX1_lookAtTrace 69 = .ok (.iload 5, 2) := by decide +kernel
theorem dX1_lookAtTrace_71 : decode cX1_lookAtTrace 71 = .ok (.aload_n 1, 1) := by decide +kernel
theorem dX1_lookAtTrace_72 : decode cX1_lookAtTrace 72 = .ok (.getfield 97, 3) := by decide +kernel
theorem dX1_lookAtTrace_75 : decode cX1_lookAtTrace 75 = .ok (.iload_n 3, 1) := by decide +kernel
theorem dX1_lookAtTrace_76 : decode cX1_lookAtTrace 76 = .ok (.iaload, 1) := by decide +kernel
theorem dX1_lookAtTrace_77 : decode cX1_lookAtTrace 77 = .ok (.iload 4, 2) := by decide +kernel
theorem dX1_lookAtTrace_79 : decode cX1_lookAtTrace 79 = .ok (.invokestatic 69, 3) := by decide +kernel
theorem dX1_lookAtTrace_82 : decode cX1_lookAtTrace 82 = .ok (.iload 6, 2) := by decide +kernel
theorem dX1_lookAtTrace_84 : decode cX1_lookAtTrace 84 = .ok (.invokevirtual 100, 3) := by decide +kernel
theorem dX1_lookAtTrace_87 : decode cX1_lookAtTrace 87 = .ok (.ifCond .ne 19, 3) := by decide +kernel
theorem dX1_lookAtTrace_90 : decode cX1_lookAtTrace 90 = .ok (.aload_n 0, 1) := by decide +kernel
theorem dX1_lookAtTrace_91 : decode cX1_lookAtTrace 91 = .ok (.getfield 17, 3) := by decide +kernel
theorem dX1_lookAtTrace_94 : decode cX1_lookAtTrace 94 = .ok (.iload 4, 2) := by decide +kernel
theorem dX1_lookAtTrace_96 : decode cX1_lookAtTrace 96 = .ok (.aaload, 1) := by decide +kernel
theorem dX1_lookAtTrace_97 : decode cX1_lookAtTrace 97 = .ok (.iload 6, 2) := by decide +kernel
theorem dX1_lookAtTrace_99 : decode cX1_lookAtTrace 99 = .ok (.dup2, 1) := by decide +kernel
theorem dX1_lookAtTrace_100 : decode cX1_lookAtTrace 100 = .ok (.iaload, 1) := by decide +kernel
theorem dX1_lookAtTrace_101 : decode cX1_lookAtTrace 101 = .ok (.iconst 1, 1) := by decide +kernel
theorem dX1_lookAtTrace_102 : decode cX1_lookAtTrace 102 = .ok (.iload_n 3, 1) := by decide +kernel
theorem dX1_lookAtTrace_103 : decode cX1_lookAtTrace 103 = .ok (.ishl, 1) := by decide +kernel
theorem dX1_lookAtTrace_104 : decode cX1_lookAtTrace 104 = .ok (.ior, 1) := by decide +kernel
theorem dX1_lookAtTrace_105 : decode cX1_lookAtTrace 105 = .ok (.iastore, 1) := by decide +kernel
theorem dX1_lookAtTrace_106 : decode cX1_lookAtTrace 106 = .ok (.iinc 6 1, 3) := by decide +kernel
theorem dX1_lookAtTrace_109 : decode cX1_lookAtTrace 109 = .ok (.goto (-48), 3) := by decide +kernel
theorem dX1_lookAtTrace_112 : decode cX1_lookAtTrace 112 = .ok (.return_, 1) := by decide +kernel
theorem dX1_isFree_0 : decode cX1_isFree 0 = .ok (.aload_n 0, 1) := by decide +kernel
theorem dX1_isFree_1 : decode cX1_isFree 1 = .ok (.getfield 17, 3) := by decide +kernel
theorem dX1_isFree_4 : decode cX1_isFree 4 = .ok (.iload_n 1, 1) := by decide +kernel
theorem dX1_isFree_5 : decode cX1_isFree 5 = .ok (.aaload, 1) := by decide +kernel
theorem dX1_isFree_6 : decode cX1_isFree 6 = .ok (.iload_n 2, 1) := by decide +kernel
theorem dX1_isFree_7 : decode cX1_isFree 7 = .ok (.iaload, 1) := by decide +kernel
theorem dX1_isFree_8 : decode cX1_isFree 8 = .ok (.ldc 104, 2) := by decide +kernel
theorem dX1_isFree_10 : decode cX1_isFree 10 = .ok (.iand, 1) := by decide +kernel
theorem dX1_isFree_11 : decode cX1_isFree 11 = .ok (.ifCond .ne 7, 3) := by decide +kernel
theorem dX1_isFree_14 : decode cX1_isFree 14 = .ok (.iconst 1, 1) := by decide +kernel
theorem dX1_isFree_15 : decode cX1_isFree 15 = .ok (.goto 4, 3) := by decide +kernel
theorem dX1_isFree_18 : decode cX1_isFree 18 = .ok (.iconst 0, 1) := by decide +kernel
theorem dX1_isFree_19 : decode cX1_isFree 19 = .ok (.ireturn, 1) := by decide +kernel
theorem dX1_findSteps_0 : decode cX1_findSteps 0 = .ok (.iconst 0, 1) := by decide +kernel
theorem dX1_findSteps_1 : decode cX1_findSteps 1 = .ok (.istore_n 2, 1) := by decide +kernel
theorem dX1_findSteps_2 : decode cX1_findSteps 2 = .ok (.iload_n 2, 1) := by decide +kernel
theorem dX1_findSteps_3 : decode cX1_findSteps 3 = .ok (.bipush 8, 2) := by decide +kernel
theorem dX1_findSteps_5 : decode cX1_findSteps 5 = .ok (.if_icmp .ge 16, 3) := by decide +kernel
theorem dX1_findSteps_8 : decode cX1_findSteps 8 = .ok (.aload_n 0, 1) := by decide +kernel
theorem dX1_findSteps_9 : decode cX1_findSteps 9 = .ok (.getfield 29, 3) := by decide +kernel
theorem dX1_findSteps_12 : decode cX1_findSteps 12 = .ok (.iload_n 2, 1) := by decide +kernel
theorem dX1_findSteps_13 : decode cX1_findSteps 13 = .ok (.iconst 0, 1) := by decide +kernel
theorem dX1_findSteps_14 : decode cX1_findSteps 14 = .ok (.iastore, 1) := by decide +kernel
theorem dX1_findSteps_15 : decode cX1_findSteps 15 = .ok (.iinc 2 1, 3) := by decide +kernel
theorem dX1_findSteps_18 : decode cX1_findSteps 18 = .ok (.goto (-16), 3) := by decide +kernel
theorem dX1_findSteps_21 : decode cX1_findSteps 21 = .ok (.iconst 0, 1) := by decide +kernel
theorem dX1_findSteps_22 : decode cX1_findSteps 22 = .ok (.istore_n 2, 1) := by decide +kernel
theorem dX1_findSteps_23 : decode cX1_findSteps 23 = .ok (.iload_n 2, 1) := by decide +kernel
theorem dX1_findSteps_24 : decode cX1_findSteps 24 = .ok (.bipush 20, 2) := by decide +kernel
theorem dX1_findSteps_26 : decode cX1_findSteps 26 = .ok (.if_icmp .ge 55, 3) := by decide +kernel
theorem dX1_findSteps_29 : decode cX1_findSteps 29 = .ok (.aload_n 0, 1) := by decide +kernel
theorem dX1_findSteps_30 : decode cX1_findSteps 30 = .ok (.getfield 23, 3) := by decide +kernel
theorem dX1_findSteps_33 : decode cX1_findSteps 33 = .ok (.iload_n 2, 1) := by decide +kernel
theorem dX1_findSteps_34 : decode cX1_findSteps 34 = .ok (.iaload, 1) := by decide +kernel
theorem dX1_findSteps_35 : decode cX1_findSteps 35 = .ok (.istore_n 3, 1) := by decide +kernel
theorem dX1_findSteps_36 : decode cX1_findSteps 36 = .ok (.iload_n 3, 1) := by decide +kernel
theorem dX1_findSteps_37 : decode cX1_findSteps 37 = .ok (.iconst 0, 1) := by decide +kernel
theorem dX1_findSteps_38 : decode cX1_findSteps 38 = .ok (.bipush 7, 2) := by decide +kernel
theorem dX1_findSteps_40 : decode cX1_findSteps 40 = .ok (.invokestatic 105, 3) := by decide +kernel
theorem dX1_findSteps_43 : decode cX1_findSteps 43 = .ok (.ifCond .eq 32, 3) := by decide +kernel
theorem dX1_findSteps_46 : decode cX1_findSteps 46 = .ok (.iload_n 1, 1) := by decide +kernel
theorem dX1_findSteps_47 : decode cX1_findSteps 47 = .ok (.iload_n 2, 1) := by decide +kernel
theorem dX1_findSteps_48 : decode cX1_findSteps 48 = .ok (.ishr, 1) := by decide +kernel
theorem dX1_findSteps_49 : decode cX1_findSteps 49 = .ok (.iconst 1, 1) := by decide +kernel
theorem dX1_findSteps_50 : decode cX1_findSteps 50 = .ok (.iand, 1) := by decide +kernel
theorem dX1_findSteps_51 : decode cX1_findSteps 51 = .ok (.ifCond .ne 24, 3) := by decide +kernel
theorem dX1_findSteps_54 : decode cX1_findSteps 54 = .ok (.aload_n 0, 1) := by decide +kernel
theorem dX1_findSteps_55 : decode cX1_findSteps 55 = .ok (.getfield 29, 3) := by decide +kernel
theorem dX1_findSteps_58 : decode cX1_findSteps 58 = .ok (.iload_n 3, 1) := by decide +kernel
theorem dX1_findSteps_59 : decode cX1_findSteps 59 = .ok (.aload_n 0, 1) := by decide +kernel
theorem dX1_findSteps_60 : decode cX1_findSteps 60 = .ok (.getfield 29, 3) := by decide +kernel
theorem dX1_findSteps_63 : decode cX1_findSteps 63 = .ok (.iload_n 3, 1) := by decide +kernel
theorem dX1_findSteps_64 : decode cX1_findSteps 64 = .ok (.iaload, 1) := by decide +kernel
theorem dX1_findSteps_65 : decode cX1_findSteps 65 = .ok (.aload_n 0, 1) := by decide +kernel
theorem dX1_findSteps_66 : decode cX1_findSteps 66 = .ok (.getfield 26, 3) := by decide +kernel
theorem dX1_findSteps_69 : decode cX1_findSteps 69 = .ok (.iload_n 2, 1) := by decide +kernel
theorem dX1_findSteps_70 : decode cX1_findSteps 70 = .ok (.iaload, 1) := by decide +kernel
theorem dX1_findSteps_71 : decode cX1_findSteps 71 = .ok (.invokestatic 109, 3) := by decide +kernel
theorem dX1_findSteps_74 : decode cX1_findSteps 74 = .ok (.iastore, 1) := by decide +kernel
theorem dX1_findSteps_75 : decode cX1_findSteps 75 = .ok (.iinc 2 1, 3) := by decide +kernel
theorem dX1_findSteps_78 : decode cX1_findSteps 78 = .ok (.goto (-55), 3) := by decide +kernel
theorem dX1_findSteps_81 : decode cX1_findSteps 81 = .ok (.return_, 1) := by decide +kernel
theorem dX1_canBe_0 : decode cX1_canBe 0 = .ok (.aload_n 0, 1) := by decide +kernel
theorem dX1_canBe_1 : decode cX1_canBe 1 = .ok (.iload_n 1, 1) := by decide +kernel
theorem dX1_canBe_2 : decode cX1_canBe 2 = .ok (.invokevirtual 90, 3) := by decide +kernel
theorem dX1_canBe_5 : decode cX1_canBe 5 = .ok (.iconst 0, 1) := by decide +kernel
theorem dX1_canBe_6 : decode cX1_canBe 6 = .ok (.istore_n 2, 1) := by decide +kernel
theorem dX1_canBe_7 : decode cX1_canBe 7 = .ok (.iconst 0, 1) := by decide +kernel
theorem dX1_canBe_8 : decode cX1_canBe 8 = .ok (.istore_n 3, 1) := by decide +kernel
theorem dX1_canBe_9 : decode cX1_canBe 9 = .ok (.iload_n 3, 1) := by decide +kernel
theorem dX1_canBe_10 : decode cX1_canBe 10 = .ok (.bipush 8, 2) := by decide +kernel
theorem dX1_canBe_12 : decode cX1_canBe 12 = .ok (.if_icmp .ge 109, 3) := by decide +kernel
theorem dX1_canBe_15 : decode cX1_canBe 15 = .ok (.iconst (-1), 1) := by decide +kernel
theorem dX1_canBe_16 : decode cX1_canBe 16 = .ok (.istore 4, 2) := by decide +kernel
theorem dX1_canBe_18 : decode cX1_canBe 18 = .ok (.iconst 0, 1) := by decide +kernel
theorem dX1_canBe_19 : decode cX1_canBe 19 = .ok (.istore 5, 2) := by decide +kernel
theorem dX1_canBe_21 : decode cX1_canBe 21 = .ok (.iload 5, 2) := by decide +kernel
theorem dX1_canBe_23 : decode cX1_canBe 23 = .ok (.bipush 21, 2) := by decide +kernel
theorem dX1_canBe_25 : decode cX1_canBe 25 = .ok (.if_icmp .ge 59, 3) := by decide +kernel
theorem dX1_canBe_28 : decode cX1_canBe 28 = .ok (.aload_n 0, 1) := by decide +kernel
theorem dX1_canBe_29 : decode cX1_canBe 29 = .ok (.getfield 20, 3) := by decide +kernel
theorem dX1_canBe_32 : decode cX1_canBe 32 = .ok (.iload_n 3, 1) := by decide +kernel
theorem dX1_canBe_33 : decode cX1_canBe 33 = .ok (.aaload, 1) := by decide +kernel
theorem dX1_canBe_34 : decode cX1_canBe 34 = .ok (.iload 5, 2) := by decide +kernel
theorem dX1_canBe_36 : decode cX1_canBe 36 = .ok (.iaload, 1) := by decide +kernel
theorem dX1_canBe_37 : decode cX1_canBe 37 = .ok (.istore 6, 2) := by decide +kernel
theorem dX1_canBe_39 : decode cX1_canBe 39 = .ok (.aload_n 0, 1) := by decide +kernel
theorem dX1_canBe_40 : decode cX1_canBe 40 = .ok (.getfield 17, 3) := by decide +kernel
theorem dX1_canBe_43 : decode cX1_canBe 43 = .ok (.iload_n 3, 1) := by decide +kernel
theorem dX1_canBe_44 : decode cX1_canBe 44 = .ok (.aaload, 1) := by decide +kernel
theorem dX1_canBe_45 : decode cX1_canBe 45 = .ok (.iload 5, 2) := by decide +kernel
theorem dX1_canBe_47 : decode cX1_canBe 47 = .ok (.iaload, 1) := by decide +kernel
theorem dX1_canBe_48 : decode cX1_canBe 48 = .ok (.iload_n 1, 1) := by decide +kernel
theorem dX1_canBe_49 : decode cX1_canBe 49 = .ok (.iconst (-1), 1) := by decide +kernel
theorem dX1_canBe_50 : decode cX1_canBe 50 = .ok (.ixor, 1) := by decide +kernel
theorem dX1_canBe_51 : decode cX1_canBe 51 = .ok (.iand, 1) := by decide +kernel
theorem dX1_canBe_52 : decode cX1_canBe 52 = .ok (.ifCond .ne 26, 3) := by decide +kernel
theorem dX1_canBe_55 : decode cX1_canBe 55 = .ok (.iload 6, 2) := by decide +kernel
theorem dX1_canBe_57 : decode cX1_canBe 57 = .ok (.iload_n 2, 1) := by decide +kernel
theorem dX1_canBe_58 : decode cX1_canBe 58 = .ok (.if_icmp .lt 20, 3) := by decide +kernel
theorem dX1_canBe_61 : decode cX1_canBe 61 = .ok (.iload 4, 2) := by decide +kernel
theorem dX1_canBe_63 : decode cX1_canBe 63 = .ok (.iconst (-1), 1) := by decide +kernel
theorem dX1_canBe_64 : decode cX1_canBe 64 = .ok (.if_icmp .eq 10, 3) := by decide +kernel
theorem dX1_canBe_67 : decode cX1_canBe 67 = .ok (.iload 6, 2) := by decide +kernel
theorem dX1_canBe_69 : decode cX1_canBe 69 = .ok (.iload 4, 2) := by decide +kernel
theorem dX1_canBe_71 : decode cX1_canBe 71 = .ok (.if_icmp .ge 7, 3) := by decide +kernel
theorem dX1_canBe_74 : decode cX1_canBe 74 = .ok (.iload 6, 2) := by decide +kernel
theorem dX1_canBe_76 : decode cX1_canBe 76 = .ok (.istore 4, 2) := by decide +kernel
theorem dX1_canBe_78 : decode cX1_canBe 78 = .ok (.iinc 5 1, 3) := by decide +kernel
theorem dX1_canBe_81 : decode cX1_canBe 81 = .ok (.goto (-60), 3) := by decide +kernel
theorem dX1_canBe_84 : decode cX1_canBe 84 = .ok (.iload 4, 2) := by decide +kernel
theorem dX1_canBe_86 : decode cX1_canBe 86 = .ok (.iconst (-1), 1) := by decide +kernel
theorem dX1_canBe_87 : decode cX1_canBe 87 = .ok (.if_icmp .ne 5, 3) := by decide +kernel
theorem dX1_canBe_90 : decode cX1_canBe 90 = .ok (.iconst 0, 1) := by decide +kernel
theorem dX1_canBe_91 : decode cX1_canBe 91 = .ok (.ireturn, 1) := by decide +kernel
theorem dX1_canBe_92 : decode cX1_canBe 92 = .ok (.aload_n 0, 1) := by decide +kernel
theorem dX1_canBe_93 : decode cX1_canBe 93 = .ok (.getfield 29, 3) := by decide +kernel
theorem dX1_canBe_96 : decode cX1_canBe 96 = .ok (.iload_n 3, 1) := by decide +kernel
theorem dX1_canBe_97 : decode cX1_canBe 97 = .ok (.iaload, 1) := by decide +kernel
theorem dX1_canBe_98 : decode cX1_canBe 98 = .ok (.ifCond .ne 7, 3) := by decide +kernel
theorem dX1_canBe_101 : decode cX1_canBe 101 = .ok (.iconst 0, 1) := by decide +kernel
theorem dX1_canBe_102 : decode cX1_canBe 102 = .ok (.goto 12, 3) := by decide +kernel
theorem dX1_canBe_105 : decode cX1_canBe 105 = .ok (.iload 4, 2) := by decide +kernel
theorem dX1_canBe_107 : decode cX1_canBe 107 = .ok (.aload_n 0, 1) := by decide +kernel
theorem dX1_canBe_108 : decode cX1_canBe 108 = .ok (.getfield 29, 3) := by decide +kernel
theorem dX1_canBe_111 : decode cX1_canBe 111 = .ok (.iload_n 3, 1) := by decide +kernel
theorem dX1_canBe_112 : decode cX1_canBe 112 = .ok (.iaload, 1) := by decide +kernel
theorem dX1_canBe_113 : decode cX1_canBe 113 = .ok (.iadd, 1) := by decide +kernel
theorem dX1_canBe_114 : decode cX1_canBe 114 = .ok (.istore_n 2, 1) := by decide +kernel
theorem dX1_canBe_115 : decode cX1_canBe 115 = .ok (.iinc 3 1, 3) := by decide +kernel
theorem dX1_canBe_118 : decode cX1_canBe 118 = .ok (.goto (-109), 3) := by decide +kernel
theorem dX1_canBe_121 : decode cX1_canBe 121 = .ok (.iconst 1, 1) := by decide +kernel
theorem dX1_canBe_122 : decode cX1_canBe 122 = .ok (.ireturn, 1) := by decide +kernel
theorem dX1_fewestLater_0 : decode cX1_fewestLater 0 = .ok (.aload_n 0, 1) := by decide +kernel
theorem dX1_fewestLater_1 : decode cX1_fewestLater 1 = .ok (.iconst 0, 1) := by decide +kernel
theorem dX1_fewestLater_2 : decode cX1_fewestLater 2 = .ok (.invokevirtual 115, 3) := by decide +kernel
theorem dX1_fewestLater_5 : decode cX1_fewestLater 5 = .ok (.ifCond .eq 5, 3) := by decide +kernel
theorem dX1_fewestLater_8 : decode cX1_fewestLater 8 = .ok (.iconst 0, 1) := by decide +kernel
theorem dX1_fewestLater_9 : decode cX1_fewestLater 9 = .ok (.ireturn, 1) := by decide +kernel
theorem dX1_fewestLater_10 : decode cX1_fewestLater 10 = .ok (.iconst 1, 1) := by decide +kernel
theorem dX1_fewestLater_11 : decode cX1_fewestLater 11 = .ok (.istore_n 1, 1) := by decide +kernel
theorem dX1_fewestLater_12 : decode cX1_fewestLater 12 = .ok (.iload_n 1, 1) := by decide +kernel
theorem dX1_fewestLater_13 : decode cX1_fewestLater 13 = .ok (.iconst 3, 1) := by decide +kernel
theorem dX1_fewestLater_14 : decode cX1_fewestLater 14 = .ok (.if_icmp .gt 21, 3) := by decide +kernel
theorem dX1_fewestLater_17 : decode cX1_fewestLater 17 = .ok (.aload_n 0, 1) := by decide +kernel
theorem dX1_fewestLater_18 : decode cX1_fewestLater 18 = .ok (.iload_n 1, 1) := by decide +kernel
theorem dX1_fewestLater_19 : decode cX1_fewestLater 19 = .ok (.invokevirtual 118, 3) := by decide +kernel
theorem dX1_fewestLater_22 : decode cX1_fewestLater 22 = .ok (.istore_n 2, 1) := by decide +kernel
theorem dX1_fewestLater_23 : decode cX1_fewestLater 23 = .ok (.iload_n 2, 1) := by decide +kernel
theorem dX1_fewestLater_24 : decode cX1_fewestLater 24 = .ok (.ifCond .eq 5, 3) := by decide +kernel
theorem dX1_fewestLater_27 : decode cX1_fewestLater 27 = .ok (.iload_n 2, 1) := by decide +kernel
theorem dX1_fewestLater_28 : decode cX1_fewestLater 28 = .ok (.ireturn, 1) := by decide +kernel
theorem dX1_fewestLater_29 : decode cX1_fewestLater 29 = .ok (.iinc 1 1, 3) := by decide +kernel
theorem dX1_fewestLater_32 : decode cX1_fewestLater 32 = .ok (.goto (-20), 3) := by decide +kernel
theorem dX1_fewestLater_35 : decode cX1_fewestLater 35 = .ok (.bipush (-5), 2) := by decide +kernel
theorem dX1_fewestLater_37 : decode cX1_fewestLater 37 = .ok (.ireturn, 1) := by decide +kernel
theorem dX1_laterOf_0 : decode cX1_laterOf 0 = .ok (.iconst 0, 1) := by decide +kernel
theorem dX1_laterOf_1 : decode cX1_laterOf 1 = .ok (.istore_n 2, 1) := by decide +kernel
theorem dX1_laterOf_2 : decode cX1_laterOf 2 = .ok (.iload_n 2, 1) := by decide +kernel
theorem dX1_laterOf_3 : decode cX1_laterOf 3 = .ok (.bipush 20, 2) := by decide +kernel
theorem dX1_laterOf_5 : decode cX1_laterOf 5 = .ok (.if_icmp .ge 162, 3) := by decide +kernel
theorem dX1_laterOf_8 : decode cX1_laterOf 8 = .ok (.aload_n 0, 1) := by decide +kernel
theorem dX1_laterOf_9 : decode cX1_laterOf 9 = .ok (.getfield 74, 3) := by decide +kernel
theorem dX1_laterOf_12 : decode cX1_laterOf 12 = .ok (.iconst 1, 1) := by decide +kernel
theorem dX1_laterOf_13 : decode cX1_laterOf 13 = .ok (.iload_n 2, 1) := by decide +kernel
theorem dX1_laterOf_14 : decode cX1_laterOf 14 = .ok (.ishl, 1) := by decide +kernel
theorem dX1_laterOf_15 : decode cX1_laterOf 15 = .ok (.iand, 1) := by decide +kernel
theorem dX1_laterOf_16 : decode cX1_laterOf 16 = .ok (.istore_n 3, 1) := by decide +kernel
theorem dX1_laterOf_17 : decode cX1_laterOf 17 = .ok (.iload_n 3, 1) := by decide +kernel
theorem dX1_laterOf_18 : decode cX1_laterOf 18 = .ok (.ifCond .eq 18, 3) := by decide +kernel
theorem dX1_laterOf_21 : decode cX1_laterOf 21 = .ok (.iload_n 1, 1) := by decide +kernel
theorem dX1_laterOf_22 : decode cX1_laterOf 22 = .ok (.iconst 1, 1) := by decide +kernel
theorem dX1_laterOf_23 : decode cX1_laterOf 23 = .ok (.if_icmp .ne 13, 3) := by decide +kernel
theorem dX1_laterOf_26 : decode cX1_laterOf 26 = .ok (.aload_n 0, 1) := by decide +kernel
theorem dX1_laterOf_27 : decode cX1_laterOf 27 = .ok (.iload_n 3, 1) := by decide +kernel
theorem dX1_laterOf_28 : decode cX1_laterOf 28 = .ok (.invokevirtual 115, 3) := by decide +kernel
theorem dX1_laterOf_31 : decode cX1_laterOf 31 = .ok (.ifCond .eq 5, 3) := by decide +kernel
theorem dX1_laterOf_34 : decode cX1_laterOf 34 = .ok (.iload_n 3, 1) := by decide +kernel
theorem dX1_laterOf_35 : decode cX1_laterOf 35 = .ok (.ireturn, 1) := by decide +kernel
theorem dX1_laterOf_36 : decode cX1_laterOf 36 = .ok (.iconst 0, 1) := by decide +kernel
theorem dX1_laterOf_37 : decode cX1_laterOf 37 = .ok (.istore 4, 2) := by decide +kernel
theorem dX1_laterOf_39 : decode cX1_laterOf 39 = .ok (.iload 4, 2) := by decide +kernel
theorem dX1_laterOf_41 : decode cX1_laterOf 41 = .ok (.iload_n 2, 1) := by decide +kernel
theorem dX1_laterOf_42 : decode cX1_laterOf 42 = .ok (.if_icmp .ge 119, 3) := by decide +kernel
theorem dX1_laterOf_45 : decode cX1_laterOf 45 = .ok (.iload_n 3, 1) := by decide +kernel
theorem dX1_laterOf_46 : decode cX1_laterOf 46 = .ok (.ifCond .eq 115, 3) := by decide +kernel
theorem dX1_laterOf_49 : decode cX1_laterOf 49 = .ok (.iload_n 1, 1) := by decide +kernel
theorem dX1_laterOf_50 : decode cX1_laterOf 50 = .ok (.iconst 1, 1) := by decide +kernel
theorem dX1_laterOf_51 : decode cX1_laterOf 51 = .ok (.if_icmp .le 110, 3) := by decide +kernel
theorem dX1_laterOf_54 : decode cX1_laterOf 54 = .ok (.aload_n 0, 1) := by decide +kernel
theorem dX1_laterOf_55 : decode cX1_laterOf 55 = .ok (.getfield 74, 3) := by decide +kernel
theorem dX1_laterOf_58 : decode cX1_laterOf 58 = .ok (.iconst 1, 1) := by decide +kernel
theorem dX1_laterOf_59 : decode cX1_laterOf 59 = .ok (.iload 4, 2) := by decide +kernel
theorem dX1_laterOf_61 : decode cX1_laterOf 61 = .ok (.ishl, 1) := by decide +kernel
theorem dX1_laterOf_62 : decode cX1_laterOf 62 = .ok (.iand, 1) := by decide +kernel
theorem dX1_laterOf_63 : decode cX1_laterOf 63 = .ok (.istore 5, 2) := by decide +kernel
theorem dX1_laterOf_65 : decode cX1_laterOf 65 = .ok (.iload 5, 2) := by decide +kernel
theorem dX1_laterOf_67 : decode cX1_laterOf 67 = .ok (.ifCond .eq 24, 3) := by decide +kernel
theorem dX1_laterOf_70 : decode cX1_laterOf 70 = .ok (.iload_n 1, 1) := by decide +kernel
theorem dX1_laterOf_71 : decode cX1_laterOf 71 = .ok (.iconst 2, 1) := by decide +kernel
theorem dX1_laterOf_72 : decode cX1_laterOf 72 = .ok (.if_icmp .ne 19, 3) := by decide +kernel
theorem dX1_laterOf_75 : decode cX1_laterOf 75 = .ok (.aload_n 0, 1) := by decide +kernel
theorem dX1_laterOf_76 : decode cX1_laterOf 76 = .ok (.iload_n 3, 1) := by decide +kernel
theorem dX1_laterOf_77 : decode cX1_laterOf 77 = .ok (.iload 5, 2) := by decide +kernel
theorem dX1_laterOf_79 : decode cX1_laterOf 79 = .ok (.ior, 1) := by decide +kernel
theorem dX1_laterOf_80 : decode cX1_laterOf 80 = .ok (.invokevirtual 115, 3) := by decide +kernel
theorem dX1_laterOf_83 : decode cX1_laterOf 83 = .ok (.ifCond .eq 8, 3) := by decide +kernel
theorem dX1_laterOf_86 : decode cX1_laterOf 86 = .ok (.iload_n 3, 1) := by decide +kernel
theorem dX1_laterOf_87 : decode cX1_laterOf 87 = .ok (.iload 5, 2) := by decide +kernel
theorem dX1_laterOf_89 : decode cX1_laterOf 89 = .ok (.ior, 1) := by decide +kernel
theorem dX1_laterOf_90 : decode cX1_laterOf 90 = .ok (.ireturn, 1) := by decide +kernel
theorem dX1_laterOf_91 : decode cX1_laterOf 91 = .ok (.iconst 0, 1) := by decide +kernel
theorem dX1_laterOf_92 : decode cX1_laterOf 92 = .ok (.istore 6, 2) := by decide +kernel
theorem dX1_laterOf_94 : decode cX1_laterOf 94 = .ok (.iload 6, 2) := by decide +kernel
theorem dX1_laterOf_96 : decode cX1_laterOf 96 = .ok (.iload 4, 2) := by decide +kernel
theorem dX1_laterOf_98 : decode cX1_laterOf 98 = .ok (.if_icmp .ge 57, 3) := by decide +kernel
theorem dX1_laterOf_101 : decode cX1_laterOf 101 = .ok (.iload 5, 2) := by decide +kernel
theorem dX1_laterOf_103 : decode cX1_laterOf 103 = .ok (.ifCond .eq 52, 3) := by decide +kernel
theorem dX1_laterOf_106 : decode cX1_laterOf 106 = .ok (.iload_n 1, 1) := by decide +kernel
theorem dX1_laterOf_107 : decode cX1_laterOf 107 = .ok (.iconst 2, 1) := by decide +kernel
theorem dX1_laterOf_108 : decode cX1_laterOf 108 = .ok (.if_icmp .le 47, 3) := by decide +kernel
theorem dX1_laterOf_111 : decode cX1_laterOf 111 = .ok (.aload_n 0, 1) := by decide +kernel
theorem dX1_laterOf_112 : decode cX1_laterOf 112 = .ok (.getfield 74, 3) := by decide +kernel
theorem dX1_laterOf_115 : decode cX1_laterOf 115 = .ok (.iconst 1, 1) := by decide +kernel
theorem dX1_laterOf_116 : decode cX1_laterOf 116 = .ok (.iload 6, 2) := by decide +kernel
theorem dX1_laterOf_118 : decode cX1_laterOf 118 = .ok (.ishl, 1) := by decide +kernel
theorem dX1_laterOf_119 : decode cX1_laterOf 119 = .ok (.iand, 1) := by decide +kernel
theorem dX1_laterOf_120 : decode cX1_laterOf 120 = .ok (.istore 7, 2) := by decide +kernel
theorem dX1_laterOf_122 : decode cX1_laterOf 122 = .ok (.iload 7, 2) := by decide +kernel
theorem dX1_laterOf_124 : decode cX1_laterOf 124 = .ok (.ifCond .eq 25, 3) := by decide +kernel
theorem dX1_laterOf_127 : decode cX1_laterOf 127 = .ok (.aload_n 0, 1) := by decide +kernel
theorem dX1_laterOf_128 : decode cX1_laterOf 128 = .ok (.iload_n 3, 1) := by decide +kernel
theorem dX1_laterOf_129 : decode cX1_laterOf 129 = .ok (.iload 5, 2) := by decide +kernel
theorem dX1_laterOf_131 : decode cX1_laterOf 131 = .ok (.ior, 1) := by decide +kernel
theorem dX1_laterOf_132 : decode cX1_laterOf 132 = .ok (.iload 7, 2) := by decide +kernel
theorem dX1_laterOf_134 : decode cX1_laterOf 134 = .ok (.ior, 1) := by decide +kernel
theorem dX1_laterOf_135 : decode cX1_laterOf 135 = .ok (.invokevirtual 115, 3) := by decide +kernel
theorem dX1_laterOf_138 : decode cX1_laterOf 138 = .ok (.ifCond .eq 11, 3) := by decide +kernel
theorem dX1_laterOf_141 : decode cX1_laterOf 141 = .ok (.iload_n 3, 1) := by decide +kernel
theorem dX1_laterOf_142 : decode cX1_laterOf 142 = .ok (.iload 5, 2) := by decide +kernel
theorem dX1_laterOf_144 : decode cX1_laterOf 144 = .ok (.ior, 1) := by decide +kernel
theorem dX1_laterOf_145 : decode cX1_laterOf 145 = .ok (.iload 7, 2) := by decide +kernel
theorem dX1_laterOf_147 : decode cX1_laterOf 147 = .ok (.ior, 1) := by decide +kernel
theorem dX1_laterOf_148 : decode cX1_laterOf 148 = .ok (.ireturn, 1) := by decide +kernel
theorem dX1_laterOf_149 : decode cX1_laterOf 149 = .ok (.iinc 6 1, 3) := by decide +kernel
theorem dX1_laterOf_152 : decode cX1_laterOf 152 = .ok (.goto (-58), 3) := by decide +kernel
theorem dX1_laterOf_155 : decode cX1_laterOf 155 = .ok (.iinc 4 1, 3) := by decide +kernel
theorem dX1_laterOf_158 : decode cX1_laterOf 158 = .ok (.goto (-119), 3) := by decide +kernel
theorem dX1_laterOf_161 : decode cX1_laterOf 161 = .ok (.iinc 2 1, 3) := by decide +kernel
theorem dX1_laterOf_164 : decode cX1_laterOf 164 = .ok (.goto (-162), 3) := by decide +kernel
theorem dX1_laterOf_167 : decode cX1_laterOf 167 = .ok (.iconst 0, 1) := by decide +kernel
theorem dX1_laterOf_168 : decode cX1_laterOf 168 = .ok (.ireturn, 1) := by decide +kernel
theorem dX1_reckon_0 : decode cX1_reckon 0 = .ok (.aload_n 0, 1) := by decide +kernel
theorem dX1_reckon_1 : decode cX1_reckon 1 = .ok (.invokevirtual 121, 3) := by decide +kernel
theorem dX1_reckon_4 : decode cX1_reckon 4 = .ok (.aload_n 0, 1) := by decide +kernel
theorem dX1_reckon_5 : decode cX1_reckon 5 = .ok (.invokevirtual 124, 3) := by decide +kernel
theorem dX1_reckon_8 : decode cX1_reckon 8 = .ok (.return_, 1) := by decide +kernel
theorem dX1_reckonAhead_0 : decode cX1_reckonAhead 0 = .ok (.iconst 0, 1) := by decide +kernel
theorem dX1_reckonAhead_1 : decode cX1_reckonAhead 1 = .ok (.istore_n 1, 1) := by decide +kernel
theorem dX1_reckonAhead_2 : decode cX1_reckonAhead 2 = .ok (.iload_n 1, 1) := by decide +kernel
theorem dX1_reckonAhead_3 : decode cX1_reckonAhead 3 = .ok (.bipush 21, 2) := by decide +kernel
theorem dX1_reckonAhead_5 : decode cX1_reckonAhead 5 = .ok (.if_icmp .ge 18, 3) := by decide +kernel
theorem dX1_reckonAhead_8 : decode cX1_reckonAhead 8 = .ok (.aload_n 0, 1) := by decide +kernel
theorem dX1_reckonAhead_9 : decode cX1_reckonAhead 9 = .ok (.getfield 34, 3) := by decide +kernel
theorem dX1_reckonAhead_12 : decode cX1_reckonAhead 12 = .ok (.iconst 0, 1) := by decide +kernel
theorem dX1_reckonAhead_13 : decode cX1_reckonAhead 13 = .ok (.aaload, 1) := by decide +kernel
theorem dX1_reckonAhead_14 : decode cX1_reckonAhead 14 = .ok (.iload_n 1, 1) := by decide +kernel
theorem dX1_reckonAhead_15 : decode cX1_reckonAhead 15 = .ok (.lconst 1, 1) := by decide +kernel
theorem dX1_reckonAhead_16 : decode cX1_reckonAhead 16 = .ok (.lastore, 1) := by decide +kernel
theorem dX1_reckonAhead_17 : decode cX1_reckonAhead 17 = .ok (.iinc 1 1, 3) := by decide +kernel
theorem dX1_reckonAhead_20 : decode cX1_reckonAhead 20 = .ok (.goto (-18), 3) := by decide +kernel
theorem dX1_reckonAhead_23 : decode cX1_reckonAhead 23 = .ok (.iconst 1, 1) := by decide +kernel
theorem dX1_reckonAhead_24 : decode cX1_reckonAhead 24 = .ok (.istore_n 1, 1) := by decide +kernel
theorem dX1_reckonAhead_25 : decode cX1_reckonAhead 25 = .ok (.iload_n 1, 1) := by decide +kernel
theorem dX1_reckonAhead_26 : decode cX1_reckonAhead 26 = .ok (.bipush 8, 2) := by decide +kernel
theorem dX1_reckonAhead_28 : decode cX1_reckonAhead 28 = .ok (.if_icmp .ge 55, 3) := by decide +kernel
theorem dX1_reckonAhead_31 : decode cX1_reckonAhead 31 = .ok (.aload_n 0, 1) := by decide +kernel
theorem dX1_reckonAhead_32 : decode cX1_reckonAhead 32 = .ok (.iload_n 1, 1) := by decide +kernel
theorem dX1_reckonAhead_33 : decode cX1_reckonAhead 33 = .ok (.iconst 1, 1) := by decide +kernel
theorem dX1_reckonAhead_34 : decode cX1_reckonAhead 34 = .ok (.isub, 1) := by decide +kernel
theorem dX1_reckonAhead_35 : decode cX1_reckonAhead 35 = .ok (.aload_n 0, 1) := by decide +kernel
theorem dX1_reckonAhead_36 : decode cX1_reckonAhead 36 = .ok (.getfield 34, 3) := by decide +kernel
theorem dX1_reckonAhead_39 : decode cX1_reckonAhead 39 = .ok (.iload_n 1, 1) := by decide +kernel
theorem dX1_reckonAhead_40 : decode cX1_reckonAhead 40 = .ok (.iconst 1, 1) := by decide +kernel
theorem dX1_reckonAhead_41 : decode cX1_reckonAhead 41 = .ok (.isub, 1) := by decide +kernel
theorem dX1_reckonAhead_42 : decode cX1_reckonAhead 42 = .ok (.aaload, 1) := by decide +kernel
theorem dX1_reckonAhead_43 : decode cX1_reckonAhead 43 = .ok (.invokevirtual 127, 3) := by decide +kernel
theorem dX1_reckonAhead_46 : decode cX1_reckonAhead 46 = .ok (.iconst 0, 1) := by decide +kernel
theorem dX1_reckonAhead_47 : decode cX1_reckonAhead 47 = .ok (.istore_n 2, 1) := by decide +kernel
theorem dX1_reckonAhead_48 : decode cX1_reckonAhead 48 = .ok (.iload_n 2, 1) := by decide +kernel
theorem dX1_reckonAhead_49 : decode cX1_reckonAhead 49 = .ok (.bipush 21, 2) := by decide +kernel
theorem dX1_reckonAhead_51 : decode cX1_reckonAhead 51 = .ok (.if_icmp .ge 26, 3) := by decide +kernel
theorem dX1_reckonAhead_54 : decode cX1_reckonAhead 54 = .ok (.aload_n 0, 1) := by decide +kernel
theorem dX1_reckonAhead_55 : decode cX1_reckonAhead 55 = .ok (.getfield 34, 3) := by decide +kernel
theorem dX1_reckonAhead_58 : decode cX1_reckonAhead 58 = .ok (.iload_n 1, 1) := by decide +kernel
theorem dX1_reckonAhead_59 : decode cX1_reckonAhead 59 = .ok (.aaload, 1) := by decide +kernel
theorem dX1_reckonAhead_60 : decode cX1_reckonAhead 60 = .ok (.iload_n 2, 1) := by decide +kernel
theorem dX1_reckonAhead_61 : decode cX1_reckonAhead 61 = .ok (.aload_n 0, 1) := by decide +kernel
theorem dX1_reckonAhead_62 : decode cX1_reckonAhead 62 = .ok (.iload_n 2, 1) := by decide +kernel
theorem dX1_reckonAhead_63 : decode cX1_reckonAhead 63 = .ok (.iload_n 1, 1) := by decide +kernel
theorem dX1_reckonAhead_64 : decode cX1_reckonAhead 64 = .ok (.iconst 1, 1) := by decide +kernel
theorem dX1_reckonAhead_65 : decode cX1_reckonAhead 65 = .ok (.isub, 1) := by decide +kernel
theorem dX1_reckonAhead_66 : decode cX1_reckonAhead 66 = .ok (.iconst 1, 1) := by decide +kernel
theorem dX1_reckonAhead_67 : decode cX1_reckonAhead 67 = .ok (.invokevirtual 131, 3) := by decide +kernel
theorem dX1_reckonAhead_70 : decode cX1_reckonAhead 70 = .ok (.lastore, 1) := by decide +kernel
theorem dX1_reckonAhead_71 : decode cX1_reckonAhead 71 = .ok (.iinc 2 1, 3) := by decide +kernel
theorem dX1_reckonAhead_74 : decode cX1_reckonAhead 74 = .ok (.goto (-26), 3) := by decide +kernel
theorem dX1_reckonAhead_77 : decode cX1_reckonAhead 77 = .ok (.iinc 1 1, 3) := by decide +kernel
theorem dX1_reckonAhead_80 : decode cX1_reckonAhead 80 = .ok (.goto (-55), 3) := by decide +kernel
theorem dX1_reckonAhead_83 : decode cX1_reckonAhead 83 = .ok (.aload_n 0, 1) := by decide +kernel
theorem dX1_reckonAhead_84 : decode cX1_reckonAhead 84 = .ok (.bipush 7, 2) := by decide +kernel
theorem dX1_reckonAhead_86 : decode cX1_reckonAhead 86 = .ok (.aload_n 0, 1) := by decide +kernel
theorem dX1_reckonAhead_87 : decode cX1_reckonAhead 87 = .ok (.getfield 34, 3) := by decide +kernel
theorem dX1_reckonAhead_90 : decode cX1_reckonAhead 90 = .ok (.bipush 7, 2) := by decide +kernel
theorem dX1_reckonAhead_92 : decode cX1_reckonAhead 92 = .ok (.aaload, 1) := by decide +kernel
theorem dX1_reckonAhead_93 : decode cX1_reckonAhead 93 = .ok (.invokevirtual 127, 3) := by decide +kernel
theorem dX1_reckonAhead_96 : decode cX1_reckonAhead 96 = .ok (.aload_n 0, 1) := by decide +kernel
theorem dX1_reckonAhead_97 : decode cX1_reckonAhead 97 = .ok (.aload_n 0, 1) := by decide +kernel
theorem dX1_reckonAhead_98 : decode cX1_reckonAhead 98 = .ok (.getfield 135, 3) := by decide +kernel
theorem dX1_reckonAhead_101 : decode cX1_reckonAhead 101 = .ok (.putfield 139, 3) := by decide +kernel
theorem dX1_reckonAhead_104 : decode cX1_reckonAhead 104 = .ok (.return_, 1) := by decide +kernel
theorem dX1_reckonBehind_0 : decode cX1_reckonBehind 0 = .ok (.iconst 0, 1) := by decide +kernel
theorem dX1_reckonBehind_1 : decode cX1_reckonBehind 1 = .ok (.istore_n 1, 1) := by decide +kernel
theorem dX1_reckonBehind_2 : decode cX1_reckonBehind 2 = .ok (.iload_n 1, 1) := by decide +kernel
theorem dX1_reckonBehind_3 : decode cX1_reckonBehind 3 = .ok (.bipush 21, 2) := by decide +kernel
theorem dX1_reckonBehind_5 : decode cX1_reckonBehind 5 = .ok (.if_icmp .ge 19, 3) := by decide +kernel
theorem dX1_reckonBehind_8 : decode cX1_reckonBehind 8 = .ok (.aload_n 0, 1) := by decide +kernel
theorem dX1_reckonBehind_9 : decode cX1_reckonBehind 9 = .ok (.getfield 37, 3) := by decide +kernel
theorem dX1_reckonBehind_12 : decode cX1_reckonBehind 12 = .ok (.bipush 7, 2) := by decide +kernel
theorem dX1_reckonBehind_14 : decode cX1_reckonBehind 14 = .ok (.aaload, 1) := by decide +kernel
theorem dX1_reckonBehind_15 : decode cX1_reckonBehind 15 = .ok (.iload_n 1, 1) := by decide +kernel
theorem dX1_reckonBehind_16 : decode cX1_reckonBehind 16 = .ok (.lconst 1, 1) := by decide +kernel
theorem dX1_reckonBehind_17 : decode cX1_reckonBehind 17 = .ok (.lastore, 1) := by decide +kernel
theorem dX1_reckonBehind_18 : decode cX1_reckonBehind 18 = .ok (.iinc 1 1, 3) := by decide +kernel
theorem dX1_reckonBehind_21 : decode cX1_reckonBehind 21 = .ok (.goto (-19), 3) := by decide +kernel
theorem dX1_reckonBehind_24 : decode cX1_reckonBehind 24 = .ok (.bipush 6, 2) := by decide +kernel
theorem dX1_reckonBehind_26 : decode cX1_reckonBehind 26 = .ok (.istore_n 1, 1) := by decide +kernel
theorem dX1_reckonBehind_27 : decode cX1_reckonBehind 27 = .ok (.iload_n 1, 1) := by decide +kernel
theorem dX1_reckonBehind_28 : decode cX1_reckonBehind 28 = .ok (.ifCond .lt 53, 3) := by decide +kernel
theorem dX1_reckonBehind_31 : decode cX1_reckonBehind 31 = .ok (.aload_n 0, 1) := by decide +kernel
theorem dX1_reckonBehind_32 : decode cX1_reckonBehind 32 = .ok (.iload_n 1, 1) := by decide +kernel
theorem dX1_reckonBehind_33 : decode cX1_reckonBehind 33 = .ok (.iconst 1, 1) := by decide +kernel
theorem dX1_reckonBehind_34 : decode cX1_reckonBehind 34 = .ok (.iadd, 1) := by decide +kernel
theorem dX1_reckonBehind_35 : decode cX1_reckonBehind 35 = .ok (.aload_n 0, 1) := by decide +kernel
theorem dX1_reckonBehind_36 : decode cX1_reckonBehind 36 = .ok (.getfield 37, 3) := by decide +kernel
theorem dX1_reckonBehind_39 : decode cX1_reckonBehind 39 = .ok (.iload_n 1, 1) := by decide +kernel
theorem dX1_reckonBehind_40 : decode cX1_reckonBehind 40 = .ok (.iconst 1, 1) := by decide +kernel
theorem dX1_reckonBehind_41 : decode cX1_reckonBehind 41 = .ok (.iadd, 1) := by decide +kernel
theorem dX1_reckonBehind_42 : decode cX1_reckonBehind 42 = .ok (.aaload, 1) := by decide +kernel
theorem dX1_reckonBehind_43 : decode cX1_reckonBehind 43 = .ok (.invokevirtual 127, 3) := by decide +kernel
theorem dX1_reckonBehind_46 : decode cX1_reckonBehind 46 = .ok (.iconst 0, 1) := by decide +kernel
theorem dX1_reckonBehind_47 : decode cX1_reckonBehind 47 = .ok (.istore_n 2, 1) := by decide +kernel
theorem dX1_reckonBehind_48 : decode cX1_reckonBehind 48 = .ok (.iload_n 2, 1) := by decide +kernel
theorem dX1_reckonBehind_49 : decode cX1_reckonBehind 49 = .ok (.bipush 21, 2) := by decide +kernel
theorem dX1_reckonBehind_51 : decode cX1_reckonBehind 51 = .ok (.if_icmp .ge 24, 3) := by decide +kernel
theorem dX1_reckonBehind_54 : decode cX1_reckonBehind 54 = .ok (.aload_n 0, 1) := by decide +kernel
theorem dX1_reckonBehind_55 : decode cX1_reckonBehind 55 = .ok (.getfield 37, 3) := by decide +kernel
theorem dX1_reckonBehind_58 : decode cX1_reckonBehind 58 = .ok (.iload_n 1, 1) := by decide +kernel
theorem dX1_reckonBehind_59 : decode cX1_reckonBehind 59 = .ok (.aaload, 1) := by decide +kernel
theorem dX1_reckonBehind_60 : decode cX1_reckonBehind 60 = .ok (.iload_n 2, 1) := by decide +kernel
theorem dX1_reckonBehind_61 : decode cX1_reckonBehind 61 = .ok (.aload_n 0, 1) := by decide +kernel
theorem dX1_reckonBehind_62 : decode cX1_reckonBehind 62 = .ok (.iload_n 2, 1) := by decide +kernel
theorem dX1_reckonBehind_63 : decode cX1_reckonBehind 63 = .ok (.iload_n 1, 1) := by decide +kernel
theorem dX1_reckonBehind_64 : decode cX1_reckonBehind 64 = .ok (.iconst 0, 1) := by decide +kernel
theorem dX1_reckonBehind_65 : decode cX1_reckonBehind 65 = .ok (.invokevirtual 131, 3) := by decide +kernel
theorem dX1_reckonBehind_68 : decode cX1_reckonBehind 68 = .ok (.lastore, 1) := by decide +kernel
theorem dX1_reckonBehind_69 : decode cX1_reckonBehind 69 = .ok (.iinc 2 1, 3) := by decide +kernel
theorem dX1_reckonBehind_72 : decode cX1_reckonBehind 72 = .ok (.goto (-24), 3) := by decide +kernel
theorem dX1_reckonBehind_75 : decode cX1_reckonBehind 75 = .ok (.iinc 1 (-1), 3) := by decide +kernel
theorem dX1_reckonBehind_78 : decode cX1_reckonBehind 78 = .ok (.goto (-51), 3) := by decide +kernel
theorem dX1_reckonBehind_81 : decode cX1_reckonBehind 81 = .ok (.return_, 1) := by decide +kernel
theorem dX1_weighParts_0 : decode cX1_weighParts 0 = .ok (.aload_n 0, 1) := by decide +kernel
theorem dX1_weighParts_1 : decode cX1_weighParts 1 = .ok (.lconst 0, 1) := by decide +kernel
theorem dX1_weighParts_2 : decode cX1_weighParts 2 = .ok (.putfield 135, 3) := by decide +kernel
theorem dX1_weighParts_5 : decode cX1_weighParts 5 = .ok (.iconst 0, 1) := by decide +kernel
theorem dX1_weighParts_6 : decode cX1_weighParts 6 = .ok (.istore_n 3, 1) := by decide +kernel
theorem dX1_weighParts_7 : decode cX1_weighParts 7 = .ok (.iload_n 3, 1) := by decide +kernel
theorem dX1_weighParts_8 : decode cX1_weighParts 8 = .ok (.bipush 21, 2) := by decide +kernel
theorem dX1_weighParts_10 : decode cX1_weighParts 10 = .ok (.if_icmp .ge 56, 3) := by decide +kernel
theorem dX1_weighParts_13 : decode cX1_weighParts 13 = .ok (.aload_n 0, 1) := by decide +kernel
theorem dX1_weighParts_14 : decode cX1_weighParts 14 = .ok (.getfield 43, 3) := by decide +kernel
theorem dX1_weighParts_17 : decode cX1_weighParts 17 = .ok (.iload_n 3, 1) := by decide +kernel
theorem dX1_weighParts_18 : decode cX1_weighParts 18 = .ok (.aload_n 0, 1) := by decide +kernel
theorem dX1_weighParts_19 : decode cX1_weighParts 19 = .ok (.getfield 17, 3) := by decide +kernel
theorem dX1_weighParts_22 : decode cX1_weighParts 22 = .ok (.iload_n 1, 1) := by decide +kernel
theorem dX1_weighParts_23 : decode cX1_weighParts 23 = .ok (.aaload, 1) := by decide +kernel
theorem dX1_weighParts_24 : decode cX1_weighParts 24 = .ok (.iload_n 3, 1) := by decide +kernel
theorem dX1_weighParts_25 : decode cX1_weighParts 25 = .ok (.iaload, 1) := by decide +kernel
theorem dX1_weighParts_26 : decode cX1_weighParts 26 = .ok (.ifCond .ne 17, 3) := by decide +kernel
theorem dX1_weighParts_29 : decode cX1_weighParts 29 = .ok (.aload_n 0, 1) := by decide +kernel
theorem dX1_weighParts_30 : decode cX1_weighParts 30 = .ok (.getfield 9, 3) := by decide +kernel
theorem dX1_weighParts_33 : decode cX1_weighParts 33 = .ok (.iload_n 3, 1) := by decide +kernel
theorem dX1_weighParts_34 : decode cX1_weighParts 34 = .ok (.iaload, 1) := by decide +kernel
theorem dX1_weighParts_35 : decode cX1_weighParts 35 = .ok (.i2l, 1) := by decide +kernel
theorem dX1_weighParts_36 : decode cX1_weighParts 36 = .ok (.aload_n 2, 1) := by decide +kernel
theorem dX1_weighParts_37 : decode cX1_weighParts 37 = .ok (.iload_n 3, 1) := by decide +kernel
theorem dX1_weighParts_38 : decode cX1_weighParts 38 = .ok (.laload, 1) := by decide +kernel
theorem dX1_weighParts_39 : decode cX1_weighParts 39 = .ok (.lmul, 1) := by decide +kernel
theorem dX1_weighParts_40 : decode cX1_weighParts 40 = .ok (.goto 4, 3) := by decide +kernel
theorem dX1_weighParts_43 : decode cX1_weighParts 43 = .ok (.lconst 0, 1) := by decide +kernel
theorem dX1_weighParts_44 : decode cX1_weighParts 44 = .ok (.lastore, 1) := by decide +kernel
theorem dX1_weighParts_45 : decode cX1_weighParts 45 = .ok (.aload_n 0, 1) := by decide +kernel
theorem dX1_weighParts_46 : decode cX1_weighParts 46 = .ok (.dup, 1) := by decide +kernel
theorem dX1_weighParts_47 : decode cX1_weighParts 47 = .ok (.getfield 135, 3) := by decide +kernel
theorem dX1_weighParts_50 : decode cX1_weighParts 50 = .ok (.aload_n 0, 1) := by decide +kernel
theorem dX1_weighParts_51 : decode cX1_weighParts 51 = .ok (.getfield 43, 3) := by decide +kernel
theorem dX1_weighParts_54 : decode cX1_weighParts 54 = .ok (.iload_n 3, 1) := by decide +kernel
theorem dX1_weighParts_55 : decode cX1_weighParts 55 = .ok (.laload, 1) := by decide +kernel
theorem dX1_weighParts_56 : decode cX1_weighParts 56 = .ok (.ladd, 1) := by decide +kernel
theorem dX1_weighParts_57 : decode cX1_weighParts 57 = .ok (.putfield 135, 3) := by decide +kernel
theorem dX1_weighParts_60 : decode cX1_weighParts 60 = .ok (.iinc 3 1, 3) := by decide +kernel
theorem dX1_weighParts_63 : decode cX1_weighParts 63 = .ok (.goto (-56), 3) := by decide +kernel
theorem dX1_weighParts_66 : decode cX1_weighParts 66 = .ok (.return_, 1) := by decide +kernel
theorem dX1_partsBeside_0 : decode cX1_partsBeside 0 = .ok (.aload_n 0, 1) := by decide +kernel
theorem dX1_partsBeside_1 : decode cX1_partsBeside 1 = .ok (.getfield 29, 3) := by decide +kernel
theorem dX1_partsBeside_4 : decode cX1_partsBeside 4 = .ok (.iload_n 2, 1) := by decide +kernel
theorem dX1_partsBeside_5 : decode cX1_partsBeside 5 = .ok (.iaload, 1) := by decide +kernel
theorem dX1_partsBeside_6 : decode cX1_partsBeside 6 = .ok (.ifCond .ne 23, 3) := by decide +kernel
theorem dX1_partsBeside_9 : decode cX1_partsBeside 9 = .ok (.aload_n 0, 1) := by decide +kernel
theorem dX1_partsBeside_10 : decode cX1_partsBeside 10 = .ok (.getfield 135, 3) := by decide +kernel
theorem dX1_partsBeside_13 : decode cX1_partsBeside 13 = .ok (.aload_n 0, 1) := by decide +kernel
theorem dX1_partsBeside_14 : decode cX1_partsBeside 14 = .ok (.getfield 55, 3) := by decide +kernel
theorem dX1_partsBeside_17 : decode cX1_partsBeside 17 = .ok (.iconst 1, 1) := by decide +kernel
theorem dX1_partsBeside_18 : decode cX1_partsBeside 18 = .ok (.isub, 1) := by decide +kernel
theorem dX1_partsBeside_19 : decode cX1_partsBeside 19 = .ok (.i2l, 1) := by decide +kernel
theorem dX1_partsBeside_20 : decode cX1_partsBeside 20 = .ok (.aload_n 0, 1) := by decide +kernel
theorem dX1_partsBeside_21 : decode cX1_partsBeside 21 = .ok (.getfield 43, 3) := by decide +kernel
theorem dX1_partsBeside_24 : decode cX1_partsBeside 24 = .ok (.iload_n 1, 1) := by decide +kernel
theorem dX1_partsBeside_25 : decode cX1_partsBeside 25 = .ok (.laload, 1) := by decide +kernel
theorem dX1_partsBeside_26 : decode cX1_partsBeside 26 = .ok (.lmul, 1) := by decide +kernel
theorem dX1_partsBeside_27 : decode cX1_partsBeside 27 = .ok (.ladd, 1) := by decide +kernel
theorem dX1_partsBeside_28 : decode cX1_partsBeside 28 = .ok (.lreturn, 1) := by decide +kernel
theorem dX1_partsBeside_29 : decode cX1_partsBeside 29 = .ok (.lconst 0, 1) := by decide +kernel
theorem dX1_partsBeside_30 : decode cX1_partsBeside 30 = .ok (.lstore 4, 2) := by decide +kernel
theorem dX1_partsBeside_32 : decode cX1_partsBeside 32 = .ok (.iconst 0, 1) := by decide +kernel
theorem dX1_partsBeside_33 : decode cX1_partsBeside 33 = .ok (.istore 6, 2) := by decide +kernel
theorem dX1_partsBeside_35 : decode cX1_partsBeside 35 = .ok (.iload 6, 2) := by decide +kernel
theorem dX1_partsBeside_37 : decode cX1_partsBeside 37 = .ok (.bipush 21, 2) := by decide +kernel
theorem dX1_partsBeside_39 : decode cX1_partsBeside 39 = .ok (.if_icmp .ge 46, 3) := by decide +kernel
theorem dX1_partsBeside_42 : decode cX1_partsBeside 42 = .ok (.lload 4, 2) := by decide +kernel
theorem dX1_partsBeside_44 : decode cX1_partsBeside 44 = .ok (.aload_n 0, 1) := by decide +kernel
theorem dX1_partsBeside_45 : decode cX1_partsBeside 45 = .ok (.getfield 43, 3) := by decide +kernel
theorem dX1_partsBeside_48 : decode cX1_partsBeside 48 = .ok (.iload 6, 2) := by decide +kernel
theorem dX1_partsBeside_50 : decode cX1_partsBeside 50 = .ok (.laload, 1) := by decide +kernel
theorem dX1_partsBeside_51 : decode cX1_partsBeside 51 = .ok (.iload_n 3, 1) := by decide +kernel
theorem dX1_partsBeside_52 : decode cX1_partsBeside 52 = .ok (.ifCond .eq 14, 3) := by decide +kernel
theorem dX1_partsBeside_55 : decode cX1_partsBeside 55 = .ok (.aload_n 0, 1) := by decide +kernel
theorem dX1_partsBeside_56 : decode cX1_partsBeside 56 = .ok (.iload_n 2, 1) := by decide +kernel
theorem dX1_partsBeside_57 : decode cX1_partsBeside 57 = .ok (.iload 6, 2) := by decide +kernel
theorem dX1_partsBeside_59 : decode cX1_partsBeside 59 = .ok (.iload_n 1, 1) := by decide +kernel
theorem dX1_partsBeside_60 : decode cX1_partsBeside 60 = .ok (.invokevirtual 142, 3) := by decide +kernel
theorem dX1_partsBeside_63 : decode cX1_partsBeside 63 = .ok (.goto 11, 3) := by decide +kernel
theorem dX1_partsBeside_66 : decode cX1_partsBeside 66 = .ok (.aload_n 0, 1) := by decide +kernel
theorem dX1_partsBeside_67 : decode cX1_partsBeside 67 = .ok (.iload_n 2, 1) := by decide +kernel
theorem dX1_partsBeside_68 : decode cX1_partsBeside 68 = .ok (.iload_n 1, 1) := by decide +kernel
theorem dX1_partsBeside_69 : decode cX1_partsBeside 69 = .ok (.iload 6, 2) := by decide +kernel
theorem dX1_partsBeside_71 : decode cX1_partsBeside 71 = .ok (.invokevirtual 142, 3) := by decide +kernel
theorem dX1_partsBeside_74 : decode cX1_partsBeside 74 = .ok (.i2l, 1) := by decide +kernel
theorem dX1_partsBeside_75 : decode cX1_partsBeside 75 = .ok (.lmul, 1) := by decide +kernel
theorem dX1_partsBeside_76 : decode cX1_partsBeside 76 = .ok (.ladd, 1) := by decide +kernel
theorem dX1_partsBeside_77 : decode cX1_partsBeside 77 = .ok (.lstore 4, 2) := by decide +kernel
theorem dX1_partsBeside_79 : decode cX1_partsBeside 79 = .ok (.iinc 6 1, 3) := by decide +kernel
theorem dX1_partsBeside_82 : decode cX1_partsBeside 82 = .ok (.goto (-47), 3) := by decide +kernel
theorem dX1_partsBeside_85 : decode cX1_partsBeside 85 = .ok (.lload 4, 2) := by decide +kernel
theorem dX1_partsBeside_87 : decode cX1_partsBeside 87 = .ok (.lreturn, 1) := by decide +kernel
theorem dX1_joint_0 : decode cX1_joint 0 = .ok (.iload_n 1, 1) := by decide +kernel
theorem dX1_joint_1 : decode cX1_joint 1 = .ok (.iconst 1, 1) := by decide +kernel
theorem dX1_joint_2 : decode cX1_joint 2 = .ok (.iadd, 1) := by decide +kernel
theorem dX1_joint_3 : decode cX1_joint 3 = .ok (.bipush 8, 2) := by decide +kernel
theorem dX1_joint_5 : decode cX1_joint 5 = .ok (.if_icmp .ge 42, 3) := by decide +kernel
theorem dX1_joint_8 : decode cX1_joint 8 = .ok (.aload_n 0, 1) := by decide +kernel
theorem dX1_joint_9 : decode cX1_joint 9 = .ok (.getfield 29, 3) := by decide +kernel
theorem dX1_joint_12 : decode cX1_joint 12 = .ok (.iload_n 1, 1) := by decide +kernel
theorem dX1_joint_13 : decode cX1_joint 13 = .ok (.iaload, 1) := by decide +kernel
theorem dX1_joint_14 : decode cX1_joint 14 = .ok (.ifCond .eq 33, 3) := by decide +kernel
theorem dX1_joint_17 : decode cX1_joint 17 = .ok (.aload_n 0, 1) := by decide +kernel
theorem dX1_joint_18 : decode cX1_joint 18 = .ok (.getfield 20, 3) := by decide +kernel
theorem dX1_joint_21 : decode cX1_joint 21 = .ok (.iload_n 1, 1) := by decide +kernel
theorem dX1_joint_22 : decode cX1_joint 22 = .ok (.iconst 1, 1) := by decide +kernel
theorem dX1_joint_23 : decode cX1_joint 23 = .ok (.iadd, 1) := by decide +kernel
theorem dX1_joint_24 : decode cX1_joint 24 = .ok (.aaload, 1) := by decide +kernel
theorem dX1_joint_25 : decode cX1_joint 25 = .ok (.iload_n 3, 1) := by decide +kernel
theorem dX1_joint_26 : decode cX1_joint 26 = .ok (.iaload, 1) := by decide +kernel
theorem dX1_joint_27 : decode cX1_joint 27 = .ok (.aload_n 0, 1) := by decide +kernel
theorem dX1_joint_28 : decode cX1_joint 28 = .ok (.getfield 20, 3) := by decide +kernel
theorem dX1_joint_31 : decode cX1_joint 31 = .ok (.iload_n 1, 1) := by decide +kernel
theorem dX1_joint_32 : decode cX1_joint 32 = .ok (.aaload, 1) := by decide +kernel
theorem dX1_joint_33 : decode cX1_joint 33 = .ok (.iload_n 2, 1) := by decide +kernel
theorem dX1_joint_34 : decode cX1_joint 34 = .ok (.iaload, 1) := by decide +kernel
theorem dX1_joint_35 : decode cX1_joint 35 = .ok (.isub, 1) := by decide +kernel
theorem dX1_joint_36 : decode cX1_joint 36 = .ok (.aload_n 0, 1) := by decide +kernel
theorem dX1_joint_37 : decode cX1_joint 37 = .ok (.getfield 29, 3) := by decide +kernel
theorem dX1_joint_40 : decode cX1_joint 40 = .ok (.iload_n 1, 1) := by decide +kernel
theorem dX1_joint_41 : decode cX1_joint 41 = .ok (.iaload, 1) := by decide +kernel
theorem dX1_joint_42 : decode cX1_joint 42 = .ok (.if_icmp .ge 5, 3) := by decide +kernel
theorem dX1_joint_45 : decode cX1_joint 45 = .ok (.iconst 0, 1) := by decide +kernel
theorem dX1_joint_46 : decode cX1_joint 46 = .ok (.ireturn, 1) := by decide +kernel
theorem dX1_joint_47 : decode cX1_joint 47 = .ok (.iload_n 2, 1) := by decide +kernel
theorem dX1_joint_48 : decode cX1_joint 48 = .ok (.iload_n 3, 1) := by decide +kernel
theorem dX1_joint_49 : decode cX1_joint 49 = .ok (.if_icmp .ne 10, 3) := by decide +kernel
theorem dX1_joint_52 : decode cX1_joint 52 = .ok (.aload_n 0, 1) := by decide +kernel
theorem dX1_joint_53 : decode cX1_joint 53 = .ok (.getfield 55, 3) := by decide +kernel
theorem dX1_joint_56 : decode cX1_joint 56 = .ok (.goto 4, 3) := by decide +kernel
theorem dX1_joint_59 : decode cX1_joint 59 = .ok (.iconst 1, 1) := by decide +kernel
theorem dX1_joint_60 : decode cX1_joint 60 = .ok (.ireturn, 1) := by decide +kernel
theorem dX1_weightOf_0 : decode cX1_weightOf 0 = .ok (.aload_n 0, 1) := by decide +kernel
theorem dX1_weightOf_1 : decode cX1_weightOf 1 = .ok (.getfield 17, 3) := by decide +kernel
theorem dX1_weightOf_4 : decode cX1_weightOf 4 = .ok (.iload_n 1, 1) := by decide +kernel
theorem dX1_weightOf_5 : decode cX1_weightOf 5 = .ok (.aaload, 1) := by decide +kernel
theorem dX1_weightOf_6 : decode cX1_weightOf 6 = .ok (.iload_n 2, 1) := by decide +kernel
theorem dX1_weightOf_7 : decode cX1_weightOf 7 = .ok (.iaload, 1) := by decide +kernel
theorem dX1_weightOf_8 : decode cX1_weightOf 8 = .ok (.ifCond .eq 5, 3) := by decide +kernel
theorem dX1_weightOf_11 : decode cX1_weightOf 11 = .ok (.lconst 0, 1) := by decide +kernel
theorem dX1_weightOf_12 : decode cX1_weightOf 12 = .ok (.lreturn, 1) := by decide +kernel
theorem dX1_weightOf_13 : decode cX1_weightOf 13 = .ok (.aload_n 0, 1) := by decide +kernel
theorem dX1_weightOf_14 : decode cX1_weightOf 14 = .ok (.getfield 34, 3) := by decide +kernel
theorem dX1_weightOf_17 : decode cX1_weightOf 17 = .ok (.iload_n 1, 1) := by decide +kernel
theorem dX1_weightOf_18 : decode cX1_weightOf 18 = .ok (.aaload, 1) := by decide +kernel
theorem dX1_weightOf_19 : decode cX1_weightOf 19 = .ok (.iload_n 2, 1) := by decide +kernel
theorem dX1_weightOf_20 : decode cX1_weightOf 20 = .ok (.laload, 1) := by decide +kernel
theorem dX1_weightOf_21 : decode cX1_weightOf 21 = .ok (.aload_n 0, 1) := by decide +kernel
theorem dX1_weightOf_22 : decode cX1_weightOf 22 = .ok (.getfield 9, 3) := by decide +kernel
theorem dX1_weightOf_25 : decode cX1_weightOf 25 = .ok (.iload_n 2, 1) := by decide +kernel
theorem dX1_weightOf_26 : decode cX1_weightOf 26 = .ok (.iaload, 1) := by decide +kernel
theorem dX1_weightOf_27 : decode cX1_weightOf 27 = .ok (.i2l, 1) := by decide +kernel
theorem dX1_weightOf_28 : decode cX1_weightOf 28 = .ok (.lmul, 1) := by decide +kernel
theorem dX1_weightOf_29 : decode cX1_weightOf 29 = .ok (.aload_n 0, 1) := by decide +kernel
theorem dX1_weightOf_30 : decode cX1_weightOf 30 = .ok (.getfield 37, 3) := by decide +kernel
theorem dX1_weightOf_33 : decode cX1_weightOf 33 = .ok (.iload_n 1, 1) := by decide +kernel
theorem dX1_weightOf_34 : decode cX1_weightOf 34 = .ok (.aaload, 1) := by decide +kernel
theorem dX1_weightOf_35 : decode cX1_weightOf 35 = .ok (.iload_n 2, 1) := by decide +kernel
theorem dX1_weightOf_36 : decode cX1_weightOf 36 = .ok (.laload, 1) := by decide +kernel
theorem dX1_weightOf_37 : decode cX1_weightOf 37 = .ok (.lmul, 1) := by decide +kernel
theorem dX1_weightOf_38 : decode cX1_weightOf 38 = .ok (.lreturn, 1) := by decide +kernel
theorem dX1_likeliestAt_0 : decode cX1_likeliestAt 0 = .ok (.aload_n 0, 1) := by decide +kernel
theorem dX1_likeliestAt_1 : decode cX1_likeliestAt 1 = .ok (.invokevirtual 146, 3) := by decide +kernel
theorem dX1_likeliestAt_4 : decode cX1_likeliestAt 4 = .ok (.iconst (-1), 1) := by decide +kernel
theorem dX1_likeliestAt_5 : decode cX1_likeliestAt 5 = .ok (.istore_n 2, 1) := by decide +kernel
theorem dX1_likeliestAt_6 : decode cX1_likeliestAt 6 = .ok (.iconst 0, 1) := by decide +kernel
theorem dX1_likeliestAt_7 : decode cX1_likeliestAt 7 = .ok (.istore_n 3, 1) := by decide +kernel
theorem dX1_likeliestAt_8 : decode cX1_likeliestAt 8 = .ok (.iload_n 3, 1) := by decide +kernel
theorem dX1_likeliestAt_9 : decode cX1_likeliestAt 9 = .ok (.iload_n 1, 1) := by decide +kernel
theorem dX1_likeliestAt_10 : decode cX1_likeliestAt 10 = .ok (.if_icmp .gt 22, 3) := by decide +kernel
theorem dX1_likeliestAt_13 : decode cX1_likeliestAt 13 = .ok (.iload_n 3, 1) := by decide +kernel
theorem dX1_likeliestAt_14 : decode cX1_likeliestAt 14 = .ok (.bipush 8, 2) := by decide +kernel
theorem dX1_likeliestAt_16 : decode cX1_likeliestAt 16 = .ok (.if_icmp .ge 16, 3) := by decide +kernel
theorem dX1_likeliestAt_19 : decode cX1_likeliestAt 19 = .ok (.aload_n 0, 1) := by decide +kernel
theorem dX1_likeliestAt_20 : decode cX1_likeliestAt 20 = .ok (.iload_n 3, 1) := by decide +kernel
theorem dX1_likeliestAt_21 : decode cX1_likeliestAt 21 = .ok (.iload_n 2, 1) := by decide +kernel
theorem dX1_likeliestAt_22 : decode cX1_likeliestAt 22 = .ok (.invokevirtual 149, 3) := by decide +kernel
theorem dX1_likeliestAt_25 : decode cX1_likeliestAt 25 = .ok (.istore_n 2, 1) := by decide +kernel
theorem dX1_likeliestAt_26 : decode cX1_likeliestAt 26 = .ok (.iinc 3 1, 3) := by decide +kernel
theorem dX1_likeliestAt_29 : decode cX1_likeliestAt 29 = .ok (.goto (-21), 3) := by decide +kernel
theorem dX1_likeliestAt_32 : decode cX1_likeliestAt 32 = .ok (.iload_n 2, 1) := by decide +kernel
theorem dX1_likeliestAt_33 : decode cX1_likeliestAt 33 = .ok (.ireturn, 1) := by decide +kernel
theorem dX1_reckonMost_0 : decode cX1_reckonMost 0 = .ok (.bipush 7, 2) := by decide +kernel
theorem dX1_reckonMost_2 : decode cX1_reckonMost 2 = .ok (.istore_n 1, 1) := by decide +kernel
theorem dX1_reckonMost_3 : decode cX1_reckonMost 3 = .ok (.iload_n 1, 1) := by decide +kernel
theorem dX1_reckonMost_4 : decode cX1_reckonMost 4 = .ok (.ifCond .lt 82, 3) := by decide +kernel
theorem dX1_reckonMost_7 : decode cX1_reckonMost 7 = .ok (.iconst 0, 1) := by decide +kernel
theorem dX1_reckonMost_8 : decode cX1_reckonMost 8 = .ok (.istore_n 2, 1) := by decide +kernel
theorem dX1_reckonMost_9 : decode cX1_reckonMost 9 = .ok (.iload_n 2, 1) := by decide +kernel
theorem dX1_reckonMost_10 : decode cX1_reckonMost 10 = .ok (.bipush 21, 2) := by decide +kernel
theorem dX1_reckonMost_12 : decode cX1_reckonMost 12 = .ok (.if_icmp .ge 68, 3) := by decide +kernel
theorem dX1_reckonMost_15 : decode cX1_reckonMost 15 = .ok (.iload_n 1, 1) := by decide +kernel
theorem dX1_reckonMost_16 : decode cX1_reckonMost 16 = .ok (.bipush 7, 2) := by decide +kernel
theorem dX1_reckonMost_18 : decode cX1_reckonMost 18 = .ok (.if_icmp .ne 7, 3) := by decide +kernel
theorem dX1_reckonMost_21 : decode cX1_reckonMost 21 = .ok (.lconst 1, 1) := by decide +kernel
theorem dX1_reckonMost_22 : decode cX1_reckonMost 22 = .ok (.goto 19, 3) := by decide +kernel
theorem dX1_reckonMost_25 : decode cX1_reckonMost 25 = .ok (.aload_n 0, 1) := by decide +kernel
theorem dX1_reckonMost_26 : decode cX1_reckonMost 26 = .ok (.iload_n 1, 1) := by decide +kernel
theorem dX1_reckonMost_27 : decode cX1_reckonMost 27 = .ok (.iconst 1, 1) := by decide +kernel
theorem dX1_reckonMost_28 : decode cX1_reckonMost 28 = .ok (.iadd, 1) := by decide +kernel
theorem dX1_reckonMost_29 : decode cX1_reckonMost 29 = .ok (.aload_n 0, 1) := by decide +kernel
theorem dX1_reckonMost_30 : decode cX1_reckonMost 30 = .ok (.iload_n 1, 1) := by decide +kernel
theorem dX1_reckonMost_31 : decode cX1_reckonMost 31 = .ok (.iconst 1, 1) := by decide +kernel
theorem dX1_reckonMost_32 : decode cX1_reckonMost 32 = .ok (.iadd, 1) := by decide +kernel
theorem dX1_reckonMost_33 : decode cX1_reckonMost 33 = .ok (.iload_n 2, 1) := by decide +kernel
theorem dX1_reckonMost_34 : decode cX1_reckonMost 34 = .ok (.invokevirtual 149, 3) := by decide +kernel
theorem dX1_reckonMost_37 : decode cX1_reckonMost 37 = .ok (.iload_n 2, 1) := by decide +kernel
theorem dX1_reckonMost_38 : decode cX1_reckonMost 38 = .ok (.invokevirtual 152, 3) := by decide +kernel
theorem dX1_reckonMost_41 : decode cX1_reckonMost 41 = .ok (.lstore_n 3, 1) := by decide +kernel
theorem dX1_reckonMost_42 : decode cX1_reckonMost 42 = .ok (.aload_n 0, 1) := by decide +kernel
theorem dX1_reckonMost_43 : decode cX1_reckonMost 43 = .ok (.getfield 40, 3) := by decide +kernel
theorem dX1_reckonMost_46 : decode cX1_reckonMost 46 = .ok (.iload_n 1, 1) := by decide +kernel
theorem dX1_reckonMost_47 : decode cX1_reckonMost 47 = .ok (.aaload, 1) := by decide +kernel
theorem dX1_reckonMost_48 : decode cX1_reckonMost 48 = .ok (.iload_n 2, 1) := by decide +kernel
theorem dX1_reckonMost_49 : decode cX1_reckonMost 49 = .ok (.aload_n 0, 1) := by decide +kernel
theorem dX1_reckonMost_50 : decode cX1_reckonMost 50 = .ok (.getfield 17, 3) := by decide +kernel
theorem dX1_reckonMost_53 : decode cX1_reckonMost 53 = .ok (.iload_n 1, 1) := by decide +kernel
theorem dX1_reckonMost_54 : decode cX1_reckonMost 54 = .ok (.aaload, 1) := by decide +kernel
theorem dX1_reckonMost_55 : decode cX1_reckonMost 55 = .ok (.iload_n 2, 1) := by decide +kernel
theorem dX1_reckonMost_56 : decode cX1_reckonMost 56 = .ok (.iaload, 1) := by decide +kernel
theorem dX1_reckonMost_57 : decode cX1_reckonMost 57 = .ok (.ifCond .ne 15, 3) := by decide +kernel
theorem dX1_reckonMost_60 : decode cX1_reckonMost 60 = .ok (.aload_n 0, 1) := by decide +kernel
theorem dX1_reckonMost_61 : decode cX1_reckonMost 61 = .ok (.getfield 9, 3) := by decide +kernel
theorem dX1_reckonMost_64 : decode cX1_reckonMost 64 = .ok (.iload_n 2, 1) := by decide +kernel
theorem dX1_reckonMost_65 : decode cX1_reckonMost 65 = .ok (.iaload, 1) := by decide +kernel
theorem dX1_reckonMost_66 : decode cX1_reckonMost 66 = .ok (.i2l, 1) := by decide +kernel
theorem dX1_reckonMost_67 : decode cX1_reckonMost 67 = .ok (.lload_n 3, 1) := by decide +kernel
theorem dX1_reckonMost_68 : decode cX1_reckonMost 68 = .ok (.lmul, 1) := by decide +kernel
theorem dX1_reckonMost_69 : decode cX1_reckonMost 69 = .ok (.goto 4, 3) := by decide +kernel
theorem dX1_reckonMost_72 : decode cX1_reckonMost 72 = .ok (.lconst 0, 1) := by decide +kernel
theorem dX1_reckonMost_73 : decode cX1_reckonMost 73 = .ok (.lastore, 1) := by decide +kernel
theorem dX1_reckonMost_74 : decode cX1_reckonMost 74 = .ok (.iinc 2 1, 3) := by decide +kernel
theorem dX1_reckonMost_77 : decode cX1_reckonMost 77 = .ok (.goto (-68), 3) := by decide +kernel
theorem dX1_reckonMost_80 : decode cX1_reckonMost 80 = .ok (.iinc 1 (-1), 3) := by decide +kernel
theorem dX1_reckonMost_83 : decode cX1_reckonMost 83 = .ok (.goto (-80), 3) := by decide +kernel
theorem dX1_reckonMost_86 : decode cX1_reckonMost 86 = .ok (.return_, 1) := by decide +kernel
theorem dX1_bestNext_0 : decode cX1_bestNext 0 = .ok (.iconst 0, 1) := by decide +kernel
theorem dX1_bestNext_1 : decode cX1_bestNext 1 = .ok (.istore_n 3, 1) := by decide +kernel
theorem dX1_bestNext_2 : decode cX1_bestNext 2 = .ok (.iconst 1, 1) := by decide +kernel
theorem dX1_bestNext_3 : decode cX1_bestNext 3 = .ok (.istore 4, 2) := by decide +kernel
theorem dX1_bestNext_5 : decode cX1_bestNext 5 = .ok (.iload 4, 2) := by decide +kernel
theorem dX1_bestNext_7 : decode cX1_bestNext 7 = .ok (.bipush 21, 2) := by decide +kernel
theorem dX1_bestNext_9 : decode cX1_bestNext 9 = .ok (.if_icmp .ge 31, 3) := by decide +kernel
theorem dX1_bestNext_12 : decode cX1_bestNext 12 = .ok (.aload_n 0, 1) := by decide +kernel
theorem dX1_bestNext_13 : decode cX1_bestNext 13 = .ok (.iload_n 1, 1) := by decide +kernel
theorem dX1_bestNext_14 : decode cX1_bestNext 14 = .ok (.iload 4, 2) := by decide +kernel
theorem dX1_bestNext_16 : decode cX1_bestNext 16 = .ok (.iload_n 2, 1) := by decide +kernel
theorem dX1_bestNext_17 : decode cX1_bestNext 17 = .ok (.invokevirtual 152, 3) := by decide +kernel
theorem dX1_bestNext_20 : decode cX1_bestNext 20 = .ok (.aload_n 0, 1) := by decide +kernel
theorem dX1_bestNext_21 : decode cX1_bestNext 21 = .ok (.iload_n 1, 1) := by decide +kernel
theorem dX1_bestNext_22 : decode cX1_bestNext 22 = .ok (.iload_n 3, 1) := by decide +kernel
theorem dX1_bestNext_23 : decode cX1_bestNext 23 = .ok (.iload_n 2, 1) := by decide +kernel
theorem dX1_bestNext_24 : decode cX1_bestNext 24 = .ok (.invokevirtual 152, 3) := by decide +kernel
theorem dX1_bestNext_27 : decode cX1_bestNext 27 = .ok (.lcmp, 1) := by decide +kernel
theorem dX1_bestNext_28 : decode cX1_bestNext 28 = .ok (.ifCond .le 6, 3) := by decide +kernel
theorem dX1_bestNext_31 : decode cX1_bestNext 31 = .ok (.iload 4, 2) := by decide +kernel
theorem dX1_bestNext_33 : decode cX1_bestNext 33 = .ok (.istore_n 3, 1) := by decide +kernel
theorem dX1_bestNext_34 : decode cX1_bestNext 34 = .ok (.iinc 4 1, 3) := by decide +kernel
theorem dX1_bestNext_37 : decode cX1_bestNext 37 = .ok (.goto (-32), 3) := by decide +kernel
theorem dX1_bestNext_40 : decode cX1_bestNext 40 = .ok (.iload_n 3, 1) := by decide +kernel
theorem dX1_bestNext_41 : decode cX1_bestNext 41 = .ok (.ireturn, 1) := by decide +kernel
theorem dX1_mostNext_0 : decode cX1_mostNext 0 = .ok (.iload_n 1, 1) := by decide +kernel
theorem dX1_mostNext_1 : decode cX1_mostNext 1 = .ok (.ifCond .eq 8, 3) := by decide +kernel
theorem dX1_mostNext_4 : decode cX1_mostNext 4 = .ok (.iload_n 3, 1) := by decide +kernel
theorem dX1_mostNext_5 : decode cX1_mostNext 5 = .ok (.iconst (-1), 1) := by decide +kernel
theorem dX1_mostNext_6 : decode cX1_mostNext 6 = .ok (.if_icmp .ne 12, 3) := by decide +kernel
theorem dX1_mostNext_9 : decode cX1_mostNext 9 = .ok (.aload_n 0, 1) := by decide +kernel
theorem dX1_mostNext_10 : decode cX1_mostNext 10 = .ok (.getfield 40, 3) := by decide +kernel
theorem dX1_mostNext_13 : decode cX1_mostNext 13 = .ok (.iload_n 1, 1) := by decide +kernel
theorem dX1_mostNext_14 : decode cX1_mostNext 14 = .ok (.aaload, 1) := by decide +kernel
theorem dX1_mostNext_15 : decode cX1_mostNext 15 = .ok (.iload_n 2, 1) := by decide +kernel
theorem dX1_mostNext_16 : decode cX1_mostNext 16 = .ok (.laload, 1) := by decide +kernel
theorem dX1_mostNext_17 : decode cX1_mostNext 17 = .ok (.lreturn, 1) := by decide +kernel
theorem dX1_mostNext_18 : decode cX1_mostNext 18 = .ok (.aload_n 0, 1) := by decide +kernel
theorem dX1_mostNext_19 : decode cX1_mostNext 19 = .ok (.getfield 40, 3) := by decide +kernel
theorem dX1_mostNext_22 : decode cX1_mostNext 22 = .ok (.iload_n 1, 1) := by decide +kernel
theorem dX1_mostNext_23 : decode cX1_mostNext 23 = .ok (.aaload, 1) := by decide +kernel
theorem dX1_mostNext_24 : decode cX1_mostNext 24 = .ok (.iload_n 2, 1) := by decide +kernel
theorem dX1_mostNext_25 : decode cX1_mostNext 25 = .ok (.laload, 1) := by decide +kernel
theorem dX1_mostNext_26 : decode cX1_mostNext 26 = .ok (.aload_n 0, 1) := by decide +kernel
theorem dX1_mostNext_27 : decode cX1_mostNext 27 = .ok (.iload_n 1, 1) := by decide +kernel
theorem dX1_mostNext_28 : decode cX1_mostNext 28 = .ok (.iconst 1, 1) := by decide +kernel
theorem dX1_mostNext_29 : decode cX1_mostNext 29 = .ok (.isub, 1) := by decide +kernel
theorem dX1_mostNext_30 : decode cX1_mostNext 30 = .ok (.iload_n 3, 1) := by decide +kernel
theorem dX1_mostNext_31 : decode cX1_mostNext 31 = .ok (.iload_n 2, 1) := by decide +kernel
theorem dX1_mostNext_32 : decode cX1_mostNext 32 = .ok (.invokevirtual 142, 3) := by decide +kernel
theorem dX1_mostNext_35 : decode cX1_mostNext 35 = .ok (.i2l, 1) := by decide +kernel
theorem dX1_mostNext_36 : decode cX1_mostNext 36 = .ok (.lmul, 1) := by decide +kernel
theorem dX1_mostNext_37 : decode cX1_mostNext 37 = .ok (.lreturn, 1) := by decide +kernel
theorem dX1_seekHalf_0 : decode cX1_seekHalf 0 = .ok (.aload_n 0, 1) := by decide +kernel
theorem dX1_seekHalf_1 : decode cX1_seekHalf 1 = .ok (.iconst (-1), 1) := by decide +kernel
theorem dX1_seekHalf_2 : decode cX1_seekHalf 2 = .ok (.putfield 156, 3) := by decide +kernel
theorem dX1_seekHalf_5 : decode cX1_seekHalf 5 = .ok (.iconst 0, 1) := by decide +kernel
theorem dX1_seekHalf_6 : decode cX1_seekHalf 6 = .ok (.istore_n 2, 1) := by decide +kernel
theorem dX1_seekHalf_7 : decode cX1_seekHalf 7 = .ok (.iload_n 2, 1) := by decide +kernel
theorem dX1_seekHalf_8 : decode cX1_seekHalf 8 = .ok (.bipush 8, 2) := by decide +kernel
theorem dX1_seekHalf_10 : decode cX1_seekHalf 10 = .ok (.if_icmp .ge 106, 3) := by decide +kernel
theorem dX1_seekHalf_13 : decode cX1_seekHalf 13 = .ok (.aload_n 0, 1) := by decide +kernel
theorem dX1_seekHalf_14 : decode cX1_seekHalf 14 = .ok (.aload_n 1, 1) := by decide +kernel
theorem dX1_seekHalf_15 : decode cX1_seekHalf 15 = .ok (.iload_n 2, 1) := by decide +kernel
theorem dX1_seekHalf_16 : decode cX1_seekHalf 16 = .ok (.invokevirtual 159, 3) := by decide +kernel
theorem dX1_seekHalf_19 : decode cX1_seekHalf 19 = .ok (.iconst 0, 1) := by decide +kernel
theorem dX1_seekHalf_20 : decode cX1_seekHalf 20 = .ok (.istore_n 3, 1) := by decide +kernel
theorem dX1_seekHalf_21 : decode cX1_seekHalf 21 = .ok (.iload_n 3, 1) := by decide +kernel
theorem dX1_seekHalf_22 : decode cX1_seekHalf 22 = .ok (.iconst 4, 1) := by decide +kernel
theorem dX1_seekHalf_23 : decode cX1_seekHalf 23 = .ok (.if_icmp .ge 87, 3) := by decide +kernel
theorem dX1_seekHalf_26 : decode cX1_seekHalf 26 = .ok (.aload_n 0, 1) := by decide +kernel
theorem dX1_seekHalf_27 : decode cX1_seekHalf 27 = .ok (.getfield 47, 3) := by decide +kernel
theorem dX1_seekHalf_30 : decode cX1_seekHalf 30 = .ok (.iload_n 3, 1) := by decide +kernel
theorem dX1_seekHalf_31 : decode cX1_seekHalf 31 = .ok (.laload, 1) := by decide +kernel
theorem dX1_seekHalf_32 : decode cX1_seekHalf 32 = .ok (.lstore 4, 2) := by decide +kernel
theorem dX1_seekHalf_34 : decode cX1_seekHalf 34 = .ok (.aload_n 0, 1) := by decide +kernel
theorem dX1_seekHalf_35 : decode cX1_seekHalf 35 = .ok (.getfield 139, 3) := by decide +kernel
theorem dX1_seekHalf_38 : decode cX1_seekHalf 38 = .ok (.lload 4, 2) := by decide +kernel
theorem dX1_seekHalf_40 : decode cX1_seekHalf 40 = .ok (.lsub, 1) := by decide +kernel
theorem dX1_seekHalf_41 : decode cX1_seekHalf 41 = .ok (.lstore 6, 2) := by decide +kernel
theorem dX1_seekHalf_43 : decode cX1_seekHalf 43 = .ok (.lload 4, 2) := by decide +kernel
theorem dX1_seekHalf_45 : decode cX1_seekHalf 45 = .ok (.lload 6, 2) := by decide +kernel
theorem dX1_seekHalf_47 : decode cX1_seekHalf 47 = .ok (.invokestatic 163, 3) := by decide +kernel
theorem dX1_seekHalf_50 : decode cX1_seekHalf 50 = .ok (.ifCond .eq 11, 3) := by decide +kernel
theorem dX1_seekHalf_53 : decode cX1_seekHalf 53 = .ok (.lload 6, 2) := by decide +kernel
theorem dX1_seekHalf_55 : decode cX1_seekHalf 55 = .ok (.lload 4, 2) := by decide +kernel
theorem dX1_seekHalf_57 : decode cX1_seekHalf 57 = .ok (.lsub, 1) := by decide +kernel
theorem dX1_seekHalf_58 : decode cX1_seekHalf 58 = .ok (.goto 8, 3) := by decide +kernel
theorem dX1_seekHalf_61 : decode cX1_seekHalf 61 = .ok (.lload 4, 2) := by decide +kernel
theorem dX1_seekHalf_63 : decode cX1_seekHalf 63 = .ok (.lload 6, 2) := by decide +kernel
theorem dX1_seekHalf_65 : decode cX1_seekHalf 65 = .ok (.lsub, 1) := by decide +kernel
theorem dX1_seekHalf_66 : decode cX1_seekHalf 66 = .ok (.lstore 8, 2) := by decide +kernel
theorem dX1_seekHalf_68 : decode cX1_seekHalf 68 = .ok (.aload_n 0, 1) := by decide +kernel
theorem dX1_seekHalf_69 : decode cX1_seekHalf 69 = .ok (.getfield 156, 3) := by decide +kernel
theorem dX1_seekHalf_72 : decode cX1_seekHalf 72 = .ok (.iconst (-1), 1) := by decide +kernel
theorem dX1_seekHalf_73 : decode cX1_seekHalf 73 = .ok (.if_icmp .eq 15, 3) := by decide +kernel
theorem dX1_seekHalf_76 : decode cX1_seekHalf 76 = .ok (.lload 8, 2) := by decide +kernel
theorem dX1_seekHalf_78 : decode cX1_seekHalf 78 = .ok (.aload_n 0, 1) := by decide +kernel
theorem dX1_seekHalf_79 : decode cX1_seekHalf 79 = .ok (.getfield 167, 3) := by decide +kernel
theorem dX1_seekHalf_82 : decode cX1_seekHalf 82 = .ok (.invokestatic 163, 3) := by decide +kernel
theorem dX1_seekHalf_85 : decode cX1_seekHalf 85 = .ok (.ifCond .eq 19, 3) := by decide +kernel
theorem dX1_seekHalf_88 : decode cX1_seekHalf 88 = .ok (.aload_n 0, 1) := by decide +kernel
theorem dX1_seekHalf_89 : decode cX1_seekHalf 89 = .ok (.bipush 10, 2) := by decide +kernel
theorem dX1_seekHalf_91 : decode cX1_seekHalf 91 = .ok (.iload_n 2, 1) := by decide +kernel
theorem dX1_seekHalf_92 : decode cX1_seekHalf 92 = .ok (.imul, 1) := by decide +kernel
theorem dX1_seekHalf_93 : decode cX1_seekHalf 93 = .ok (.iload_n 3, 1) := by decide +kernel
theorem dX1_seekHalf_94 : decode cX1_seekHalf 94 = .ok (.iadd, 1) := by decide +kernel
theorem dX1_seekHalf_95 : decode cX1_seekHalf 95 = .ok (.putfield 156, 3) := by decide +kernel
theorem dX1_seekHalf_98 : decode cX1_seekHalf 98 = .ok (.aload_n 0, 1) := by decide +kernel
theorem dX1_seekHalf_99 : decode cX1_seekHalf 99 = .ok (.lload 8, 2) := by decide +kernel
theorem dX1_seekHalf_101 : decode cX1_seekHalf 101 = .ok (.putfield 167, 3) := by decide +kernel
theorem dX1_seekHalf_104 : decode cX1_seekHalf 104 = .ok (.iinc 3 1, 3) := by decide +kernel
theorem dX1_seekHalf_107 : decode cX1_seekHalf 107 = .ok (.goto (-86), 3) := by decide +kernel
theorem dX1_seekHalf_110 : decode cX1_seekHalf 110 = .ok (.iinc 2 1, 3) := by decide +kernel
theorem dX1_seekHalf_113 : decode cX1_seekHalf 113 = .ok (.goto (-106), 3) := by decide +kernel
theorem dX1_seekHalf_116 : decode cX1_seekHalf 116 = .ok (.return_, 1) := by decide +kernel
theorem dX1_weighLamps_0 : decode cX1_weighLamps 0 = .ok (.iconst 0, 1) := by decide +kernel
theorem dX1_weighLamps_1 : decode cX1_weighLamps 1 = .ok (.istore_n 3, 1) := by decide +kernel
theorem dX1_weighLamps_2 : decode cX1_weighLamps 2 = .ok (.iload_n 3, 1) := by decide +kernel
theorem dX1_weighLamps_3 : decode cX1_weighLamps 3 = .ok (.iconst 4, 1) := by decide +kernel
theorem dX1_weighLamps_4 : decode cX1_weighLamps 4 = .ok (.if_icmp .ge 16, 3) := by decide +kernel
theorem dX1_weighLamps_7 : decode cX1_weighLamps 7 = .ok (.aload_n 0, 1) := by decide +kernel
theorem dX1_weighLamps_8 : decode cX1_weighLamps 8 = .ok (.getfield 47, 3) := by decide +kernel
theorem dX1_weighLamps_11 : decode cX1_weighLamps 11 = .ok (.iload_n 3, 1) := by decide +kernel
theorem dX1_weighLamps_12 : decode cX1_weighLamps 12 = .ok (.lconst 0, 1) := by decide +kernel
theorem dX1_weighLamps_13 : decode cX1_weighLamps 13 = .ok (.lastore, 1) := by decide +kernel
theorem dX1_weighLamps_14 : decode cX1_weighLamps 14 = .ok (.iinc 3 1, 3) := by decide +kernel
theorem dX1_weighLamps_17 : decode cX1_weighLamps 17 = .ok (.goto (-15), 3) := by decide +kernel
theorem dX1_weighLamps_20 : decode cX1_weighLamps 20 = .ok (.iconst 0, 1) := by decide +kernel
theorem dX1_weighLamps_21 : decode cX1_weighLamps 21 = .ok (.istore_n 3, 1) := by decide +kernel
theorem dX1_weighLamps_22 : decode cX1_weighLamps 22 = .ok (.iload_n 3, 1) := by decide +kernel
theorem dX1_weighLamps_23 : decode cX1_weighLamps 23 = .ok (.bipush 21, 2) := by decide +kernel
theorem dX1_weighLamps_25 : decode cX1_weighLamps 25 = .ok (.if_icmp .ge 66, 3) := by decide +kernel
theorem dX1_weighLamps_28 : decode cX1_weighLamps 28 = .ok (.aload_n 0, 1) := by decide +kernel
theorem dX1_weighLamps_29 : decode cX1_weighLamps 29 = .ok (.iload_n 2, 1) := by decide +kernel
theorem dX1_weighLamps_30 : decode cX1_weighLamps 30 = .ok (.iload_n 3, 1) := by decide +kernel
theorem dX1_weighLamps_31 : decode cX1_weighLamps 31 = .ok (.invokevirtual 170, 3) := by decide +kernel
theorem dX1_weighLamps_34 : decode cX1_weighLamps 34 = .ok (.lstore 4, 2) := by decide +kernel
theorem dX1_weighLamps_36 : decode cX1_weighLamps 36 = .ok (.aload_n 1, 1) := by decide +kernel
theorem dX1_weighLamps_37 : decode cX1_weighLamps 37 = .ok (.getfield 174, 3) := by decide +kernel
theorem dX1_weighLamps_40 : decode cX1_weighLamps 40 = .ok (.iload_n 2, 1) := by decide +kernel
theorem dX1_weighLamps_41 : decode cX1_weighLamps 41 = .ok (.invokestatic 69, 3) := by decide +kernel
theorem dX1_weighLamps_44 : decode cX1_weighLamps 44 = .ok (.aaload, 1) := by decide +kernel
theorem dX1_weighLamps_45 : decode cX1_weighLamps 45 = .ok (.iload_n 3, 1) := by decide +kernel
theorem dX1_weighLamps_46 : decode cX1_weighLamps 46 = .ok (.iaload, 1) := by decide +kernel
theorem dX1_weighLamps_47 : decode cX1_weighLamps 47 = .ok (.istore 6, 2) := by decide +kernel
theorem dX1_weighLamps_49 : decode cX1_weighLamps 49 = .ok (.iconst 0, 1) := by decide +kernel
theorem dX1_weighLamps_50 : decode cX1_weighLamps 50 = .ok (.istore 7, 2) := by decide +kernel
theorem dX1_weighLamps_52 : decode cX1_weighLamps 52 = .ok (.iload 7, 2) := by decide +kernel
theorem dX1_weighLamps_54 : decode cX1_weighLamps 54 = .ok (.iconst 4, 1) := by decide +kernel
theorem dX1_weighLamps_55 : decode cX1_weighLamps 55 = .ok (.if_icmp .ge 30, 3) := by decide +kernel
theorem dX1_weighLamps_58 : decode cX1_weighLamps 58 = .ok (.aload_n 0, 1) := by decide +kernel
theorem dX1_weighLamps_59 : decode cX1_weighLamps 59 = .ok (.getfield 47, 3) := by decide +kernel
theorem dX1_weighLamps_62 : decode cX1_weighLamps 62 = .ok (.iload 7, 2) := by decide +kernel
theorem dX1_weighLamps_64 : decode cX1_weighLamps 64 = .ok (.dup2, 1) := by decide +kernel
theorem dX1_weighLamps_65 : decode cX1_weighLamps 65 = .ok (.laload, 1) := by decide +kernel
theorem dX1_weighLamps_66 : decode cX1_weighLamps 66 = .ok (.iload 6, 2) := by decide +kernel
theorem dX1_weighLamps_68 : decode cX1_weighLamps 68 = .ok (.iload 7, 2) := by decide +kernel
theorem dX1_weighLamps_70 : decode cX1_weighLamps 70 = .ok (.ishr, 1) := by decide +kernel
theorem dX1_weighLamps_71 : decode cX1_weighLamps 71 = .ok (.iconst 1, 1) := by decide +kernel
theorem dX1_weighLamps_72 : decode cX1_weighLamps 72 = .ok (.iand, 1) := by decide +kernel
theorem dX1_weighLamps_73 : decode cX1_weighLamps 73 = .ok (.i2l, 1) := by decide +kernel
theorem dX1_weighLamps_74 : decode cX1_weighLamps 74 = .ok (.lload 4, 2) := by decide +kernel
theorem dX1_weighLamps_76 : decode cX1_weighLamps 76 = .ok (.lmul, 1) := by decide +kernel
theorem dX1_weighLamps_77 : decode cX1_weighLamps 77 = .ok (.ladd, 1) := by decide +kernel
theorem dX1_weighLamps_78 : decode cX1_weighLamps 78 = .ok (.lastore, 1) := by decide +kernel
theorem dX1_weighLamps_79 : decode cX1_weighLamps 79 = .ok (.iinc 7 1, 3) := by decide +kernel
theorem dX1_weighLamps_82 : decode cX1_weighLamps 82 = .ok (.goto (-30), 3) := by decide +kernel
theorem dX1_weighLamps_85 : decode cX1_weighLamps 85 = .ok (.iinc 3 1, 3) := by decide +kernel
theorem dX1_weighLamps_88 : decode cX1_weighLamps 88 = .ok (.goto (-66), 3) := by decide +kernel
theorem dX1_weighLamps_91 : decode cX1_weighLamps 91 = .ok (.return_, 1) := by decide +kernel
theorem dX2_init_0 : decode cX2_init 0 = .ok (.aload_n 0, 1) := by decide +kernel
theorem dX2_init_1 : decode cX2_init 1 = .ok (.invokespecial 3, 3) := by decide +kernel
theorem dX2_init_4 : decode cX2_init 4 = .ok (.aload_n 0, 1) := by decide +kernel
theorem dX2_init_5 : decode cX2_init 5 = .ok (.iconst 4, 1) := by decide +kernel
theorem dX2_init_6 : decode cX2_init 6 = .ok (.newarray .int, 2) := by decide +kernel
theorem dX2_init_8 : decode cX2_init 8 = .ok (.putfield 9, 3) := by decide +kernel
theorem dX2_init_11 : decode cX2_init 11 = .ok (.aload_n 0, 1) := by decide +kernel
theorem dX2_init_12 : decode cX2_init 12 = .ok (.iconst 4, 1) := by decide +kernel
theorem dX2_init_13 : decode cX2_init 13 = .ok (.newarray .int, 2) := by decide +kernel
theorem dX2_init_15 : decode cX2_init 15 = .ok (.putfield 15, 3) := by decide +kernel
theorem dX2_init_18 : decode cX2_init 18 = .ok (.aload_n 0, 1) := by decide +kernel
theorem dX2_init_19 : decode cX2_init 19 = .ok (.iconst 4, 1) := by decide +kernel
theorem dX2_init_20 : decode cX2_init 20 = .ok (.newarray .int, 2) := by decide +kernel
theorem dX2_init_22 : decode cX2_init 22 = .ok (.putfield 18, 3) := by decide +kernel
theorem dX2_init_25 : decode cX2_init 25 = .ok (.aload_n 0, 1) := by decide +kernel
theorem dX2_init_26 : decode cX2_init 26 = .ok (.iconst 4, 1) := by decide +kernel
theorem dX2_init_27 : decode cX2_init 27 = .ok (.newarray .int, 2) := by decide +kernel
theorem dX2_init_29 : decode cX2_init 29 = .ok (.putfield 21, 3) := by decide +kernel
theorem dX2_init_32 : decode cX2_init 32 = .ok (.aload_n 0, 1) := by decide +kernel
theorem dX2_init_33 : decode cX2_init 33 = .ok (.bipush 7, 2) := by decide +kernel
theorem dX2_init_35 : decode cX2_init 35 = .ok (.newarray .int, 2) := by decide +kernel
theorem dX2_init_37 : decode cX2_init 37 = .ok (.putfield 24, 3) := by decide +kernel
theorem dX2_init_40 : decode cX2_init 40 = .ok (.aload_n 0, 1) := by decide +kernel
theorem dX2_init_41 : decode cX2_init 41 = .ok (.bipush 21, 2) := by decide +kernel
theorem dX2_init_43 : decode cX2_init 43 = .ok (.newarray .int, 2) := by decide +kernel
theorem dX2_init_45 : decode cX2_init 45 = .ok (.putfield 27, 3) := by decide +kernel
theorem dX2_init_48 : decode cX2_init 48 = .ok (.aload_n 0, 1) := by decide +kernel
theorem dX2_init_49 : decode cX2_init 49 = .ok (.bipush 20, 2) := by decide +kernel
theorem dX2_init_51 : decode cX2_init 51 = .ok (.newarray .int, 2) := by decide +kernel
theorem dX2_init_53 : decode cX2_init 53 = .ok (.putfield 30, 3) := by decide +kernel
theorem dX2_init_56 : decode cX2_init 56 = .ok (.aload_n 0, 1) := by decide +kernel
theorem dX2_init_57 : decode cX2_init 57 = .ok (.bipush 20, 2) := by decide +kernel
theorem dX2_init_59 : decode cX2_init 59 = .ok (.newarray .int, 2) := by decide +kernel
theorem dX2_init_61 : decode cX2_init 61 = .ok (.putfield 33, 3) := by decide +kernel
theorem dX2_init_64 : decode cX2_init 64 = .ok (.aload_n 0, 1) := by decide +kernel
theorem dX2_init_65 : decode cX2_init 65 = .ok (.bipush 20, 2) := by decide +kernel
theorem dX2_init_67 : decode cX2_init 67 = .ok (.newarray .int, 2) := by decide +kernel
theorem dX2_init_69 : decode cX2_init 69 = .ok (.putfield 36, 3) := by decide +kernel
theorem dX2_init_72 : decode cX2_init 72 = .ok (.aload_n 0, 1) := by decide +kernel
theorem dX2_init_73 : decode cX2_init 73 = .ok (.bipush 20, 2) := by decide +kernel
theorem dX2_init_75 : decode cX2_init 75 = .ok (.newarray .int, 2) := by decide +kernel
theorem dX2_init_77 : decode cX2_init 77 = .ok (.putfield 39, 3) := by decide +kernel
theorem dX2_init_80 : decode cX2_init 80 = .ok (.aload_n 0, 1) := by decide +kernel
theorem dX2_init_81 : decode cX2_init 81 = .ok (.bipush 48, 2) := by decide +kernel
theorem dX2_init_83 : decode cX2_init 83 = .ok (.newarray .int, 2) := by decide +kernel
theorem dX2_init_85 : decode cX2_init 85 = .ok (.putfield 42, 3) := by decide +kernel
theorem dX2_init_88 : decode cX2_init 88 = .ok (.aload_n 0, 1) := by decide +kernel
theorem dX2_init_89 : decode cX2_init 89 = .ok (.invokevirtual 45, 3) := by decide +kernel
theorem dX2_init_92 : decode cX2_init 92 = .ok (.return_, 1) := by decide +kernel
theorem dX2_beAtFirst_0 : decode cX2_beAtFirst 0 = .ok (.aload_n 0, 1) := by decide +kernel
theorem dX2_beAtFirst_1 : decode cX2_beAtFirst 1 = .ok (.iconst 0, 1) := by decide +kernel
theorem dX2_beAtFirst_2 : decode cX2_beAtFirst 2 = .ok (.putfield 48, 3) := by decide +kernel
theorem dX2_beAtFirst_5 : decode cX2_beAtFirst 5 = .ok (.aload_n 0, 1) := by decide +kernel
theorem dX2_beAtFirst_6 : decode cX2_beAtFirst 6 = .ok (.iconst 0, 1) := by decide +kernel
theorem dX2_beAtFirst_7 : decode cX2_beAtFirst 7 = .ok (.putfield 52, 3) := by decide +kernel
theorem dX2_beAtFirst_10 : decode cX2_beAtFirst 10 = .ok (.getstatic 55, 3) := by decide +kernel
theorem dX2_beAtFirst_13 : decode cX2_beAtFirst 13 = .ok (.iconst 0, 1) := by decide +kernel
theorem dX2_beAtFirst_14 : decode cX2_beAtFirst 14 = .ok (.aload_n 0, 1) := by decide +kernel
theorem dX2_beAtFirst_15 : decode cX2_beAtFirst 15 = .ok (.getfield 24, 3) := by decide +kernel
theorem dX2_beAtFirst_18 : decode cX2_beAtFirst 18 = .ok (.iconst 0, 1) := by decide +kernel
theorem dX2_beAtFirst_19 : decode cX2_beAtFirst 19 = .ok (.bipush 7, 2) := by decide +kernel
theorem dX2_beAtFirst_21 : decode cX2_beAtFirst 21 = .ok (.invokestatic 58, 3) := by decide +kernel
theorem dX2_beAtFirst_24 : decode cX2_beAtFirst 24 = .ok (.iconst 0, 1) := by decide +kernel
theorem dX2_beAtFirst_25 : decode cX2_beAtFirst 25 = .ok (.istore_n 1, 1) := by decide +kernel
theorem dX2_beAtFirst_26 : decode cX2_beAtFirst 26 = .ok (.iload_n 1, 1) := by decide +kernel
theorem dX2_beAtFirst_27 : decode cX2_beAtFirst 27 = .ok (.bipush 21, 2) := by decide +kernel
theorem dX2_beAtFirst_29 : decode cX2_beAtFirst 29 = .ok (.if_icmp .ge 16, 3) := by decide +kernel
theorem dX2_beAtFirst_32 : decode cX2_beAtFirst 32 = .ok (.aload_n 0, 1) := by decide +kernel
theorem dX2_beAtFirst_33 : decode cX2_beAtFirst 33 = .ok (.getfield 27, 3) := by decide +kernel
theorem dX2_beAtFirst_36 : decode cX2_beAtFirst 36 = .ok (.iload_n 1, 1) := by decide +kernel
theorem dX2_beAtFirst_37 : decode cX2_beAtFirst 37 = .ok (.iconst 1, 1) := by decide +kernel
theorem dX2_beAtFirst_38 : decode cX2_beAtFirst 38 = .ok (.iastore, 1) := by decide +kernel
theorem dX2_beAtFirst_39 : decode cX2_beAtFirst 39 = .ok (.iinc 1 1, 3) := by decide +kernel
theorem dX2_beAtFirst_42 : decode cX2_beAtFirst 42 = .ok (.goto (-16), 3) := by decide +kernel
theorem dX2_beAtFirst_45 : decode cX2_beAtFirst 45 = .ok (.iconst 0, 1) := by decide +kernel
theorem dX2_beAtFirst_46 : decode cX2_beAtFirst 46 = .ok (.istore_n 1, 1) := by decide +kernel
theorem dX2_beAtFirst_47 : decode cX2_beAtFirst 47 = .ok (.iload_n 1, 1) := by decide +kernel
theorem dX2_beAtFirst_48 : decode cX2_beAtFirst 48 = .ok (.bipush 48, 2) := by decide +kernel
theorem dX2_beAtFirst_50 : decode cX2_beAtFirst 50 = .ok (.if_icmp .ge 16, 3) := by decide +kernel
theorem dX2_beAtFirst_53 : decode cX2_beAtFirst 53 = .ok (.aload_n 0, 1) := by decide +kernel
theorem dX2_beAtFirst_54 : decode cX2_beAtFirst 54 = .ok (.getfield 42, 3) := by decide +kernel
theorem dX2_beAtFirst_57 : decode cX2_beAtFirst 57 = .ok (.iload_n 1, 1) := by decide +kernel
theorem dX2_beAtFirst_58 : decode cX2_beAtFirst 58 = .ok (.iconst (-1), 1) := by decide +kernel
theorem dX2_beAtFirst_59 : decode cX2_beAtFirst 59 = .ok (.iastore, 1) := by decide +kernel
theorem dX2_beAtFirst_60 : decode cX2_beAtFirst 60 = .ok (.iinc 1 1, 3) := by decide +kernel
theorem dX2_beAtFirst_63 : decode cX2_beAtFirst 63 = .ok (.goto (-16), 3) := by decide +kernel
theorem dX2_beAtFirst_66 : decode cX2_beAtFirst 66 = .ok (.return_, 1) := by decide +kernel
theorem dX2_become_0 : decode cX2_become 0 = .ok (.aload_n 0, 1) := by decide +kernel
theorem dX2_become_1 : decode cX2_become 1 = .ok (.aload_n 1, 1) := by decide +kernel
theorem dX2_become_2 : decode cX2_become 2 = .ok (.getfield 48, 3) := by decide +kernel
theorem dX2_become_5 : decode cX2_become 5 = .ok (.putfield 48, 3) := by decide +kernel
theorem dX2_become_8 : decode cX2_become 8 = .ok (.aload_n 0, 1) := by decide +kernel
theorem dX2_become_9 : decode cX2_become 9 = .ok (.aload_n 1, 1) := by decide +kernel
theorem dX2_become_10 : decode cX2_become 10 = .ok (.getfield 52, 3) := by decide +kernel
theorem dX2_become_13 : decode cX2_become 13 = .ok (.putfield 52, 3) := by decide +kernel
theorem dX2_become_16 : decode cX2_become 16 = .ok (.aload_n 1, 1) := by decide +kernel
theorem dX2_become_17 : decode cX2_become 17 = .ok (.getfield 9, 3) := by decide +kernel
theorem dX2_become_20 : decode cX2_become 20 = .ok (.iconst 0, 1) := by decide +kernel
theorem dX2_become_21 : decode cX2_become 21 = .ok (.aload_n 0, 1) := by decide +kernel
theorem dX2_become_22 : decode cX2_become 22 = .ok (.getfield 9, 3) := by decide +kernel
theorem dX2_become_25 : decode cX2_become 25 = .ok (.iconst 0, 1) := by decide +kernel
theorem dX2_become_26 : decode cX2_become 26 = .ok (.iconst 4, 1) := by decide +kernel
theorem dX2_become_27 : decode cX2_become 27 = .ok (.invokestatic 58, 3) := by decide +kernel
theorem dX2_become_30 : decode cX2_become 30 = .ok (.aload_n 1, 1) := by decide +kernel
theorem dX2_become_31 : decode cX2_become 31 = .ok (.getfield 15, 3) := by decide +kernel
theorem dX2_become_34 : decode cX2_become 34 = .ok (.iconst 0, 1) := by decide +kernel
theorem dX2_become_35 : decode cX2_become 35 = .ok (.aload_n 0, 1) := by decide +kernel
theorem dX2_become_36 : decode cX2_become 36 = .ok (.getfield 15, 3) := by decide +kernel
theorem dX2_become_39 : decode cX2_become 39 = .ok (.iconst 0, 1) := by decide +kernel
theorem dX2_become_40 : decode cX2_become 40 = .ok (.iconst 4, 1) := by decide +kernel
theorem dX2_become_41 : decode cX2_become 41 = .ok (.invokestatic 58, 3) := by decide +kernel
theorem dX2_become_44 : decode cX2_become 44 = .ok (.aload_n 1, 1) := by decide +kernel
theorem dX2_become_45 : decode cX2_become 45 = .ok (.getfield 18, 3) := by decide +kernel
theorem dX2_become_48 : decode cX2_become 48 = .ok (.iconst 0, 1) := by decide +kernel
theorem dX2_become_49 : decode cX2_become 49 = .ok (.aload_n 0, 1) := by decide +kernel
theorem dX2_become_50 : decode cX2_become 50 = .ok (.getfield 18, 3) := by decide +kernel
theorem dX2_become_53 : decode cX2_become 53 = .ok (.iconst 0, 1) := by decide +kernel
theorem dX2_become_54 : decode cX2_become 54 = .ok (.iconst 4, 1) := by decide +kernel
theorem dX2_become_55 : decode cX2_become 55 = .ok (.invokestatic 58, 3) := by decide +kernel
theorem dX2_become_58 : decode cX2_become 58 = .ok (.aload_n 1, 1) := by decide +kernel
theorem dX2_become_59 : decode cX2_become 59 = .ok (.getfield 21, 3) := by decide +kernel
theorem dX2_become_62 : decode cX2_become 62 = .ok (.iconst 0, 1) := by decide +kernel
theorem dX2_become_63 : decode cX2_become 63 = .ok (.aload_n 0, 1) := by decide +kernel
theorem dX2_become_64 : decode cX2_become 64 = .ok (.getfield 21, 3) := by decide +kernel
theorem dX2_become_67 : decode cX2_become 67 = .ok (.iconst 0, 1) := by decide +kernel
theorem dX2_become_68 : decode cX2_become 68 = .ok (.iconst 4, 1) := by decide +kernel
theorem dX2_become_69 : decode cX2_become 69 = .ok (.invokestatic 58, 3) := by decide +kernel
theorem dX2_become_72 : decode cX2_become 72 = .ok (.aload_n 1, 1) := by decide +kernel
theorem dX2_become_73 : decode cX2_become 73 = .ok (.getfield 24, 3) := by decide +kernel
theorem dX2_become_76 : decode cX2_become 76 = .ok (.iconst 0, 1) := by decide +kernel
theorem dX2_become_77 : decode cX2_become 77 = .ok (.aload_n 0, 1) := by decide +kernel
theorem dX2_become_78 : decode cX2_become 78 = .ok (.getfield 24, 3) := by decide +kernel
theorem dX2_become_81 : decode cX2_become 81 = .ok (.iconst 0, 1) := by decide +kernel
theorem dX2_become_82 : decode cX2_become 82 = .ok (.bipush 7, 2) := by decide +kernel
theorem dX2_become_84 : decode cX2_become 84 = .ok (.invokestatic 58, 3) := by decide +kernel
theorem dX2_become_87 : decode cX2_become 87 = .ok (.aload_n 1, 1) := by decide +kernel
theorem dX2_become_88 : decode cX2_become 88 = .ok (.getfield 27, 3) := by decide +kernel
theorem dX2_become_91 : decode cX2_become 91 = .ok (.iconst 0, 1) := by decide +kernel
theorem dX2_become_92 : decode cX2_become 92 = .ok (.aload_n 0, 1) := by decide +kernel
theorem dX2_become_93 : decode cX2_become 93 = .ok (.getfield 27, 3) := by decide +kernel
theorem dX2_become_96 : decode cX2_become 96 = .ok (.iconst 0, 1) := by decide +kernel
theorem dX2_become_97 : decode cX2_become 97 = .ok (.bipush 21, 2) := by decide +kernel
theorem dX2_become_99 : decode cX2_become 99 = .ok (.invokestatic 58, 3) := by decide +kernel
theorem dX2_become_102 : decode cX2_become 102 = .ok (.aload_n 1, 1) := by decide +kernel
theorem dX2_become_103 : decode cX2_become 103 = .ok (.getfield 30, 3) := by decide +kernel
theorem dX2_become_106 : decode cX2_become 106 = .ok (.iconst 0, 1) := by decide +kernel
theorem dX2_become_107 : decode cX2_become 107 = .ok (.aload_n 0, 1) := by decide +kernel
theorem dX2_become_108 : decode cX2_become 108 = .ok (.getfield 30, 3) := by decide +kernel
theorem dX2_become_111 : decode cX2_become 111 = .ok (.iconst 0, 1) := by decide +kernel
theorem dX2_become_112 : decode cX2_become 112 = .ok (.bipush 20, 2) := by decide +kernel
theorem dX2_become_114 : decode cX2_become 114 = .ok (.invokestatic 58, 3) := by decide +kernel
theorem dX2_become_117 : decode cX2_become 117 = .ok (.aload_n 1, 1) := by decide +kernel
theorem dX2_become_118 : decode cX2_become 118 = .ok (.getfield 33, 3) := by decide +kernel
theorem dX2_become_121 : decode cX2_become 121 = .ok (.iconst 0, 1) := by decide +kernel
theorem dX2_become_122 : decode cX2_become 122 = .ok (.aload_n 0, 1) := by decide +kernel
theorem dX2_become_123 : decode cX2_become 123 = .ok (.getfield 33, 3) := by decide +kernel
theorem dX2_become_126 : decode cX2_become 126 = .ok (.iconst 0, 1) := by decide +kernel
theorem dX2_become_127 : decode cX2_become 127 = .ok (.bipush 20, 2) := by decide +kernel
theorem dX2_become_129 : decode cX2_become 129 = .ok (.invokestatic 58, 3) := by decide +kernel
theorem dX2_become_132 : decode cX2_become 132 = .ok (.aload_n 1, 1) := by decide +kernel
theorem dX2_become_133 : decode cX2_become 133 = .ok (.getfield 36, 3) := by decide +kernel
theorem dX2_become_136 : decode cX2_become 136 = .ok (.iconst 0, 1) := by decide +kernel
theorem dX2_become_137 : decode cX2_become 137 = .ok (.aload_n 0, 1) := by decide +kernel
theorem dX2_become_138 : decode cX2_become 138 = .ok (.getfield 36, 3) := by decide +kernel
theorem dX2_become_141 : decode cX2_become 141 = .ok (.iconst 0, 1) := by decide +kernel
theorem dX2_become_142 : decode cX2_become 142 = .ok (.bipush 20, 2) := by decide +kernel
theorem dX2_become_144 : decode cX2_become 144 = .ok (.invokestatic 58, 3) := by decide +kernel
theorem dX2_become_147 : decode cX2_become 147 = .ok (.aload_n 1, 1) := by decide +kernel
theorem dX2_become_148 : decode cX2_become 148 = .ok (.getfield 39, 3) := by decide +kernel
theorem dX2_become_151 : decode cX2_become 151 = .ok (.iconst 0, 1) := by decide +kernel
theorem dX2_become_152 : decode cX2_become 152 = .ok (.aload_n 0, 1) := by decide +kernel
theorem dX2_become_153 : decode cX2_become 153 = .ok (.getfield 39, 3) := by decide +kernel
theorem dX2_become_156 : decode cX2_become 156 = .ok (.iconst 0, 1) := by decide +kernel
theorem dX2_become_157 : decode cX2_become 157 = .ok (.bipush 20, 2) := by decide +kernel
theorem dX2_become_159 : decode cX2_become 159 = .ok (.invokestatic 58, 3) := by decide +kernel
theorem dX2_become_162 : decode cX2_become 162 = .ok (.aload_n 1, 1) := by decide +kernel
theorem dX2_become_163 : decode cX2_become 163 = .ok (.getfield 42, 3) := by decide +kernel
theorem dX2_become_166 : decode cX2_become 166 = .ok (.iconst 0, 1) := by decide +kernel
theorem dX2_become_167 : decode cX2_become 167 = .ok (.aload_n 0, 1) := by decide +kernel
theorem dX2_become_168 : decode cX2_become 168 = .ok (.getfield 42, 3) := by decide +kernel
theorem dX2_become_171 : decode cX2_become 171 = .ok (.iconst 0, 1) := by decide +kernel
theorem dX2_become_172 : decode cX2_become 172 = .ok (.bipush 48, 2) := by decide +kernel
theorem dX2_become_174 : decode cX2_become 174 = .ok (.invokestatic 58, 3) := by decide +kernel
theorem dX2_become_177 : decode cX2_become 177 = .ok (.return_, 1) := by decide +kernel
theorem dX2_addStuff_0 : decode cX2_addStuff 0 = .ok (.iload_n 1, 1) := by decide +kernel
theorem dX2_addStuff_1 : decode cX2_addStuff 1 = .ok (.iconst 1, 1) := by decide +kernel
theorem dX2_addStuff_2 : decode cX2_addStuff 2 = .ok (.bipush 60, 2) := by decide +kernel
theorem dX2_addStuff_4 : decode cX2_addStuff 4 = .ok (.invokestatic 64, 3) := by decide +kernel
theorem dX2_addStuff_7 : decode cX2_addStuff 7 = .ok (.ifCond .eq 34, 3) := by decide +kernel
theorem dX2_addStuff_10 : decode cX2_addStuff 10 = .ok (.iload_n 2, 1) := by decide +kernel
theorem dX2_addStuff_11 : decode cX2_addStuff 11 = .ok (.iconst 0, 1) := by decide +kernel
theorem dX2_addStuff_12 : decode cX2_addStuff 12 = .ok (.bipush 9, 2) := by decide +kernel
theorem dX2_addStuff_14 : decode cX2_addStuff 14 = .ok (.invokestatic 64, 3) := by decide +kernel
theorem dX2_addStuff_17 : decode cX2_addStuff 17 = .ok (.ifCond .eq 24, 3) := by decide +kernel
theorem dX2_addStuff_20 : decode cX2_addStuff 20 = .ok (.iload_n 3, 1) := by decide +kernel
theorem dX2_addStuff_21 : decode cX2_addStuff 21 = .ok (.iconst 0, 1) := by decide +kernel
theorem dX2_addStuff_22 : decode cX2_addStuff 22 = .ok (.bipush 15, 2) := by decide +kernel
theorem dX2_addStuff_24 : decode cX2_addStuff 24 = .ok (.invokestatic 64, 3) := by decide +kernel
theorem dX2_addStuff_27 : decode cX2_addStuff 27 = .ok (.ifCond .eq 14, 3) := by decide +kernel
theorem dX2_addStuff_30 : decode cX2_addStuff 30 = .ok (.iload 4, 2) := by decide +kernel
theorem dX2_addStuff_32 : decode cX2_addStuff 32 = .ok (.iconst 1, 1) := by decide +kernel
theorem dX2_addStuff_33 : decode cX2_addStuff 33 = .ok (.bipush 9, 2) := by decide +kernel
theorem dX2_addStuff_35 : decode cX2_addStuff 35 = .ok (.invokestatic 64, 3) := by decide +kernel
theorem dX2_addStuff_38 : decode cX2_addStuff 38 = .ok (.ifCond .ne 6, 3) := by decide +kernel
theorem dX2_addStuff_41 : decode cX2_addStuff 41 = .ok (.bipush (-2), 2) := by decide +kernel
theorem dX2_addStuff_43 : decode cX2_addStuff 43 = .ok (.ireturn, 1) := by decide +kernel
theorem dX2_addStuff_44 : decode cX2_addStuff 44 = .ok (.aload_n 0, 1) := by decide +kernel
theorem dX2_addStuff_45 : decode cX2_addStuff 45 = .ok (.getfield 48, 3) := by decide +kernel
theorem dX2_addStuff_48 : decode cX2_addStuff 48 = .ok (.iconst 4, 1) := by decide +kernel
theorem dX2_addStuff_49 : decode cX2_addStuff 49 = .ok (.if_icmp .lt 6, 3) := by decide +kernel
theorem dX2_addStuff_52 : decode cX2_addStuff 52 = .ok (.bipush (-4), 2) := by decide +kernel
theorem dX2_addStuff_54 : decode cX2_addStuff 54 = .ok (.ireturn, 1) := by decide +kernel
theorem dX2_addStuff_55 : decode cX2_addStuff 55 = .ok (.aload_n 0, 1) := by decide +kernel
theorem dX2_addStuff_56 : decode cX2_addStuff 56 = .ok (.getfield 9, 3) := by decide +kernel
theorem dX2_addStuff_59 : decode cX2_addStuff 59 = .ok (.aload_n 0, 1) := by decide +kernel
theorem dX2_addStuff_60 : decode cX2_addStuff 60 = .ok (.getfield 48, 3) := by decide +kernel
theorem dX2_addStuff_63 : decode cX2_addStuff 63 = .ok (.iload_n 1, 1) := by decide +kernel
theorem dX2_addStuff_64 : decode cX2_addStuff 64 = .ok (.iastore, 1) := by decide +kernel
theorem dX2_addStuff_65 : decode cX2_addStuff 65 = .ok (.aload_n 0, 1) := by decide +kernel
theorem dX2_addStuff_66 : decode cX2_addStuff 66 = .ok (.getfield 15, 3) := by decide +kernel
theorem dX2_addStuff_69 : decode cX2_addStuff 69 = .ok (.aload_n 0, 1) := by decide +kernel
theorem dX2_addStuff_70 : decode cX2_addStuff 70 = .ok (.getfield 48, 3) := by decide +kernel
theorem dX2_addStuff_73 : decode cX2_addStuff 73 = .ok (.iload_n 2, 1) := by decide +kernel
theorem dX2_addStuff_74 : decode cX2_addStuff 74 = .ok (.iastore, 1) := by decide +kernel
theorem dX2_addStuff_75 : decode cX2_addStuff 75 = .ok (.aload_n 0, 1) := by decide +kernel
theorem dX2_addStuff_76 : decode cX2_addStuff 76 = .ok (.getfield 18, 3) := by decide +kernel
theorem dX2_addStuff_79 : decode cX2_addStuff 79 = .ok (.aload_n 0, 1) := by decide +kernel
theorem dX2_addStuff_80 : decode cX2_addStuff 80 = .ok (.getfield 48, 3) := by decide +kernel
theorem dX2_addStuff_83 : decode cX2_addStuff 83 = .ok (.iload_n 3, 1) := by decide +kernel
theorem dX2_addStuff_84 : decode cX2_addStuff 84 = .ok (.iastore, 1) := by decide +kernel
theorem dX2_addStuff_85 : decode cX2_addStuff 85 = .ok (.aload_n 0, 1) := by decide +kernel
theorem dX2_addStuff_86 : decode cX2_addStuff 86 = .ok (.getfield 21, 3) := by decide +kernel
theorem dX2_addStuff_89 : decode cX2_addStuff 89 = .ok (.aload_n 0, 1) := by decide +kernel
theorem dX2_addStuff_90 : decode cX2_addStuff 90 = .ok (.getfield 48, 3) := by decide +kernel
theorem dX2_addStuff_93 : decode cX2_addStuff 93 = .ok (.iload 4, 2) := by decide +kernel
theorem dX2_addStuff_95 : decode cX2_addStuff 95 = .ok (.iastore, 1) := by decide +kernel
theorem dX2_addStuff_96 : decode cX2_addStuff 96 = .ok (.aload_n 0, 1) := by decide +kernel
theorem dX2_addStuff_97 : decode cX2_addStuff 97 = .ok (.dup, 1) := by decide +kernel
theorem dX2_addStuff_98 : decode cX2_addStuff 98 = .ok (.getfield 48, 3) := by decide +kernel
theorem dX2_addStuff_101 : decode cX2_addStuff 101 = .ok (.dup_x1, 1) := by decide +kernel
theorem dX2_addStuff_102 : decode cX2_addStuff 102 = .ok (.iconst 1, 1) := by decide +kernel
theorem dX2_addStuff_103 : decode cX2_addStuff 103 = .ok (.iadd, 1) := by decide +kernel
theorem dX2_addStuff_104 : decode cX2_addStuff 104 = .ok (.putfield 48, 3) := by decide +kernel
theorem dX2_addStuff_107 : decode cX2_addStuff 107 = .ok (.ireturn, 1) := by decide +kernel
theorem dX2_set_0 : decode cX2_set 0 = .ok (.iload_n 1, 1) := by decide +kernel
theorem dX2_set_1 : decode cX2_set 1 = .ok (.iconst 0, 1) := by decide +kernel
theorem dX2_set_2 : decode cX2_set 2 = .ok (.bipush 6, 2) := by decide +kernel
theorem dX2_set_4 : decode cX2_set 4 = .ok (.invokestatic 64, 3) := by decide +kernel
theorem dX2_set_7 : decode cX2_set 7 = .ok (.ifCond .eq 20, 3) := by decide +kernel
theorem dX2_set_10 : decode cX2_set 10 = .ok (.iload_n 2, 1) := by decide +kernel
theorem dX2_set_11 : decode cX2_set 11 = .ok (.getstatic 68, 3) := by decide +kernel
theorem dX2_set_14 : decode cX2_set 14 = .ok (.iload_n 1, 1) := by decide +kernel
theorem dX2_set_15 : decode cX2_set 15 = .ok (.iaload, 1) := by decide +kernel
theorem dX2_set_16 : decode cX2_set 16 = .ok (.getstatic 71, 3) := by decide +kernel
theorem dX2_set_19 : decode cX2_set 19 = .ok (.iload_n 1, 1) := by decide +kernel
theorem dX2_set_20 : decode cX2_set 20 = .ok (.iaload, 1) := by decide +kernel
theorem dX2_set_21 : decode cX2_set 21 = .ok (.invokestatic 64, 3) := by decide +kernel
theorem dX2_set_24 : decode cX2_set 24 = .ok (.ifCond .ne 6, 3) := by decide +kernel
theorem dX2_set_27 : decode cX2_set 27 = .ok (.bipush (-2), 2) := by decide +kernel
theorem dX2_set_29 : decode cX2_set 29 = .ok (.ireturn, 1) := by decide +kernel
theorem dX2_set_30 : decode cX2_set 30 = .ok (.aload_n 0, 1) := by decide +kernel
theorem dX2_set_31 : decode cX2_set 31 = .ok (.getfield 24, 3) := by decide +kernel
theorem dX2_set_34 : decode cX2_set 34 = .ok (.iload_n 1, 1) := by decide +kernel
theorem dX2_set_35 : decode cX2_set 35 = .ok (.iaload, 1) := by decide +kernel
theorem dX2_set_36 : decode cX2_set 36 = .ok (.istore_n 3, 1) := by decide +kernel
theorem dX2_set_37 : decode cX2_set 37 = .ok (.aload_n 0, 1) := by decide +kernel
theorem dX2_set_38 : decode cX2_set 38 = .ok (.getfield 24, 3) := by decide +kernel
theorem dX2_set_41 : decode cX2_set 41 = .ok (.iload_n 1, 1) := by decide +kernel
theorem dX2_set_42 : decode cX2_set 42 = .ok (.iload_n 2, 1) := by decide +kernel
theorem dX2_set_43 : decode cX2_set 43 = .ok (.iastore, 1) := by decide +kernel
theorem dX2_set_44 : decode cX2_set 44 = .ok (.iload_n 3, 1) := by decide +kernel
theorem dX2_set_45 : decode cX2_set 45 = .ok (.ireturn, 1) := by decide +kernel
theorem dX2_setHabit_0 : decode cX2_setHabit 0 = .ok (.iload_n 1, 1) := by decide +kernel
theorem dX2_setHabit_1 : decode cX2_setHabit 1 = .ok (.iconst 0, 1) := by decide +kernel
theorem dX2_setHabit_2 : decode cX2_setHabit 2 = .ok (.bipush 20, 2) := by decide +kernel
theorem dX2_setHabit_4 : decode cX2_setHabit 4 = .ok (.invokestatic 64, 3) := by decide +kernel
theorem dX2_setHabit_7 : decode cX2_setHabit 7 = .ok (.ifCond .eq 13, 3) := by decide +kernel
theorem dX2_setHabit_10 : decode cX2_setHabit 10 = .ok (.iload_n 2, 1) := by decide +kernel
theorem dX2_setHabit_11 : decode cX2_setHabit 11 = .ok (.iconst 0, 1) := by decide +kernel
theorem dX2_setHabit_12 : decode cX2_setHabit 12 = .ok (.bipush 9, 2) := by decide +kernel
theorem dX2_setHabit_14 : decode cX2_setHabit 14 = .ok (.invokestatic 64, 3) := by decide +kernel
theorem dX2_setHabit_17 : decode cX2_setHabit 17 = .ok (.ifCond .ne 6, 3) := by decide +kernel
theorem dX2_setHabit_20 : decode cX2_setHabit 20 = .ok (.bipush (-2), 2) := by decide +kernel
theorem dX2_setHabit_22 : decode cX2_setHabit 22 = .ok (.ireturn, 1) := by decide +kernel
theorem dX2_setHabit_23 : decode cX2_setHabit 23 = .ok (.aload_n 0, 1) := by decide +kernel
theorem dX2_setHabit_24 : decode cX2_setHabit 24 = .ok (.getfield 27, 3) := by decide +kernel
theorem dX2_setHabit_27 : decode cX2_setHabit 27 = .ok (.iload_n 1, 1) := by decide +kernel
theorem dX2_setHabit_28 : decode cX2_setHabit 28 = .ok (.iaload, 1) := by decide +kernel
theorem dX2_setHabit_29 : decode cX2_setHabit 29 = .ok (.istore_n 3, 1) := by decide +kernel
theorem dX2_setHabit_30 : decode cX2_setHabit 30 = .ok (.aload_n 0, 1) := by decide +kernel
theorem dX2_setHabit_31 : decode cX2_setHabit 31 = .ok (.getfield 27, 3) := by decide +kernel
theorem dX2_setHabit_34 : decode cX2_setHabit 34 = .ok (.iload_n 1, 1) := by decide +kernel
theorem dX2_setHabit_35 : decode cX2_setHabit 35 = .ok (.iload_n 2, 1) := by decide +kernel
theorem dX2_setHabit_36 : decode cX2_setHabit 36 = .ok (.iastore, 1) := by decide +kernel
theorem dX2_setHabit_37 : decode cX2_setHabit 37 = .ok (.iload_n 3, 1) := by decide +kernel
theorem dX2_setHabit_38 : decode cX2_setHabit 38 = .ok (.ireturn, 1) := by decide +kernel
theorem dX2_addTrace_0 : decode cX2_addTrace 0 = .ok (.iload_n 1, 1) := by decide +kernel
theorem dX2_addTrace_1 : decode cX2_addTrace 1 = .ok (.invokestatic 74, 3) := by decide +kernel
theorem dX2_addTrace_4 : decode cX2_addTrace 4 = .ok (.ifCond .eq 13, 3) := by decide +kernel
theorem dX2_addTrace_7 : decode cX2_addTrace 7 = .ok (.aload_n 0, 1) := by decide +kernel
theorem dX2_addTrace_8 : decode cX2_addTrace 8 = .ok (.iload_n 1, 1) := by decide +kernel
theorem dX2_addTrace_9 : decode cX2_addTrace 9 = .ok (.iload_n 2, 1) := by decide +kernel
theorem dX2_addTrace_10 : decode cX2_addTrace 10 = .ok (.iload_n 3, 1) := by decide +kernel
theorem dX2_addTrace_11 : decode cX2_addTrace 11 = .ok (.invokevirtual 78, 3) := by decide +kernel
theorem dX2_addTrace_14 : decode cX2_addTrace 14 = .ok (.ifCond .ne 6, 3) := by decide +kernel
theorem dX2_addTrace_17 : decode cX2_addTrace 17 = .ok (.bipush (-2), 2) := by decide +kernel
theorem dX2_addTrace_19 : decode cX2_addTrace 19 = .ok (.ireturn, 1) := by decide +kernel
theorem dX2_addTrace_20 : decode cX2_addTrace 20 = .ok (.aload_n 0, 1) := by decide +kernel
theorem dX2_addTrace_21 : decode cX2_addTrace 21 = .ok (.getfield 52, 3) := by decide +kernel
theorem dX2_addTrace_24 : decode cX2_addTrace 24 = .ok (.bipush 20, 2) := by decide +kernel
theorem dX2_addTrace_26 : decode cX2_addTrace 26 = .ok (.if_icmp .lt 6, 3) := by decide +kernel
theorem dX2_addTrace_29 : decode cX2_addTrace 29 = .ok (.bipush (-4), 2) := by decide +kernel
theorem dX2_addTrace_31 : decode cX2_addTrace 31 = .ok (.ireturn, 1) := by decide +kernel
theorem dX2_addTrace_32 : decode cX2_addTrace 32 = .ok (.aload_n 0, 1) := by decide +kernel
theorem dX2_addTrace_33 : decode cX2_addTrace 33 = .ok (.getfield 30, 3) := by decide +kernel
theorem dX2_addTrace_36 : decode cX2_addTrace 36 = .ok (.aload_n 0, 1) := by decide +kernel
theorem dX2_addTrace_37 : decode cX2_addTrace 37 = .ok (.getfield 52, 3) := by decide +kernel
theorem dX2_addTrace_40 : decode cX2_addTrace 40 = .ok (.iload_n 1, 1) := by decide +kernel
theorem dX2_addTrace_41 : decode cX2_addTrace 41 = .ok (.iastore, 1) := by decide +kernel
theorem dX2_addTrace_42 : decode cX2_addTrace 42 = .ok (.aload_n 0, 1) := by decide +kernel
theorem dX2_addTrace_43 : decode cX2_addTrace 43 = .ok (.getfield 33, 3) := by decide +kernel
theorem dX2_addTrace_46 : decode cX2_addTrace 46 = .ok (.aload_n 0, 1) := by decide +kernel
theorem dX2_addTrace_47 : decode cX2_addTrace 47 = .ok (.getfield 52, 3) := by decide +kernel
theorem dX2_addTrace_50 : decode cX2_addTrace 50 = .ok (.iload_n 2, 1) := by decide +kernel
theorem dX2_addTrace_51 : decode cX2_addTrace 51 = .ok (.iastore, 1) := by decide +kernel
theorem dX2_addTrace_52 : decode cX2_addTrace 52 = .ok (.aload_n 0, 1) := by decide +kernel
theorem dX2_addTrace_53 : decode cX2_addTrace 53 = .ok (.getfield 36, 3) := by decide +kernel
theorem dX2_addTrace_56 : decode cX2_addTrace 56 = .ok (.aload_n 0, 1) := by decide +kernel
theorem dX2_addTrace_57 : decode cX2_addTrace 57 = .ok (.getfield 52, 3) := by decide +kernel
theorem dX2_addTrace_60 : decode cX2_addTrace 60 = .ok (.iload_n 3, 1) := by decide +kernel
theorem dX2_addTrace_61 : decode cX2_addTrace 61 = .ok (.iastore, 1) := by decide +kernel
theorem dX2_addTrace_62 : decode cX2_addTrace 62 = .ok (.aload_n 0, 1) := by decide +kernel
theorem dX2_addTrace_63 : decode cX2_addTrace 63 = .ok (.getfield 39, 3) := by decide +kernel
theorem dX2_addTrace_66 : decode cX2_addTrace 66 = .ok (.aload_n 0, 1) := by decide +kernel
theorem dX2_addTrace_67 : decode cX2_addTrace 67 = .ok (.getfield 52, 3) := by decide +kernel
theorem dX2_addTrace_70 : decode cX2_addTrace 70 = .ok (.iconst 0, 1) := by decide +kernel
theorem dX2_addTrace_71 : decode cX2_addTrace 71 = .ok (.iastore, 1) := by decide +kernel
theorem dX2_addTrace_72 : decode cX2_addTrace 72 = .ok (.aload_n 0, 1) := by decide +kernel
theorem dX2_addTrace_73 : decode cX2_addTrace 73 = .ok (.dup, 1) := by decide +kernel
theorem dX2_addTrace_74 : decode cX2_addTrace 74 = .ok (.getfield 52, 3) := by decide +kernel
theorem dX2_addTrace_77 : decode cX2_addTrace 77 = .ok (.dup_x1, 1) := by decide +kernel
theorem dX2_addTrace_78 : decode cX2_addTrace 78 = .ok (.iconst 1, 1) := by decide +kernel
theorem dX2_addTrace_79 : decode cX2_addTrace 79 = .ok (.iadd, 1) := by decide +kernel
theorem dX2_addTrace_80 : decode cX2_addTrace 80 = .ok (.putfield 52, 3) := by decide +kernel
theorem dX2_addTrace_83 : decode cX2_addTrace 83 = .ok (.ireturn, 1) := by decide +kernel
theorem dX2_canTell_0 : decode cX2_canTell 0 = .ok (.iload_n 2, 1) := by decide +kernel
theorem dX2_canTell_1 : decode cX2_canTell 1 = .ok (.tableswitch 101 0 6 #[43, 49, 49, 56, 56, 65, 91], 43) := by decide +kernel
theorem dX2_canTell_44 : decode cX2_canTell 44 = .ok (.aload_n 0, 1) := by decide +kernel
theorem dX2_canTell_45 : decode cX2_canTell 45 = .ok (.iload_n 3, 1) := by decide +kernel
theorem dX2_canTell_46 : decode cX2_canTell 46 = .ok (.invokevirtual 81, 3) := by decide +kernel
theorem dX2_canTell_49 : decode cX2_canTell 49 = .ok (.ireturn, 1) := by decide +kernel
theorem dX2_canTell_50 : decode cX2_canTell 50 = .ok (.iload_n 3, 1) := by decide +kernel
theorem dX2_canTell_51 : decode cX2_canTell 51 = .ok (.iconst 0, 1) := by decide +kernel
theorem dX2_canTell_52 : decode cX2_canTell 52 = .ok (.iconst 3, 1) := by decide +kernel
theorem dX2_canTell_53 : decode cX2_canTell 53 = .ok (.invokestatic 64, 3) := by decide +kernel
theorem dX2_canTell_56 : decode cX2_canTell 56 = .ok (.ireturn, 1) := by decide +kernel
theorem dX2_canTell_57 : decode cX2_canTell 57 = .ok (.iload_n 3, 1) := by decide +kernel
theorem dX2_canTell_58 : decode cX2_canTell 58 = .ok (.iconst 0, 1) := by decide +kernel
theorem dX2_canTell_59 : decode cX2_canTell 59 = .ok (.sipush 400, 3) := by decide +kernel
theorem dX2_canTell_62 : decode cX2_canTell 62 = .ok (.invokestatic 64, 3) := by decide +kernel
theorem dX2_canTell_65 : decode cX2_canTell 65 = .ok (.ireturn, 1) := by decide +kernel
theorem dX2_canTell_66 : decode cX2_canTell 66 = .ok (.iload_n 3, 1) := by decide +kernel
theorem dX2_canTell_67 : decode cX2_canTell 67 = .ok (.iconst 1, 1) := by decide +kernel
theorem dX2_canTell_68 : decode cX2_canTell 68 = .ok (.sipush 400, 3) := by decide +kernel
theorem dX2_canTell_71 : decode cX2_canTell 71 = .ok (.invokestatic 64, 3) := by decide +kernel
theorem dX2_canTell_74 : decode cX2_canTell 74 = .ok (.ifCond .eq 16, 3) := by decide +kernel
theorem dX2_canTell_77 : decode cX2_canTell 77 = .ok (.iload_n 1, 1) := by decide +kernel
theorem dX2_canTell_78 : decode cX2_canTell 78 = .ok (.bipush 8, 2) := by decide +kernel
theorem dX2_canTell_80 : decode cX2_canTell 80 = .ok (.irem, 1) := by decide +kernel
theorem dX2_canTell_81 : decode cX2_canTell 81 = .ok (.bipush 7, 2) := by decide +kernel
theorem dX2_canTell_83 : decode cX2_canTell 83 = .ok (.if_icmp .eq 7, 3) := by decide +kernel
theorem dX2_canTell_86 : decode cX2_canTell 86 = .ok (.iconst 1, 1) := by decide +kernel
theorem dX2_canTell_87 : decode cX2_canTell 87 = .ok (.goto 4, 3) := by decide +kernel
theorem dX2_canTell_90 : decode cX2_canTell 90 = .ok (.iconst 0, 1) := by decide +kernel
theorem dX2_canTell_91 : decode cX2_canTell 91 = .ok (.ireturn, 1) := by decide +kernel
theorem dX2_canTell_92 : decode cX2_canTell 92 = .ok (.iload_n 3, 1) := by decide +kernel
theorem dX2_canTell_93 : decode cX2_canTell 93 = .ok (.ifCond .ne 7, 3) := by decide +kernel
theorem dX2_canTell_96 : decode cX2_canTell 96 = .ok (.iconst 1, 1) := by decide +kernel
theorem dX2_canTell_97 : decode cX2_canTell 97 = .ok (.goto 4, 3) := by decide +kernel
theorem dX2_canTell_100 : decode cX2_canTell 100 = .ok (.iconst 0, 1) := by decide +kernel
theorem dX2_canTell_101 : decode cX2_canTell 101 = .ok (.ireturn, 1) := by decide +kernel
theorem dX2_canTell_102 : decode cX2_canTell 102 = .ok (.iconst 0, 1) := by decide +kernel
theorem dX2_canTell_103 : decode cX2_canTell 103 = .ok (.ireturn, 1) := by decide +kernel
theorem dX2_setAside_0 : decode cX2_setAside 0 = .ok (.iload_n 1, 1) := by decide +kernel
theorem dX2_setAside_1 : decode cX2_setAside 1 = .ok (.iconst 0, 1) := by decide +kernel
theorem dX2_setAside_2 : decode cX2_setAside 2 = .ok (.aload_n 0, 1) := by decide +kernel
theorem dX2_setAside_3 : decode cX2_setAside 3 = .ok (.getfield 52, 3) := by decide +kernel
theorem dX2_setAside_6 : decode cX2_setAside 6 = .ok (.iconst 1, 1) := by decide +kernel
theorem dX2_setAside_7 : decode cX2_setAside 7 = .ok (.isub, 1) := by decide +kernel
theorem dX2_setAside_8 : decode cX2_setAside 8 = .ok (.invokestatic 64, 3) := by decide +kernel
theorem dX2_setAside_11 : decode cX2_setAside 11 = .ok (.ifCond .ne 6, 3) := by decide +kernel
theorem dX2_setAside_14 : decode cX2_setAside 14 = .ok (.bipush (-2), 2) := by decide +kernel
theorem dX2_setAside_16 : decode cX2_setAside 16 = .ok (.ireturn, 1) := by decide +kernel
theorem dX2_setAside_17 : decode cX2_setAside 17 = .ok (.iload_n 2, 1) := by decide +kernel
theorem dX2_setAside_18 : decode cX2_setAside 18 = .ok (.ifCond .eq 7, 3) := by decide +kernel
theorem dX2_setAside_21 : decode cX2_setAside 21 = .ok (.iconst 1, 1) := by decide +kernel
theorem dX2_setAside_22 : decode cX2_setAside 22 = .ok (.goto 4, 3) := by decide +kernel
theorem dX2_setAside_25 : decode cX2_setAside 25 = .ok (.iconst 0, 1) := by decide +kernel
theorem dX2_setAside_26 : decode cX2_setAside 26 = .ok (.istore_n 3, 1) := by decide +kernel
theorem dX2_setAside_27 : decode cX2_setAside 27 = .ok (.aload_n 0, 1) := by decide +kernel
theorem dX2_setAside_28 : decode cX2_setAside 28 = .ok (.getfield 39, 3) := by decide +kernel
theorem dX2_setAside_31 : decode cX2_setAside 31 = .ok (.iload_n 1, 1) := by decide +kernel
theorem dX2_setAside_32 : decode cX2_setAside 32 = .ok (.iaload, 1) := by decide +kernel
theorem dX2_setAside_33 : decode cX2_setAside 33 = .ok (.iload_n 3, 1) := by decide +kernel
theorem dX2_setAside_34 : decode cX2_setAside 34 = .ok (.if_icmp .ne 6, 3) := by decide +kernel
theorem dX2_setAside_37 : decode cX2_setAside 37 = .ok (.bipush (-3), 2) := by decide +kernel
theorem dX2_setAside_39 : decode cX2_setAside 39 = .ok (.ireturn, 1) := by decide +kernel
theorem dX2_setAside_40 : decode cX2_setAside 40 = .ok (.aload_n 0, 1) := by decide +kernel
theorem dX2_setAside_41 : decode cX2_setAside 41 = .ok (.getfield 39, 3) := by decide +kernel
theorem dX2_setAside_44 : decode cX2_setAside 44 = .ok (.iload_n 1, 1) := by decide +kernel
theorem dX2_setAside_45 : decode cX2_setAside 45 = .ok (.iload_n 3, 1) := by decide +kernel
theorem dX2_setAside_46 : decode cX2_setAside 46 = .ok (.iastore, 1) := by decide +kernel
theorem dX2_setAside_47 : decode cX2_setAside 47 = .ok (.iconst 1, 1) := by decide +kernel
theorem dX2_setAside_48 : decode cX2_setAside 48 = .ok (.ireturn, 1) := by decide +kernel
theorem dX2_paint_0 : decode cX2_paint 0 = .ok (.iload_n 1, 1) := by decide +kernel
theorem dX2_paint_1 : decode cX2_paint 1 = .ok (.invokestatic 74, 3) := by decide +kernel
theorem dX2_paint_4 : decode cX2_paint 4 = .ok (.ifCond .eq 16, 3) := by decide +kernel
theorem dX2_paint_7 : decode cX2_paint 7 = .ok (.iload_n 2, 1) := by decide +kernel
theorem dX2_paint_8 : decode cX2_paint 8 = .ok (.iconst (-1), 1) := by decide +kernel
theorem dX2_paint_9 : decode cX2_paint 9 = .ok (.if_icmp .eq 14, 3) := by decide +kernel
theorem dX2_paint_12 : decode cX2_paint 12 = .ok (.aload_n 0, 1) := by decide +kernel
theorem dX2_paint_13 : decode cX2_paint 13 = .ok (.iload_n 2, 1) := by decide +kernel
theorem dX2_paint_14 : decode cX2_paint 14 = .ok (.invokevirtual 81, 3) := by decide +kernel
theorem dX2_paint_17 : decode cX2_paint 17 = .ok (.ifCond .ne 6, 3) := by decide +kernel
theorem dX2_paint_20 : decode cX2_paint 20 = .ok (.bipush (-10), 2) := by decide +kernel
theorem dX2_paint_22 : decode cX2_paint 22 = .ok (.ireturn, 1) := by decide +kernel
theorem dX2_paint_23 : decode cX2_paint 23 = .ok (.aload_n 0, 1) := by decide +kernel
theorem dX2_paint_24 : decode cX2_paint 24 = .ok (.getfield 42, 3) := by decide +kernel
theorem dX2_paint_27 : decode cX2_paint 27 = .ok (.iload_n 1, 1) := by decide +kernel
theorem dX2_paint_28 : decode cX2_paint 28 = .ok (.iaload, 1) := by decide +kernel
theorem dX2_paint_29 : decode cX2_paint 29 = .ok (.istore_n 3, 1) := by decide +kernel
theorem dX2_paint_30 : decode cX2_paint 30 = .ok (.aload_n 0, 1) := by decide +kernel
theorem dX2_paint_31 : decode cX2_paint 31 = .ok (.getfield 42, 3) := by decide +kernel
theorem dX2_paint_34 : decode cX2_paint 34 = .ok (.iload_n 1, 1) := by decide +kernel
theorem dX2_paint_35 : decode cX2_paint 35 = .ok (.iload_n 2, 1) := by decide +kernel
theorem dX2_paint_36 : decode cX2_paint 36 = .ok (.iastore, 1) := by decide +kernel
theorem dX2_paint_37 : decode cX2_paint 37 = .ok (.iload_n 3, 1) := by decide +kernel
theorem dX2_paint_38 : decode cX2_paint 38 = .ok (.ireturn, 1) := by decide +kernel
theorem dX2_isStuff_0 : decode cX2_isStuff 0 = .ok (.iload_n 1, 1) := by decide +kernel
theorem dX2_isStuff_1 : decode cX2_isStuff 1 = .ok (.ifCond .lt 20, 3) := by decide +kernel
theorem dX2_isStuff_4 : decode cX2_isStuff 4 = .ok (.iload_n 1, 1) := by decide +kernel
theorem dX2_isStuff_5 : decode cX2_isStuff 5 = .ok (.aload_n 0, 1) := by decide +kernel
theorem dX2_isStuff_6 : decode cX2_isStuff 6 = .ok (.getfield 48, 3) := by decide +kernel
theorem dX2_isStuff_9 : decode cX2_isStuff 9 = .ok (.if_icmp .ge 12, 3) := by decide +kernel
theorem dX2_isStuff_12 : decode cX2_isStuff 12 = .ok (.iload_n 1, 1) := by decide +kernel
theorem dX2_isStuff_13 : decode cX2_isStuff 13 = .ok (.iconst 4, 1) := by decide +kernel
theorem dX2_isStuff_14 : decode cX2_isStuff 14 = .ok (.if_icmp .ge 7, 3) := by decide +kernel
theorem dX2_isStuff_17 : decode cX2_isStuff 17 = .ok (.iconst 1, 1) := by decide +kernel
theorem dX2_isStuff_18 : decode cX2_isStuff 18 = .ok (.goto 4, 3) := by decide +kernel
theorem dX2_isStuff_21 : decode cX2_isStuff 21 = .ok (.iconst 0, 1) := by decide +kernel
theorem dX2_isStuff_22 : decode cX2_isStuff 22 = .ok (.ireturn, 1) := by decide +kernel
theorem dX2_isStack_0 : decode cX2_isStack 0 = .ok (.iload_n 1, 1) := by decide +kernel
theorem dX2_isStack_1 : decode cX2_isStack 1 = .ok (.iconst 0, 1) := by decide +kernel
theorem dX2_isStack_2 : decode cX2_isStack 2 = .ok (.bipush 20, 2) := by decide +kernel
theorem dX2_isStack_4 : decode cX2_isStack 4 = .ok (.invokestatic 64, 3) := by decide +kernel
theorem dX2_isStack_7 : decode cX2_isStack 7 = .ok (.ifCond .eq 29, 3) := by decide +kernel
theorem dX2_isStack_10 : decode cX2_isStack 10 = .ok (.iload_n 1, 1) := by decide +kernel
theorem dX2_isStack_11 : decode cX2_isStack 11 = .ok (.invokestatic 84, 3) := by decide +kernel
theorem dX2_isStack_14 : decode cX2_isStack 14 = .ok (.aload_n 0, 1) := by decide +kernel
theorem dX2_isStack_15 : decode cX2_isStack 15 = .ok (.getfield 48, 3) := by decide +kernel
theorem dX2_isStack_18 : decode cX2_isStack 18 = .ok (.if_icmp .ge 18, 3) := by decide +kernel
theorem dX2_isStack_21 : decode cX2_isStack 21 = .ok (.iload_n 1, 1) := by decide +kernel
theorem dX2_isStack_22 : decode cX2_isStack 22 = .ok (.invokestatic 88, 3) := by decide +kernel
theorem dX2_isStack_25 : decode cX2_isStack 25 = .ok (.aload_n 0, 1) := by decide +kernel
theorem dX2_isStack_26 : decode cX2_isStack 26 = .ok (.getfield 48, 3) := by decide +kernel
theorem dX2_isStack_29 : decode cX2_isStack 29 = .ok (.if_icmp .ge 7, 3) := by decide +kernel
theorem dX2_isStack_32 : decode cX2_isStack 32 = .ok (.iconst 1, 1) := by decide +kernel
theorem dX2_isStack_33 : decode cX2_isStack 33 = .ok (.goto 4, 3) := by decide +kernel
theorem dX2_isStack_36 : decode cX2_isStack 36 = .ok (.iconst 0, 1) := by decide +kernel
theorem dX2_isStack_37 : decode cX2_isStack 37 = .ok (.ireturn, 1) := by decide +kernel
theorem dX2_countAside_0 : decode cX2_countAside 0 = .ok (.iconst 0, 1) := by decide +kernel
theorem dX2_countAside_1 : decode cX2_countAside 1 = .ok (.istore_n 1, 1) := by decide +kernel
theorem dX2_countAside_2 : decode cX2_countAside 2 = .ok (.iconst 0, 1) := by decide +kernel
theorem dX2_countAside_3 : decode cX2_countAside 3 = .ok (.istore_n 2, 1) := by decide +kernel
theorem dX2_countAside_4 : decode cX2_countAside 4 = .ok (.iload_n 2, 1) := by decide +kernel
theorem dX2_countAside_5 : decode cX2_countAside 5 = .ok (.aload_n 0, 1) := by decide +kernel
theorem dX2_countAside_6 : decode cX2_countAside 6 = .ok (.getfield 52, 3) := by decide +kernel
theorem dX2_countAside_9 : decode cX2_countAside 9 = .ok (.if_icmp .ge 18, 3) := by decide +kernel
theorem dX2_countAside_12 : decode cX2_countAside 12 = .ok (.iload_n 1, 1) := by decide +kernel
theorem dX2_countAside_13 : decode cX2_countAside 13 = .ok (.aload_n 0, 1) := by decide +kernel
theorem dX2_countAside_14 : decode cX2_countAside 14 = .ok (.getfield 39, 3) := by decide +kernel
theorem dX2_countAside_17 : decode cX2_countAside 17 = .ok (.iload_n 2, 1) := by decide +kernel
theorem dX2_countAside_18 : decode cX2_countAside 18 = .ok (.iaload, 1) := by decide +kernel
theorem dX2_countAside_19 : decode cX2_countAside 19 = .ok (.iadd, 1) := by decide +kernel
theorem dX2_countAside_20 : decode cX2_countAside 20 = .ok (.istore_n 1, 1) := by decide +kernel
theorem dX2_countAside_21 : decode cX2_countAside 21 = .ok (.iinc 2 1, 3) := by decide +kernel
theorem dX2_countAside_24 : decode cX2_countAside 24 = .ok (.goto (-20), 3) := by decide +kernel
theorem dX2_countAside_27 : decode cX2_countAside 27 = .ok (.iload_n 1, 1) := by decide +kernel
theorem dX2_countAside_28 : decode cX2_countAside 28 = .ok (.ireturn, 1) := by decide +kernel
theorem dX2_wearOf_0 : decode cX2_wearOf 0 = .ok (.aload_n 0, 1) := by decide +kernel
theorem dX2_wearOf_1 : decode cX2_wearOf 1 = .ok (.getfield 24, 3) := by decide +kernel
theorem dX2_wearOf_4 : decode cX2_wearOf 4 = .ok (.iconst 4, 1) := by decide +kernel
theorem dX2_wearOf_5 : decode cX2_wearOf 5 = .ok (.iaload, 1) := by decide +kernel
theorem dX2_wearOf_6 : decode cX2_wearOf 6 = .ok (.aload_n 0, 1) := by decide +kernel
theorem dX2_wearOf_7 : decode cX2_wearOf 7 = .ok (.getfield 24, 3) := by decide +kernel
theorem dX2_wearOf_10 : decode cX2_wearOf 10 = .ok (.iload_n 1, 1) := by decide +kernel
theorem dX2_wearOf_11 : decode cX2_wearOf 11 = .ok (.aload_n 0, 1) := by decide +kernel
theorem dX2_wearOf_12 : decode cX2_wearOf 12 = .ok (.getfield 24, 3) := by decide +kernel
theorem dX2_wearOf_15 : decode cX2_wearOf 15 = .ok (.iconst 5, 1) := by decide +kernel
theorem dX2_wearOf_16 : decode cX2_wearOf 16 = .ok (.iaload, 1) := by decide +kernel
theorem dX2_wearOf_17 : decode cX2_wearOf 17 = .ok (.iadd, 1) := by decide +kernel
theorem dX2_wearOf_18 : decode cX2_wearOf 18 = .ok (.iconst 4, 1) := by decide +kernel
theorem dX2_wearOf_19 : decode cX2_wearOf 19 = .ok (.irem, 1) := by decide +kernel
theorem dX2_wearOf_20 : decode cX2_wearOf 20 = .ok (.iaload, 1) := by decide +kernel
theorem dX2_wearOf_21 : decode cX2_wearOf 21 = .ok (.imul, 1) := by decide +kernel
theorem dX2_wearOf_22 : decode cX2_wearOf 22 = .ok (.ireturn, 1) := by decide +kernel
theorem dX2_thickOf_0 : decode cX2_thickOf 0 = .ok (.iload_n 1, 1) := by decide +kernel
theorem dX2_thickOf_1 : decode cX2_thickOf 1 = .ok (.ifCond .lt 17, 3) := by decide +kernel
theorem dX2_thickOf_4 : decode cX2_thickOf 4 = .ok (.iload_n 1, 1) := by decide +kernel
theorem dX2_thickOf_5 : decode cX2_thickOf 5 = .ok (.iconst 4, 1) := by decide +kernel
theorem dX2_thickOf_6 : decode cX2_thickOf 6 = .ok (.if_icmp .ge 12, 3) := by decide +kernel
theorem dX2_thickOf_9 : decode cX2_thickOf 9 = .ok (.aload_n 0, 1) := by decide +kernel
theorem dX2_thickOf_10 : decode cX2_thickOf 10 = .ok (.getfield 9, 3) := by decide +kernel
theorem dX2_thickOf_13 : decode cX2_thickOf 13 = .ok (.iload_n 1, 1) := by decide +kernel
theorem dX2_thickOf_14 : decode cX2_thickOf 14 = .ok (.iaload, 1) := by decide +kernel
theorem dX2_thickOf_15 : decode cX2_thickOf 15 = .ok (.goto 4, 3) := by decide +kernel
theorem dX2_thickOf_18 : decode cX2_thickOf 18 = .ok (.iconst 0, 1) := by decide +kernel
theorem dX2_thickOf_19 : decode cX2_thickOf 19 = .ok (.ireturn, 1) := by decide +kernel
theorem dX2_upperLeft_0 : decode cX2_upperLeft 0 = .ok (.iconst 0, 1) := by decide +kernel
theorem dX2_upperLeft_1 : decode cX2_upperLeft 1 = .ok (.aload_n 0, 1) := by decide +kernel
theorem dX2_upperLeft_2 : decode cX2_upperLeft 2 = .ok (.iload_n 1, 1) := by decide +kernel
theorem dX2_upperLeft_3 : decode cX2_upperLeft 3 = .ok (.invokestatic 88, 3) := by decide +kernel
theorem dX2_upperLeft_6 : decode cX2_upperLeft 6 = .ok (.invokevirtual 91, 3) := by decide +kernel
theorem dX2_upperLeft_9 : decode cX2_upperLeft 9 = .ok (.iload_n 2, 1) := by decide +kernel
theorem dX2_upperLeft_10 : decode cX2_upperLeft 10 = .ok (.isub, 1) := by decide +kernel
theorem dX2_upperLeft_11 : decode cX2_upperLeft 11 = .ok (.invokestatic 94, 3) := by decide +kernel
theorem dX2_upperLeft_14 : decode cX2_upperLeft 14 = .ok (.ireturn, 1) := by decide +kernel
theorem dX2_groundLeft_0 : decode cX2_groundLeft 0 = .ok (.aload_n 0, 1) := by decide +kernel
theorem dX2_groundLeft_1 : decode cX2_groundLeft 1 = .ok (.iload_n 1, 1) := by decide +kernel
theorem dX2_groundLeft_2 : decode cX2_groundLeft 2 = .ok (.invokestatic 84, 3) := by decide +kernel
theorem dX2_groundLeft_5 : decode cX2_groundLeft 5 = .ok (.invokevirtual 91, 3) := by decide +kernel
theorem dX2_groundLeft_8 : decode cX2_groundLeft 8 = .ok (.istore_n 3, 1) := by decide +kernel
theorem dX2_groundLeft_9 : decode cX2_groundLeft 9 = .ok (.iload_n 3, 1) := by decide +kernel
theorem dX2_groundLeft_10 : decode cX2_groundLeft 10 = .ok (.iconst 0, 1) := by decide +kernel
theorem dX2_groundLeft_11 : decode cX2_groundLeft 11 = .ok (.iload_n 3, 1) := by decide +kernel
theorem dX2_groundLeft_12 : decode cX2_groundLeft 12 = .ok (.aload_n 0, 1) := by decide +kernel
theorem dX2_groundLeft_13 : decode cX2_groundLeft 13 = .ok (.iload_n 1, 1) := by decide +kernel
theorem dX2_groundLeft_14 : decode cX2_groundLeft 14 = .ok (.invokestatic 88, 3) := by decide +kernel
theorem dX2_groundLeft_17 : decode cX2_groundLeft 17 = .ok (.invokevirtual 91, 3) := by decide +kernel
theorem dX2_groundLeft_20 : decode cX2_groundLeft 20 = .ok (.iadd, 1) := by decide +kernel
theorem dX2_groundLeft_21 : decode cX2_groundLeft 21 = .ok (.iload_n 2, 1) := by decide +kernel
theorem dX2_groundLeft_22 : decode cX2_groundLeft 22 = .ok (.isub, 1) := by decide +kernel
theorem dX2_groundLeft_23 : decode cX2_groundLeft 23 = .ok (.invokestatic 94, 3) := by decide +kernel
theorem dX2_groundLeft_26 : decode cX2_groundLeft 26 = .ok (.invokestatic 100, 3) := by decide +kernel
theorem dX2_groundLeft_29 : decode cX2_groundLeft 29 = .ok (.ireturn, 1) := by decide +kernel
theorem dX2_stoneLost_0 : decode cX2_stoneLost 0 = .ok (.iconst 0, 1) := by decide +kernel
theorem dX2_stoneLost_1 : decode cX2_stoneLost 1 = .ok (.iload_n 2, 1) := by decide +kernel
theorem dX2_stoneLost_2 : decode cX2_stoneLost 2 = .ok (.aload_n 0, 1) := by decide +kernel
theorem dX2_stoneLost_3 : decode cX2_stoneLost 3 = .ok (.iload_n 1, 1) := by decide +kernel
theorem dX2_stoneLost_4 : decode cX2_stoneLost 4 = .ok (.invokestatic 84, 3) := by decide +kernel
theorem dX2_stoneLost_7 : decode cX2_stoneLost 7 = .ok (.invokevirtual 91, 3) := by decide +kernel
theorem dX2_stoneLost_10 : decode cX2_stoneLost 10 = .ok (.isub, 1) := by decide +kernel
theorem dX2_stoneLost_11 : decode cX2_stoneLost 11 = .ok (.aload_n 0, 1) := by decide +kernel
theorem dX2_stoneLost_12 : decode cX2_stoneLost 12 = .ok (.iload_n 1, 1) := by decide +kernel
theorem dX2_stoneLost_13 : decode cX2_stoneLost 13 = .ok (.invokestatic 88, 3) := by decide +kernel
theorem dX2_stoneLost_16 : decode cX2_stoneLost 16 = .ok (.invokevirtual 91, 3) := by decide +kernel
theorem dX2_stoneLost_19 : decode cX2_stoneLost 19 = .ok (.isub, 1) := by decide +kernel
theorem dX2_stoneLost_20 : decode cX2_stoneLost 20 = .ok (.invokestatic 94, 3) := by decide +kernel
theorem dX2_stoneLost_23 : decode cX2_stoneLost 23 = .ok (.ireturn, 1) := by decide +kernel
theorem dX2_lampsOf_0 : decode cX2_lampsOf 0 = .ok (.aload_n 0, 1) := by decide +kernel
theorem dX2_lampsOf_1 : decode cX2_lampsOf 1 = .ok (.iload_n 1, 1) := by decide +kernel
theorem dX2_lampsOf_2 : decode cX2_lampsOf 2 = .ok (.invokestatic 84, 3) := by decide +kernel
theorem dX2_lampsOf_5 : decode cX2_lampsOf 5 = .ok (.aload_n 0, 1) := by decide +kernel
theorem dX2_lampsOf_6 : decode cX2_lampsOf 6 = .ok (.iload_n 1, 1) := by decide +kernel
theorem dX2_lampsOf_7 : decode cX2_lampsOf 7 = .ok (.iload_n 2, 1) := by decide +kernel
theorem dX2_lampsOf_8 : decode cX2_lampsOf 8 = .ok (.invokevirtual 103, 3) := by decide +kernel
theorem dX2_lampsOf_11 : decode cX2_lampsOf 11 = .ok (.invokevirtual 106, 3) := by decide +kernel
theorem dX2_lampsOf_14 : decode cX2_lampsOf 14 = .ok (.aload_n 0, 1) := by decide +kernel
theorem dX2_lampsOf_15 : decode cX2_lampsOf 15 = .ok (.iload_n 1, 1) := by decide +kernel
theorem dX2_lampsOf_16 : decode cX2_lampsOf 16 = .ok (.invokestatic 88, 3) := by decide +kernel
theorem dX2_lampsOf_19 : decode cX2_lampsOf 19 = .ok (.aload_n 0, 1) := by decide +kernel
theorem dX2_lampsOf_20 : decode cX2_lampsOf 20 = .ok (.iload_n 1, 1) := by decide +kernel
theorem dX2_lampsOf_21 : decode cX2_lampsOf 21 = .ok (.iload_n 2, 1) := by decide +kernel
theorem dX2_lampsOf_22 : decode cX2_lampsOf 22 = .ok (.invokevirtual 109, 3) := by decide +kernel
theorem dX2_lampsOf_25 : decode cX2_lampsOf 25 = .ok (.invokevirtual 106, 3) := by decide +kernel
theorem dX2_lampsOf_28 : decode cX2_lampsOf 28 = .ok (.ior, 1) := by decide +kernel
theorem dX2_lampsOf_29 : decode cX2_lampsOf 29 = .ok (.ireturn, 1) := by decide +kernel
theorem dX2_lampsOfCoat_0 : decode cX2_lampsOfCoat 0 = .ok (.aload_n 0, 1) := by decide +kernel
theorem dX2_lampsOfCoat_1 : decode cX2_lampsOfCoat 1 = .ok (.iload_n 1, 1) := by decide +kernel
theorem dX2_lampsOfCoat_2 : decode cX2_lampsOfCoat 2 = .ok (.invokevirtual 81, 3) := by decide +kernel
theorem dX2_lampsOfCoat_5 : decode cX2_lampsOfCoat 5 = .ok (.ifCond .eq 22, 3) := by decide +kernel
theorem dX2_lampsOfCoat_8 : decode cX2_lampsOfCoat 8 = .ok (.iload_n 2, 1) := by decide +kernel
theorem dX2_lampsOfCoat_9 : decode cX2_lampsOfCoat 9 = .ok (.aload_n 0, 1) := by decide +kernel
theorem dX2_lampsOfCoat_10 : decode cX2_lampsOfCoat 10 = .ok (.getfield 21, 3) := by decide +kernel
theorem dX2_lampsOfCoat_13 : decode cX2_lampsOfCoat 13 = .ok (.iload_n 1, 1) := by decide +kernel
theorem dX2_lampsOfCoat_14 : decode cX2_lampsOfCoat 14 = .ok (.iaload, 1) := by decide +kernel
theorem dX2_lampsOfCoat_15 : decode cX2_lampsOfCoat 15 = .ok (.if_icmp .lt 12, 3) := by decide +kernel
theorem dX2_lampsOfCoat_18 : decode cX2_lampsOfCoat 18 = .ok (.aload_n 0, 1) := by decide +kernel
theorem dX2_lampsOfCoat_19 : decode cX2_lampsOfCoat 19 = .ok (.getfield 18, 3) := by decide +kernel
theorem dX2_lampsOfCoat_22 : decode cX2_lampsOfCoat 22 = .ok (.iload_n 1, 1) := by decide +kernel
theorem dX2_lampsOfCoat_23 : decode cX2_lampsOfCoat 23 = .ok (.iaload, 1) := by decide +kernel
theorem dX2_lampsOfCoat_24 : decode cX2_lampsOfCoat 24 = .ok (.goto 4, 3) := by decide +kernel
theorem dX2_lampsOfCoat_27 : decode cX2_lampsOfCoat 27 = .ok (.iconst 0, 1) := by decide +kernel
theorem dX2_lampsOfCoat_28 : decode cX2_lampsOfCoat 28 = .ok (.ireturn, 1) := by decide +kernel
theorem dX2_grainsOf_0 : decode cX2_grainsOf 0 = .ok (.aload_n 0, 1) := by decide +kernel
theorem dX2_grainsOf_1 : decode cX2_grainsOf 1 = .ok (.iload_n 1, 1) := by decide +kernel
theorem dX2_grainsOf_2 : decode cX2_grainsOf 2 = .ok (.iload_n 2, 1) := by decide +kernel
theorem dX2_grainsOf_3 : decode cX2_grainsOf 3 = .ok (.invokevirtual 103, 3) := by decide +kernel
theorem dX2_grainsOf_6 : decode cX2_grainsOf 6 = .ok (.ifCond .le 12, 3) := by decide +kernel
theorem dX2_grainsOf_9 : decode cX2_grainsOf 9 = .ok (.iconst 1, 1) := by decide +kernel
theorem dX2_grainsOf_10 : decode cX2_grainsOf 10 = .ok (.iload_n 1, 1) := by decide +kernel
theorem dX2_grainsOf_11 : decode cX2_grainsOf 11 = .ok (.invokestatic 84, 3) := by decide +kernel
theorem dX2_grainsOf_14 : decode cX2_grainsOf 14 = .ok (.ishl, 1) := by decide +kernel
theorem dX2_grainsOf_15 : decode cX2_grainsOf 15 = .ok (.goto 4, 3) := by decide +kernel
theorem dX2_grainsOf_18 : decode cX2_grainsOf 18 = .ok (.iconst 0, 1) := by decide +kernel
theorem dX2_grainsOf_19 : decode cX2_grainsOf 19 = .ok (.istore_n 3, 1) := by decide +kernel
theorem dX2_grainsOf_20 : decode cX2_grainsOf 20 = .ok (.aload_n 0, 1) := by decide +kernel
theorem dX2_grainsOf_21 : decode cX2_grainsOf 21 = .ok (.iload_n 1, 1) := by decide +kernel
theorem dX2_grainsOf_22 : decode cX2_grainsOf 22 = .ok (.iload_n 2, 1) := by decide +kernel
theorem dX2_grainsOf_23 : decode cX2_grainsOf 23 = .ok (.invokevirtual 109, 3) := by decide +kernel
theorem dX2_grainsOf_26 : decode cX2_grainsOf 26 = .ok (.ifCond .le 12, 3) := by decide +kernel
theorem dX2_grainsOf_29 : decode cX2_grainsOf 29 = .ok (.iconst 1, 1) := by decide +kernel
theorem dX2_grainsOf_30 : decode cX2_grainsOf 30 = .ok (.iload_n 1, 1) := by decide +kernel
theorem dX2_grainsOf_31 : decode cX2_grainsOf 31 = .ok (.invokestatic 88, 3) := by decide +kernel
theorem dX2_grainsOf_34 : decode cX2_grainsOf 34 = .ok (.ishl, 1) := by decide +kernel
theorem dX2_grainsOf_35 : decode cX2_grainsOf 35 = .ok (.goto 4, 3) := by decide +kernel
theorem dX2_grainsOf_38 : decode cX2_grainsOf 38 = .ok (.iconst 0, 1) := by decide +kernel
theorem dX2_grainsOf_39 : decode cX2_grainsOf 39 = .ok (.istore 4, 2) := by decide +kernel
theorem dX2_grainsOf_41 : decode cX2_grainsOf 41 = .ok (.iload_n 3, 1) := by decide +kernel
theorem dX2_grainsOf_42 : decode cX2_grainsOf 42 = .ok (.iload 4, 2) := by decide +kernel
theorem dX2_grainsOf_44 : decode cX2_grainsOf 44 = .ok (.ior, 1) := by decide +kernel
theorem dX2_grainsOf_45 : decode cX2_grainsOf 45 = .ok (.ireturn, 1) := by decide +kernel
theorem dX2_brightOf_0 : decode cX2_brightOf 0 = .ok (.iload_n 1, 1) := by decide +kernel
theorem dX2_brightOf_1 : decode cX2_brightOf 1 = .ok (.invokestatic 112, 3) := by decide +kernel
theorem dX2_brightOf_4 : decode cX2_brightOf 4 = .ok (.istore_n 2, 1) := by decide +kernel
theorem dX2_brightOf_5 : decode cX2_brightOf 5 = .ok (.aload_n 0, 1) := by decide +kernel
theorem dX2_brightOf_6 : decode cX2_brightOf 6 = .ok (.iload_n 2, 1) := by decide +kernel
theorem dX2_brightOf_7 : decode cX2_brightOf 7 = .ok (.invokevirtual 81, 3) := by decide +kernel
theorem dX2_brightOf_10 : decode cX2_brightOf 10 = .ok (.ifCond .eq 12, 3) := by decide +kernel
theorem dX2_brightOf_13 : decode cX2_brightOf 13 = .ok (.aload_n 0, 1) := by decide +kernel
theorem dX2_brightOf_14 : decode cX2_brightOf 14 = .ok (.getfield 15, 3) := by decide +kernel
theorem dX2_brightOf_17 : decode cX2_brightOf 17 = .ok (.iload_n 2, 1) := by decide +kernel
theorem dX2_brightOf_18 : decode cX2_brightOf 18 = .ok (.iaload, 1) := by decide +kernel
theorem dX2_brightOf_19 : decode cX2_brightOf 19 = .ok (.goto 5, 3) := by decide +kernel
theorem dX2_brightOf_22 : decode cX2_brightOf 22 = .ok (.bipush 9, 2) := by decide +kernel
theorem dX2_brightOf_24 : decode cX2_brightOf 24 = .ok (.ireturn, 1) := by decide +kernel
theorem dX2_mix_0 : decode cX2_mix 0 = .ok (.lload_n 1, 1) := by decide +kernel
theorem dX2_mix_1 : decode cX2_mix 1 = .ok (.lstore_n 3, 1) := by decide +kernel
theorem dX2_mix_2 : decode cX2_mix 2 = .ok (.iconst 0, 1) := by decide +kernel
theorem dX2_mix_3 : decode cX2_mix 3 = .ok (.istore 5, 2) := by decide +kernel
theorem dX2_mix_5 : decode cX2_mix 5 = .ok (.iload 5, 2) := by decide +kernel
theorem dX2_mix_7 : decode cX2_mix 7 = .ok (.aload_n 0, 1) := by decide +kernel
theorem dX2_mix_8 : decode cX2_mix 8 = .ok (.getfield 48, 3) := by decide +kernel
theorem dX2_mix_11 : decode cX2_mix 11 = .ok (.if_icmp .ge 69, 3) := by decide +kernel
theorem dX2_mix_14 : decode cX2_mix 14 = .ok (.ldc2_w 115, 3) := by decide +kernel
theorem dX2_mix_17 : decode cX2_mix 17 = .ok (.lload_n 3, 1) := by decide +kernel
theorem dX2_mix_18 : decode cX2_mix 18 = .ok (.lmul, 1) := by decide +kernel
theorem dX2_mix_19 : decode cX2_mix 19 = .ok (.aload_n 0, 1) := by decide +kernel
theorem dX2_mix_20 : decode cX2_mix 20 = .ok (.getfield 9, 3) := by decide +kernel
theorem dX2_mix_23 : decode cX2_mix 23 = .ok (.iload 5, 2) := by decide +kernel
theorem dX2_mix_25 : decode cX2_mix 25 = .ok (.iaload, 1) := by decide +kernel
theorem dX2_mix_26 : decode cX2_mix 26 = .ok (.i2l, 1) := by decide +kernel
theorem dX2_mix_27 : decode cX2_mix 27 = .ok (.ladd, 1) := by decide +kernel
theorem dX2_mix_28 : decode cX2_mix 28 = .ok (.lstore_n 3, 1) := by decide +kernel
theorem dX2_mix_29 : decode cX2_mix 29 = .ok (.ldc2_w 115, 3) := by decide +kernel
theorem dX2_mix_32 : decode cX2_mix 32 = .ok (.lload_n 3, 1) := by decide +kernel
theorem dX2_mix_33 : decode cX2_mix 33 = .ok (.lmul, 1) := by decide +kernel
theorem dX2_mix_34 : decode cX2_mix 34 = .ok (.aload_n 0, 1) := by decide +kernel
theorem dX2_mix_35 : decode cX2_mix 35 = .ok (.getfield 15, 3) := by decide +kernel
theorem dX2_mix_38 : decode cX2_mix 38 = .ok (.iload 5, 2) := by decide +kernel
theorem dX2_mix_40 : decode cX2_mix 40 = .ok (.iaload, 1) := by decide +kernel
theorem dX2_mix_41 : decode cX2_mix 41 = .ok (.i2l, 1) := by decide +kernel
theorem dX2_mix_42 : decode cX2_mix 42 = .ok (.ladd, 1) := by decide +kernel
theorem dX2_mix_43 : decode cX2_mix 43 = .ok (.lstore_n 3, 1) := by decide +kernel
theorem dX2_mix_44 : decode cX2_mix 44 = .ok (.ldc2_w 115, 3) := by decide +kernel
theorem dX2_mix_47 : decode cX2_mix 47 = .ok (.lload_n 3, 1) := by decide +kernel
theorem dX2_mix_48 : decode cX2_mix 48 = .ok (.lmul, 1) := by decide +kernel
theorem dX2_mix_49 : decode cX2_mix 49 = .ok (.aload_n 0, 1) := by decide +kernel
theorem dX2_mix_50 : decode cX2_mix 50 = .ok (.getfield 18, 3) := by decide +kernel
theorem dX2_mix_53 : decode cX2_mix 53 = .ok (.iload 5, 2) := by decide +kernel
theorem dX2_mix_55 : decode cX2_mix 55 = .ok (.iaload, 1) := by decide +kernel
theorem dX2_mix_56 : decode cX2_mix 56 = .ok (.i2l, 1) := by decide +kernel
theorem dX2_mix_57 : decode cX2_mix 57 = .ok (.ladd, 1) := by decide +kernel
theorem dX2_mix_58 : decode cX2_mix 58 = .ok (.lstore_n 3, 1) := by decide +kernel
theorem dX2_mix_59 : decode cX2_mix 59 = .ok (.ldc2_w 115, 3) := by decide +kernel
theorem dX2_mix_62 : decode cX2_mix 62 = .ok (.lload_n 3, 1) := by decide +kernel
theorem dX2_mix_63 : decode cX2_mix 63 = .ok (.lmul, 1) := by decide +kernel
theorem dX2_mix_64 : decode cX2_mix 64 = .ok (.aload_n 0, 1) := by decide +kernel
theorem dX2_mix_65 : decode cX2_mix 65 = .ok (.getfield 21, 3) := by decide +kernel
theorem dX2_mix_68 : decode cX2_mix 68 = .ok (.iload 5, 2) := by decide +kernel
theorem dX2_mix_70 : decode cX2_mix 70 = .ok (.iaload, 1) := by decide +kernel
theorem dX2_mix_71 : decode cX2_mix 71 = .ok (.i2l, 1) := by decide +kernel
theorem dX2_mix_72 : decode cX2_mix 72 = .ok (.ladd, 1) := by decide +kernel
theorem dX2_mix_73 : decode cX2_mix 73 = .ok (.lstore_n 3, 1) := by decide +kernel
theorem dX2_mix_74 : decode cX2_mix 74 = .ok (.iinc 5 1, 3) := by decide +kernel
theorem dX2_mix_77 : decode cX2_mix 77 = .ok (.goto (-72), 3) := by decide +kernel
theorem dX2_mix_80 : decode cX2_mix 80 = .ok (.iconst 0, 1) := by decide +kernel
theorem dX2_mix_81 : decode cX2_mix 81 = .ok (.istore 5, 2) := by decide +kernel
theorem dX2_mix_83 : decode cX2_mix 83 = .ok (.iload 5, 2) := by decide +kernel
theorem dX2_mix_85 : decode cX2_mix 85 = .ok (.bipush 7, 2) := by decide +kernel
theorem dX2_mix_87 : decode cX2_mix 87 = .ok (.if_icmp .ge 24, 3) := by decide +kernel
theorem dX2_mix_90 : decode cX2_mix 90 = .ok (.ldc2_w 115, 3) := by decide +kernel
theorem dX2_mix_93 : decode cX2_mix 93 = .ok (.lload_n 3, 1) := by decide +kernel
theorem dX2_mix_94 : decode cX2_mix 94 = .ok (.lmul, 1) := by decide +kernel
theorem dX2_mix_95 : decode cX2_mix 95 = .ok (.aload_n 0, 1) := by decide +kernel
theorem dX2_mix_96 : decode cX2_mix 96 = .ok (.getfield 24, 3) := by decide +kernel
theorem dX2_mix_99 : decode cX2_mix 99 = .ok (.iload 5, 2) := by decide +kernel
theorem dX2_mix_101 : decode cX2_mix 101 = .ok (.iaload, 1) := by decide +kernel
theorem dX2_mix_102 : decode cX2_mix 102 = .ok (.i2l, 1) := by decide +kernel
theorem dX2_mix_103 : decode cX2_mix 103 = .ok (.ladd, 1) := by decide +kernel
theorem dX2_mix_104 : decode cX2_mix 104 = .ok (.lstore_n 3, 1) := by decide +kernel
theorem dX2_mix_105 : decode cX2_mix 105 = .ok (.iinc 5 1, 3) := by decide +kernel
theorem dX2_mix_108 : decode cX2_mix 108 = .ok (.goto (-25), 3) := by decide +kernel
theorem dX2_mix_111 : decode cX2_mix 111 = .ok (.iconst 0, 1) := by decide +kernel
theorem dX2_mix_112 : decode cX2_mix 112 = .ok (.istore 5, 2) := by decide +kernel
theorem dX2_mix_114 : decode cX2_mix 114 = .ok (.iload 5, 2) := by decide +kernel
theorem dX2_mix_116 : decode cX2_mix 116 = .ok (.bipush 21, 2) := by decide +kernel
theorem dX2_mix_118 : decode cX2_mix 118 = .ok (.if_icmp .ge 24, 3) := by decide +kernel
theorem dX2_mix_121 : decode cX2_mix 121 = .ok (.ldc2_w 115, 3) := by decide +kernel
theorem dX2_mix_124 : decode cX2_mix 124 = .ok (.lload_n 3, 1) := by decide +kernel
theorem dX2_mix_125 : decode cX2_mix 125 = .ok (.lmul, 1) := by decide +kernel
theorem dX2_mix_126 : decode cX2_mix 126 = .ok (.aload_n 0, 1) := by decide +kernel
theorem dX2_mix_127 : decode cX2_mix 127 = .ok (.getfield 27, 3) := by decide +kernel
theorem dX2_mix_130 : decode cX2_mix 130 = .ok (.iload 5, 2) := by decide +kernel
theorem dX2_mix_132 : decode cX2_mix 132 = .ok (.iaload, 1) := by decide +kernel
theorem dX2_mix_133 : decode cX2_mix 133 = .ok (.i2l, 1) := by decide +kernel
theorem dX2_mix_134 : decode cX2_mix 134 = .ok (.ladd, 1) := by decide +kernel
theorem dX2_mix_135 : decode cX2_mix 135 = .ok (.lstore_n 3, 1) := by decide +kernel
theorem dX2_mix_136 : decode cX2_mix 136 = .ok (.iinc 5 1, 3) := by decide +kernel
theorem dX2_mix_139 : decode cX2_mix 139 = .ok (.goto (-25), 3) := by decide +kernel
theorem dX2_mix_142 : decode cX2_mix 142 = .ok (.iconst 0, 1) := by decide +kernel
theorem dX2_mix_143 : decode cX2_mix 143 = .ok (.istore 5, 2) := by decide +kernel
theorem dX2_mix_145 : decode cX2_mix 145 = .ok (.iload 5, 2) := by decide +kernel
theorem dX2_mix_147 : decode cX2_mix 147 = .ok (.aload_n 0, 1) := by decide +kernel
theorem dX2_mix_148 : decode cX2_mix 148 = .ok (.getfield 52, 3) := by decide +kernel
theorem dX2_mix_151 : decode cX2_mix 151 = .ok (.if_icmp .ge 69, 3) := by decide +kernel
theorem dX2_mix_154 : decode cX2_mix 154 = .ok (.ldc2_w 115, 3) := by decide +kernel
theorem dX2_mix_157 : decode cX2_mix 157 = .ok (.lload_n 3, 1) := by decide +kernel
theorem dX2_mix_158 : decode cX2_mix 158 = .ok (.lmul, 1) := by decide +kernel
theorem dX2_mix_159 : decode cX2_mix 159 = .ok (.aload_n 0, 1) := by decide +kernel
theorem dX2_mix_160 : decode cX2_mix 160 = .ok (.getfield 30, 3) := by decide +kernel
theorem dX2_mix_163 : decode cX2_mix 163 = .ok (.iload 5, 2) := by decide +kernel
theorem dX2_mix_165 : decode cX2_mix 165 = .ok (.iaload, 1) := by decide +kernel
theorem dX2_mix_166 : decode cX2_mix 166 = .ok (.i2l, 1) := by decide +kernel
theorem dX2_mix_167 : decode cX2_mix 167 = .ok (.ladd, 1) := by decide +kernel
theorem dX2_mix_168 : decode cX2_mix 168 = .ok (.lstore_n 3, 1) := by decide +kernel
theorem dX2_mix_169 : decode cX2_mix 169 = .ok (.ldc2_w 115, 3) := by decide +kernel
theorem dX2_mix_172 : decode cX2_mix 172 = .ok (.lload_n 3, 1) := by decide +kernel
theorem dX2_mix_173 : decode cX2_mix 173 = .ok (.lmul, 1) := by decide +kernel
theorem dX2_mix_174 : decode cX2_mix 174 = .ok (.aload_n 0, 1) := by decide +kernel
theorem dX2_mix_175 : decode cX2_mix 175 = .ok (.getfield 33, 3) := by decide +kernel
theorem dX2_mix_178 : decode cX2_mix 178 = .ok (.iload 5, 2) := by decide +kernel
theorem dX2_mix_180 : decode cX2_mix 180 = .ok (.iaload, 1) := by decide +kernel
theorem dX2_mix_181 : decode cX2_mix 181 = .ok (.i2l, 1) := by decide +kernel
theorem dX2_mix_182 : decode cX2_mix 182 = .ok (.ladd, 1) := by decide +kernel
theorem dX2_mix_183 : decode cX2_mix 183 = .ok (.lstore_n 3, 1) := by decide +kernel
theorem dX2_mix_184 : decode cX2_mix 184 = .ok (.ldc2_w 115, 3) := by decide +kernel
theorem dX2_mix_187 : decode cX2_mix 187 = .ok (.lload_n 3, 1) := by decide +kernel
theorem dX2_mix_188 : decode cX2_mix 188 = .ok (.lmul, 1) := by decide +kernel
theorem dX2_mix_189 : decode cX2_mix 189 = .ok (.aload_n 0, 1) := by decide +kernel
theorem dX2_mix_190 : decode cX2_mix 190 = .ok (.getfield 36, 3) := by decide +kernel
theorem dX2_mix_193 : decode cX2_mix 193 = .ok (.iload 5, 2) := by decide +kernel
theorem dX2_mix_195 : decode cX2_mix 195 = .ok (.iaload, 1) := by decide +kernel
theorem dX2_mix_196 : decode cX2_mix 196 = .ok (.i2l, 1) := by decide +kernel
theorem dX2_mix_197 : decode cX2_mix 197 = .ok (.ladd, 1) := by decide +kernel
theorem dX2_mix_198 : decode cX2_mix 198 = .ok (.lstore_n 3, 1) := by decide +kernel
theorem dX2_mix_199 : decode cX2_mix 199 = .ok (.ldc2_w 115, 3) := by decide +kernel
theorem dX2_mix_202 : decode cX2_mix 202 = .ok (.lload_n 3, 1) := by decide +kernel
theorem dX2_mix_203 : decode cX2_mix 203 = .ok (.lmul, 1) := by decide +kernel
theorem dX2_mix_204 : decode cX2_mix 204 = .ok (.aload_n 0, 1) := by decide +kernel
theorem dX2_mix_205 : decode cX2_mix 205 = .ok (.getfield 39, 3) := by decide +kernel
theorem dX2_mix_208 : decode cX2_mix 208 = .ok (.iload 5, 2) := by decide +kernel
theorem dX2_mix_210 : decode cX2_mix 210 = .ok (.iaload, 1) := by decide +kernel
theorem dX2_mix_211 : decode cX2_mix 211 = .ok (.i2l, 1) := by decide +kernel
theorem dX2_mix_212 : decode cX2_mix 212 = .ok (.ladd, 1) := by decide +kernel
theorem dX2_mix_213 : decode cX2_mix 213 = .ok (.lstore_n 3, 1) := by decide +kernel
theorem dX2_mix_214 : decode cX2_mix 214 = .ok (.iinc 5 1, 3) := by decide +kernel
theorem dX2_mix_217 : decode cX2_mix 217 = .ok (.goto (-72), 3) := by decide +kernel
theorem dX2_mix_220 : decode cX2_mix 220 = .ok (.iconst 0, 1) := by decide +kernel
theorem dX2_mix_221 : decode cX2_mix 221 = .ok (.istore 5, 2) := by decide +kernel
theorem dX2_mix_223 : decode cX2_mix 223 = .ok (.iload 5, 2) := by decide +kernel
theorem dX2_mix_225 : decode cX2_mix 225 = .ok (.bipush 48, 2) := by decide +kernel
theorem dX2_mix_227 : decode cX2_mix 227 = .ok (.if_icmp .ge 24, 3) := by decide +kernel
theorem dX2_mix_230 : decode cX2_mix 230 = .ok (.ldc2_w 115, 3) := by decide +kernel
theorem dX2_mix_233 : decode cX2_mix 233 = .ok (.lload_n 3, 1) := by decide +kernel
theorem dX2_mix_234 : decode cX2_mix 234 = .ok (.lmul, 1) := by decide +kernel
theorem dX2_mix_235 : decode cX2_mix 235 = .ok (.aload_n 0, 1) := by decide +kernel
theorem dX2_mix_236 : decode cX2_mix 236 = .ok (.getfield 42, 3) := by decide +kernel
theorem dX2_mix_239 : decode cX2_mix 239 = .ok (.iload 5, 2) := by decide +kernel
theorem dX2_mix_241 : decode cX2_mix 241 = .ok (.iaload, 1) := by decide +kernel
theorem dX2_mix_242 : decode cX2_mix 242 = .ok (.i2l, 1) := by decide +kernel
theorem dX2_mix_243 : decode cX2_mix 243 = .ok (.ladd, 1) := by decide +kernel
theorem dX2_mix_244 : decode cX2_mix 244 = .ok (.lstore_n 3, 1) := by decide +kernel
theorem dX2_mix_245 : decode cX2_mix 245 = .ok (.iinc 5 1, 3) := by decide +kernel
theorem dX2_mix_248 : decode cX2_mix 248 = .ok (.goto (-25), 3) := by decide +kernel
theorem dX2_mix_251 : decode cX2_mix 251 = .ok (.lload_n 3, 1) := by decide +kernel
theorem dX2_mix_252 : decode cX2_mix 252 = .ok (.lreturn, 1) := by decide +kernel
theorem dX3_init_0 : decode cX3_init 0 = .ok (.aload_n 0, 1) := by decide +kernel
theorem dX3_init_1 : decode cX3_init 1 = .ok (.invokespecial 3, 3) := by decide +kernel
theorem dX3_init_4 : decode cX3_init 4 = .ok (.aload_n 0, 1) := by decide +kernel
theorem dX3_init_5 : decode cX3_init 5 = .ok (.sipush 300, 3) := by decide +kernel
theorem dX3_init_8 : decode cX3_init 8 = .ok (.newarray .byte, 2) := by decide +kernel
theorem dX3_init_10 : decode cX3_init 10 = .ok (.putfield 9, 3) := by decide +kernel
theorem dX3_init_13 : decode cX3_init 13 = .ok (.aload_n 0, 1) := by decide +kernel
theorem dX3_init_14 : decode cX3_init 14 = .ok (.iconst 4, 1) := by decide +kernel
theorem dX3_init_15 : decode cX3_init 15 = .ok (.newarray .int, 2) := by decide +kernel
theorem dX3_init_17 : decode cX3_init 17 = .ok (.putfield 15, 3) := by decide +kernel
theorem dX3_init_20 : decode cX3_init 20 = .ok (.return_, 1) := by decide +kernel
theorem dX3_write_0 : decode cX3_write 0 = .ok (.iload_n 3, 1) := by decide +kernel
theorem dX3_write_1 : decode cX3_write 1 = .ok (.iconst 1, 1) := by decide +kernel
theorem dX3_write_2 : decode cX3_write 2 = .ok (.bipush 8, 2) := by decide +kernel
theorem dX3_write_4 : decode cX3_write 4 = .ok (.invokestatic 19, 3) := by decide +kernel
theorem dX3_write_7 : decode cX3_write 7 = .ok (.ifCond .ne 6, 3) := by decide +kernel
theorem dX3_write_10 : decode cX3_write 10 = .ok (.bipush (-2), 2) := by decide +kernel
theorem dX3_write_12 : decode cX3_write 12 = .ok (.ireturn, 1) := by decide +kernel
theorem dX3_write_13 : decode cX3_write 13 = .ok (.aload_n 0, 1) := by decide +kernel
theorem dX3_write_14 : decode cX3_write 14 = .ok (.getfield 23, 3) := by decide +kernel
theorem dX3_write_17 : decode cX3_write 17 = .ok (.iload_n 3, 1) := by decide +kernel
theorem dX3_write_18 : decode cX3_write 18 = .ok (.iadd, 1) := by decide +kernel
theorem dX3_write_19 : decode cX3_write 19 = .ok (.sipush 300, 3) := by decide +kernel
theorem dX3_write_22 : decode cX3_write 22 = .ok (.if_icmp .le 6, 3) := by decide +kernel
theorem dX3_write_25 : decode cX3_write 25 = .ok (.bipush (-4), 2) := by decide +kernel
theorem dX3_write_27 : decode cX3_write 27 = .ok (.ireturn, 1) := by decide +kernel
theorem dX3_write_28 : decode cX3_write 28 = .ok (.iload_n 3, 1) := by decide +kernel
theorem dX3_write_29 : decode cX3_write 29 = .ok (.iconst 1, 1) := by decide +kernel
theorem dX3_write_30 : decode cX3_write 30 = .ok (.isub, 1) := by decide +kernel
theorem dX3_write_31 : decode cX3_write 31 = .ok (.istore 4, 2) := by decide +kernel
theorem dX3_write_33 : decode cX3_write 33 = .ok (.iload 4, 2) := by decide +kernel
theorem dX3_write_35 : decode cX3_write 35 = .ok (.ifCond .lt 34, 3) := by decide +kernel
theorem dX3_write_38 : decode cX3_write 38 = .ok (.aload_n 0, 1) := by decide +kernel
theorem dX3_write_39 : decode cX3_write 39 = .ok (.getfield 9, 3) := by decide +kernel
theorem dX3_write_42 : decode cX3_write 42 = .ok (.aload_n 0, 1) := by decide +kernel
theorem dX3_write_43 : decode cX3_write 43 = .ok (.dup, 1) := by decide +kernel
theorem dX3_write_44 : decode cX3_write 44 = .ok (.getfield 23, 3) := by decide +kernel
theorem dX3_write_47 : decode cX3_write 47 = .ok (.dup_x1, 1) := by decide +kernel
theorem dX3_write_48 : decode cX3_write 48 = .ok (.iconst 1, 1) := by decide +kernel
theorem dX3_write_49 : decode cX3_write 49 = .ok (.iadd, 1) := by decide +kernel
theorem dX3_write_50 : decode cX3_write 50 = .ok (.putfield 23, 3) := by decide +kernel
theorem dX3_write_53 : decode cX3_write 53 = .ok (.lload_n 1, 1) := by decide +kernel
theorem dX3_write_54 : decode cX3_write 54 = .ok (.bipush 8, 2) := by decide +kernel
theorem dX3_write_56 : decode cX3_write 56 = .ok (.iload 4, 2) := by decide +kernel
theorem dX3_write_58 : decode cX3_write 58 = .ok (.imul, 1) := by decide +kernel
theorem dX3_write_59 : decode cX3_write 59 = .ok (.lushr, 1) := by decide +kernel
theorem dX3_write_60 : decode cX3_write 60 = .ok (.l2i, 1) := by decide +kernel
theorem dX3_write_61 : decode cX3_write 61 = .ok (.i2b, 1) := by decide +kernel
theorem dX3_write_62 : decode cX3_write 62 = .ok (.bastore, 1) := by decide +kernel
theorem dX3_write_63 : decode cX3_write 63 = .ok (.iinc 4 (-1), 3) := by decide +kernel
theorem dX3_write_66 : decode cX3_write 66 = .ok (.goto (-33), 3) := by decide +kernel
theorem dX3_write_69 : decode cX3_write 69 = .ok (.aload_n 0, 1) := by decide +kernel
theorem dX3_write_70 : decode cX3_write 70 = .ok (.getfield 23, 3) := by decide +kernel
theorem dX3_write_73 : decode cX3_write 73 = .ok (.ireturn, 1) := by decide +kernel
theorem dX3_wipe_0 : decode cX3_wipe 0 = .ok (.aload_n 0, 1) := by decide +kernel
theorem dX3_wipe_1 : decode cX3_wipe 1 = .ok (.getfield 23, 3) := by decide +kernel
theorem dX3_wipe_4 : decode cX3_wipe 4 = .ok (.istore_n 1, 1) := by decide +kernel
theorem dX3_wipe_5 : decode cX3_wipe 5 = .ok (.aload_n 0, 1) := by decide +kernel
theorem dX3_wipe_6 : decode cX3_wipe 6 = .ok (.iconst 0, 1) := by decide +kernel
theorem dX3_wipe_7 : decode cX3_wipe 7 = .ok (.putfield 23, 3) := by decide +kernel
theorem dX3_wipe_10 : decode cX3_wipe 10 = .ok (.iload_n 1, 1) := by decide +kernel
theorem dX3_wipe_11 : decode cX3_wipe 11 = .ok (.ireturn, 1) := by decide +kernel
theorem dX3_tell_0 : decode cX3_tell 0 = .ok (.aload_n 1, 1) := by decide +kernel
theorem dX3_tell_1 : decode cX3_tell 1 = .ok (.invokevirtual 27, 3) := by decide +kernel
theorem dX3_tell_4 : decode cX3_tell 4 = .ok (.iconst 0, 1) := by decide +kernel
theorem dX3_tell_5 : decode cX3_tell 5 = .ok (.istore_n 2, 1) := by decide +kernel
theorem dX3_tell_6 : decode cX3_tell 6 = .ok (.iconst (-1), 1) := by decide +kernel
theorem dX3_tell_7 : decode cX3_tell 7 = .ok (.istore_n 3, 1) := by decide +kernel
theorem dX3_tell_8 : decode cX3_tell 8 = .ok (.aload_n 0, 1) := by decide +kernel
theorem dX3_tell_9 : decode cX3_tell 9 = .ok (.iconst 0, 1) := by decide +kernel
theorem dX3_tell_10 : decode cX3_tell 10 = .ok (.putfield 32, 3) := by decide +kernel
theorem dX3_tell_13 : decode cX3_tell 13 = .ok (.aload_n 0, 1) := by decide +kernel
theorem dX3_tell_14 : decode cX3_tell 14 = .ok (.invokevirtual 35, 3) := by decide +kernel
theorem dX3_tell_17 : decode cX3_tell 17 = .ok (.iconst 0, 1) := by decide +kernel
theorem dX3_tell_18 : decode cX3_tell 18 = .ok (.istore 4, 2) := by decide +kernel
theorem dX3_tell_20 : decode cX3_tell 20 = .ok (.iload 4, 2) := by decide +kernel
theorem dX3_tell_22 : decode cX3_tell 22 = .ok (.sipush 300, 3) := by decide +kernel
theorem dX3_tell_25 : decode cX3_tell 25 = .ok (.if_icmp .ge 73, 3) := by decide +kernel
theorem dX3_tell_28 : decode cX3_tell 28 = .ok (.aload_n 0, 1) := by decide +kernel
theorem dX3_tell_29 : decode cX3_tell 29 = .ok (.getfield 38, 3) := by decide +kernel
theorem dX3_tell_32 : decode cX3_tell 32 = .ok (.ifCond .eq 66, 3) := by decide +kernel
theorem dX3_tell_35 : decode cX3_tell 35 = .ok (.aload_n 0, 1) := by decide +kernel
theorem dX3_tell_36 : decode cX3_tell 36 = .ok (.getfield 38, 3) := by decide +kernel
theorem dX3_tell_39 : decode cX3_tell 39 = .ok (.iconst 1, 1) := by decide +kernel
theorem dX3_tell_40 : decode cX3_tell 40 = .ok (.if_icmp .ne 10, 3) := by decide +kernel
theorem dX3_tell_43 : decode cX3_tell 43 = .ok (.aload_n 0, 1) := by decide +kernel
theorem dX3_tell_44 : decode cX3_tell 44 = .ok (.getfield 41, 3) := by decide +kernel
theorem dX3_tell_47 : decode cX3_tell 47 = .ok (.goto 4, 3) := by decide +kernel
theorem dX3_tell_50 : decode cX3_tell 50 = .ok (.iconst (-1), 1) := by decide +kernel
theorem dX3_tell_51 : decode cX3_tell 51 = .ok (.istore 5, 2) := by decide +kernel
theorem dX3_tell_53 : decode cX3_tell 53 = .ok (.aload_n 0, 1) := by decide +kernel
theorem dX3_tell_54 : decode cX3_tell 54 = .ok (.invokevirtual 44, 3) := by decide +kernel
theorem dX3_tell_57 : decode cX3_tell 57 = .ok (.ifCond .ne 11, 3) := by decide +kernel
theorem dX3_tell_60 : decode cX3_tell 60 = .ok (.bipush (-10), 2) := by decide +kernel
theorem dX3_tell_62 : decode cX3_tell 62 = .ok (.aload_n 0, 1) := by decide +kernel
theorem dX3_tell_63 : decode cX3_tell 63 = .ok (.getfield 48, 3) := by decide +kernel
theorem dX3_tell_66 : decode cX3_tell 66 = .ok (.isub, 1) := by decide +kernel
theorem dX3_tell_67 : decode cX3_tell 67 = .ok (.ireturn, 1) := by decide +kernel
theorem dX3_tell_68 : decode cX3_tell 68 = .ok (.iload_n 3, 1) := by decide +kernel
theorem dX3_tell_69 : decode cX3_tell 69 = .ok (.iconst (-1), 1) := by decide +kernel
theorem dX3_tell_70 : decode cX3_tell 70 = .ok (.if_icmp .ne 15, 3) := by decide +kernel
theorem dX3_tell_73 : decode cX3_tell 73 = .ok (.aload_n 0, 1) := by decide +kernel
theorem dX3_tell_74 : decode cX3_tell 74 = .ok (.aload_n 1, 1) := by decide +kernel
theorem dX3_tell_75 : decode cX3_tell 75 = .ok (.iload 5, 2) := by decide +kernel
theorem dX3_tell_77 : decode cX3_tell 77 = .ok (.invokevirtual 51, 3) := by decide +kernel
theorem dX3_tell_80 : decode cX3_tell 80 = .ok (.ifCond .ne 5, 3) := by decide +kernel
theorem dX3_tell_83 : decode cX3_tell 83 = .ok (.iload_n 2, 1) := by decide +kernel
theorem dX3_tell_84 : decode cX3_tell 84 = .ok (.istore_n 3, 1) := by decide +kernel
theorem dX3_tell_85 : decode cX3_tell 85 = .ok (.iinc 2 1, 3) := by decide +kernel
theorem dX3_tell_88 : decode cX3_tell 88 = .ok (.aload_n 0, 1) := by decide +kernel
theorem dX3_tell_89 : decode cX3_tell 89 = .ok (.invokevirtual 35, 3) := by decide +kernel
theorem dX3_tell_92 : decode cX3_tell 92 = .ok (.iinc 4 1, 3) := by decide +kernel
theorem dX3_tell_95 : decode cX3_tell 95 = .ok (.goto (-75), 3) := by decide +kernel
theorem dX3_tell_98 : decode cX3_tell 98 = .ok (.iload_n 3, 1) := by decide +kernel
theorem dX3_tell_99 : decode cX3_tell 99 = .ok (.iconst (-1), 1) := by decide +kernel
theorem dX3_tell_100 : decode cX3_tell 100 = .ok (.if_icmp .ne 7, 3) := by decide +kernel
theorem dX3_tell_103 : decode cX3_tell 103 = .ok (.iload_n 2, 1) := by decide +kernel
theorem dX3_tell_104 : decode cX3_tell 104 = .ok (.goto 8, 3) := by decide +kernel
theorem dX3_tell_107 : decode cX3_tell 107 = .ok (.sipush (-1000), 3) := by decide +kernel
theorem dX3_tell_110 : decode cX3_tell 110 = .ok (.iload_n 3, 1) := by decide +kernel
theorem dX3_tell_111 : decode cX3_tell 111 = .ok (.isub, 1) := by decide +kernel
theorem dX3_tell_112 : decode cX3_tell 112 = .ok (.ireturn, 1) := by decide +kernel
theorem dX3_readItem_0 : decode cX3_readItem 0 = .ok (.aload_n 0, 1) := by decide +kernel
theorem dX3_readItem_1 : decode cX3_readItem 1 = .ok (.getfield 38, 3) := by decide +kernel
theorem dX3_readItem_4 : decode cX3_readItem 4 = .ok (.iconst 1, 1) := by decide +kernel
theorem dX3_readItem_5 : decode cX3_readItem 5 = .ok (.if_icmp .ne 20, 3) := by decide +kernel
theorem dX3_readItem_8 : decode cX3_readItem 8 = .ok (.aload_n 0, 1) := by decide +kernel
theorem dX3_readItem_9 : decode cX3_readItem 9 = .ok (.getfield 41, 3) := by decide +kernel
theorem dX3_readItem_12 : decode cX3_readItem 12 = .ok (.iconst 0, 1) := by decide +kernel
theorem dX3_readItem_13 : decode cX3_readItem 13 = .ok (.getstatic 55, 3) := by decide +kernel
theorem dX3_readItem_16 : decode cX3_readItem 16 = .ok (.arraylength, 1) := by decide +kernel
theorem dX3_readItem_17 : decode cX3_readItem 17 = .ok (.iconst 1, 1) := by decide +kernel
theorem dX3_readItem_18 : decode cX3_readItem 18 = .ok (.isub, 1) := by decide +kernel
theorem dX3_readItem_19 : decode cX3_readItem 19 = .ok (.invokestatic 19, 3) := by decide +kernel
theorem dX3_readItem_22 : decode cX3_readItem 22 = .ok (.ifCond .ne 5, 3) := by decide +kernel
theorem dX3_readItem_25 : decode cX3_readItem 25 = .ok (.iconst 0, 1) := by decide +kernel
theorem dX3_readItem_26 : decode cX3_readItem 26 = .ok (.ireturn, 1) := by decide +kernel
theorem dX3_readItem_27 : decode cX3_readItem 27 = .ok (.getstatic 55, 3) := by decide +kernel
theorem dX3_readItem_30 : decode cX3_readItem 30 = .ok (.aload_n 0, 1) := by decide +kernel
theorem dX3_readItem_31 : decode cX3_readItem 31 = .ok (.getfield 41, 3) := by decide +kernel
theorem dX3_readItem_34 : decode cX3_readItem 34 = .ok (.iaload, 1) := by decide +kernel
theorem dX3_readItem_35 : decode cX3_readItem 35 = .ok (.istore_n 1, 1) := by decide +kernel
theorem dX3_readItem_36 : decode cX3_readItem 36 = .ok (.iconst 0, 1) := by decide +kernel
theorem dX3_readItem_37 : decode cX3_readItem 37 = .ok (.istore_n 2, 1) := by decide +kernel
theorem dX3_readItem_38 : decode cX3_readItem 38 = .ok (.iload_n 2, 1) := by decide +kernel
theorem dX3_readItem_39 : decode cX3_readItem 39 = .ok (.iload_n 1, 1) := by decide +kernel
theorem dX3_readItem_40 : decode cX3_readItem 40 = .ok (.if_icmp .ge 42, 3) := by decide +kernel
theorem dX3_readItem_43 : decode cX3_readItem 43 = .ok (.iload_n 2, 1) := by decide +kernel
theorem dX3_readItem_44 : decode cX3_readItem 44 = .ok (.aload_n 0, 1) := by decide +kernel
theorem dX3_readItem_45 : decode cX3_readItem 45 = .ok (.getfield 15, 3) := by decide +kernel
theorem dX3_readItem_48 : decode cX3_readItem 48 = .ok (.arraylength, 1) := by decide +kernel
theorem dX3_readItem_49 : decode cX3_readItem 49 = .ok (.if_icmp .ge 33, 3) := by decide +kernel
theorem dX3_readItem_52 : decode cX3_readItem 52 = .ok (.aload_n 0, 1) := by decide +kernel
theorem dX3_readItem_53 : decode cX3_readItem 53 = .ok (.invokevirtual 35, 3) := by decide +kernel
theorem dX3_readItem_56 : decode cX3_readItem 56 = .ok (.aload_n 0, 1) := by decide +kernel
theorem dX3_readItem_57 : decode cX3_readItem 57 = .ok (.getfield 38, 3) := by decide +kernel
theorem dX3_readItem_60 : decode cX3_readItem 60 = .ok (.iconst 2, 1) := by decide +kernel
theorem dX3_readItem_61 : decode cX3_readItem 61 = .ok (.if_icmp .eq 5, 3) := by decide +kernel
theorem dX3_readItem_64 : decode cX3_readItem 64 = .ok (.iconst 0, 1) := by decide +kernel
theorem dX3_readItem_65 : decode cX3_readItem 65 = .ok (.ireturn, 1) := by decide +kernel
theorem dX3_readItem_66 : decode cX3_readItem 66 = .ok (.aload_n 0, 1) := by decide +kernel
theorem dX3_readItem_67 : decode cX3_readItem 67 = .ok (.getfield 15, 3) := by decide +kernel
theorem dX3_readItem_70 : decode cX3_readItem 70 = .ok (.iload_n 2, 1) := by decide +kernel
theorem dX3_readItem_71 : decode cX3_readItem 71 = .ok (.aload_n 0, 1) := by decide +kernel
theorem dX3_readItem_72 : decode cX3_readItem 72 = .ok (.getfield 41, 3) := by decide +kernel
theorem dX3_readItem_75 : decode cX3_readItem 75 = .ok (.iastore, 1) := by decide +kernel
theorem dX3_readItem_76 : decode cX3_readItem 76 = .ok (.iinc 2 1, 3) := by decide +kernel
theorem dX3_readItem_79 : decode cX3_readItem 79 = .ok (.goto (-41), 3) := by decide +kernel
theorem dX3_readItem_82 : decode cX3_readItem 82 = .ok (.aload_n 0, 1) := by decide +kernel
theorem dX3_readItem_83 : decode cX3_readItem 83 = .ok (.invokevirtual 35, 3) := by decide +kernel
theorem dX3_readItem_86 : decode cX3_readItem 86 = .ok (.aload_n 0, 1) := by decide +kernel
theorem dX3_readItem_87 : decode cX3_readItem 87 = .ok (.getfield 38, 3) := by decide +kernel
theorem dX3_readItem_90 : decode cX3_readItem 90 = .ok (.iconst 3, 1) := by decide +kernel
theorem dX3_readItem_91 : decode cX3_readItem 91 = .ok (.if_icmp .ne 7, 3) := by decide +kernel
theorem dX3_readItem_94 : decode cX3_readItem 94 = .ok (.iconst 1, 1) := by decide +kernel
theorem dX3_readItem_95 : decode cX3_readItem 95 = .ok (.goto 4, 3) := by decide +kernel
theorem dX3_readItem_98 : decode cX3_readItem 98 = .ok (.iconst 0, 1) := by decide +kernel
theorem dX3_readItem_99 : decode cX3_readItem 99 = .ok (.ireturn, 1) := by decide +kernel
theorem dX3_tellItem_0 : decode cX3_tellItem 0 = .ok (.aload_n 0, 1) := by decide +kernel
theorem dX3_tellItem_1 : decode cX3_tellItem 1 = .ok (.aload_n 1, 1) := by decide +kernel
theorem dX3_tellItem_2 : decode cX3_tellItem 2 = .ok (.iload_n 2, 1) := by decide +kernel
theorem dX3_tellItem_3 : decode cX3_tellItem 3 = .ok (.invokevirtual 58, 3) := by decide +kernel
theorem dX3_tellItem_6 : decode cX3_tellItem 6 = .ok (.iconst (-1), 1) := by decide +kernel
theorem dX3_tellItem_7 : decode cX3_tellItem 7 = .ok (.if_icmp .lt 7, 3) := by decide +kernel
theorem dX3_tellItem_10 : decode cX3_tellItem 10 = .ok (.iconst 1, 1) := by decide +kernel
theorem dX3_tellItem_11 : decode cX3_tellItem 11 = .ok (.goto 4, 3) := by decide +kernel
theorem dX3_tellItem_14 : decode cX3_tellItem 14 = .ok (.iconst 0, 1) := by decide +kernel
theorem dX3_tellItem_15 : decode cX3_tellItem 15 = .ok (.ireturn, 1) := by decide +kernel
theorem dX3_answerTo_0 : decode cX3_answerTo 0 = .ok (.iload_n 2, 1) := by decide +kernel
theorem dX3_answerTo_1 : decode cX3_answerTo 1 = .ok (.tableswitch 217 0 13 #[71, 100, 132, 144, 156, 169, 217, 217, 217, 217, 217, 217, 186, 200], 71) := by decide +kernel
theorem dX3_answerTo_72 : decode cX3_answerTo 72 = .ok (.aload_n 1, 1) := by decide +kernel
theorem dX3_answerTo_73 : decode cX3_answerTo 73 = .ok (.aload_n 0, 1) := by decide +kernel
theorem dX3_answerTo_74 : decode cX3_answerTo 74 = .ok (.getfield 15, 3) := by decide +kernel
theorem dX3_answerTo_77 : decode cX3_answerTo 77 = .ok (.iconst 0, 1) := by decide +kernel
theorem dX3_answerTo_78 : decode cX3_answerTo 78 = .ok (.iaload, 1) := by decide +kernel
theorem dX3_answerTo_79 : decode cX3_answerTo 79 = .ok (.aload_n 0, 1) := by decide +kernel
theorem dX3_answerTo_80 : decode cX3_answerTo 80 = .ok (.getfield 15, 3) := by decide +kernel
theorem dX3_answerTo_83 : decode cX3_answerTo 83 = .ok (.iconst 1, 1) := by decide +kernel
theorem dX3_answerTo_84 : decode cX3_answerTo 84 = .ok (.iaload, 1) := by decide +kernel
theorem dX3_answerTo_85 : decode cX3_answerTo 85 = .ok (.aload_n 0, 1) := by decide +kernel
theorem dX3_answerTo_86 : decode cX3_answerTo 86 = .ok (.getfield 15, 3) := by decide +kernel
theorem dX3_answerTo_89 : decode cX3_answerTo 89 = .ok (.iconst 2, 1) := by decide +kernel
theorem dX3_answerTo_90 : decode cX3_answerTo 90 = .ok (.iaload, 1) := by decide +kernel
theorem dX3_answerTo_91 : decode cX3_answerTo 91 = .ok (.aload_n 0, 1) := by decide +kernel
theorem dX3_answerTo_92 : decode cX3_answerTo 92 = .ok (.getfield 15, 3) := by decide +kernel
theorem dX3_answerTo_95 : decode cX3_answerTo 95 = .ok (.iconst 3, 1) := by decide +kernel
theorem dX3_answerTo_96 : decode cX3_answerTo 96 = .ok (.iaload, 1) := by decide +kernel
theorem dX3_answerTo_97 : decode cX3_answerTo 97 = .ok (.invokevirtual 62, 3) := by decide +kernel
theorem dX3_answerTo_100 : decode cX3_answerTo 100 = .ok (.ireturn, 1) := by decide +kernel
theorem dX3_answerTo_101 : decode cX3_answerTo 101 = .ok (.aload_n 0, 1) := by decide +kernel
theorem dX3_answerTo_102 : decode cX3_answerTo 102 = .ok (.getfield 15, 3) := by decide +kernel
theorem dX3_answerTo_105 : decode cX3_answerTo 105 = .ok (.iconst 0, 1) := by decide +kernel
theorem dX3_answerTo_106 : decode cX3_answerTo 106 = .ok (.iaload, 1) := by decide +kernel
theorem dX3_answerTo_107 : decode cX3_answerTo 107 = .ok (.iconst 4, 1) := by decide +kernel
theorem dX3_answerTo_108 : decode cX3_answerTo 108 = .ok (.if_icmp .ge 22, 3) := by decide +kernel
theorem dX3_answerTo_111 : decode cX3_answerTo 111 = .ok (.aload_n 1, 1) := by decide +kernel
theorem dX3_answerTo_112 : decode cX3_answerTo 112 = .ok (.aload_n 0, 1) := by decide +kernel
theorem dX3_answerTo_113 : decode cX3_answerTo 113 = .ok (.getfield 15, 3) := by decide +kernel
theorem dX3_answerTo_116 : decode cX3_answerTo 116 = .ok (.iconst 0, 1) := by decide +kernel
theorem dX3_answerTo_117 : decode cX3_answerTo 117 = .ok (.iaload, 1) := by decide +kernel
theorem dX3_answerTo_118 : decode cX3_answerTo 118 = .ok (.aload_n 0, 1) := by decide +kernel
theorem dX3_answerTo_119 : decode cX3_answerTo 119 = .ok (.getfield 15, 3) := by decide +kernel
theorem dX3_answerTo_122 : decode cX3_answerTo 122 = .ok (.iconst 1, 1) := by decide +kernel
theorem dX3_answerTo_123 : decode cX3_answerTo 123 = .ok (.iaload, 1) := by decide +kernel
theorem dX3_answerTo_124 : decode cX3_answerTo 124 = .ok (.invokevirtual 66, 3) := by decide +kernel
theorem dX3_answerTo_127 : decode cX3_answerTo 127 = .ok (.goto 5, 3) := by decide +kernel
theorem dX3_answerTo_130 : decode cX3_answerTo 130 = .ok (.bipush (-2), 2) := by decide +kernel
theorem dX3_answerTo_132 : decode cX3_answerTo 132 = .ok (.ireturn, 1) := by decide +kernel
theorem dX3_answerTo_133 : decode cX3_answerTo 133 = .ok (.aload_n 1, 1) := by decide +kernel
theorem dX3_answerTo_134 : decode cX3_answerTo 134 = .ok (.iconst 4, 1) := by decide +kernel
theorem dX3_answerTo_135 : decode cX3_answerTo 135 = .ok (.aload_n 0, 1) := by decide +kernel
theorem dX3_answerTo_136 : decode cX3_answerTo 136 = .ok (.getfield 15, 3) := by decide +kernel
theorem dX3_answerTo_139 : decode cX3_answerTo 139 = .ok (.iconst 0, 1) := by decide +kernel
theorem dX3_answerTo_140 : decode cX3_answerTo 140 = .ok (.iaload, 1) := by decide +kernel
theorem dX3_answerTo_141 : decode cX3_answerTo 141 = .ok (.invokevirtual 66, 3) := by decide +kernel
theorem dX3_answerTo_144 : decode cX3_answerTo 144 = .ok (.ireturn, 1) := by decide +kernel
theorem dX3_answerTo_145 : decode cX3_answerTo 145 = .ok (.aload_n 1, 1) := by decide +kernel
theorem dX3_answerTo_146 : decode cX3_answerTo 146 = .ok (.iconst 5, 1) := by decide +kernel
theorem dX3_answerTo_147 : decode cX3_answerTo 147 = .ok (.aload_n 0, 1) := by decide +kernel
theorem dX3_answerTo_148 : decode cX3_answerTo 148 = .ok (.getfield 15, 3) := by decide +kernel
theorem dX3_answerTo_151 : decode cX3_answerTo 151 = .ok (.iconst 0, 1) := by decide +kernel
theorem dX3_answerTo_152 : decode cX3_answerTo 152 = .ok (.iaload, 1) := by decide +kernel
theorem dX3_answerTo_153 : decode cX3_answerTo 153 = .ok (.invokevirtual 66, 3) := by decide +kernel
theorem dX3_answerTo_156 : decode cX3_answerTo 156 = .ok (.ireturn, 1) := by decide +kernel
theorem dX3_answerTo_157 : decode cX3_answerTo 157 = .ok (.aload_n 1, 1) := by decide +kernel
theorem dX3_answerTo_158 : decode cX3_answerTo 158 = .ok (.bipush 6, 2) := by decide +kernel
theorem dX3_answerTo_160 : decode cX3_answerTo 160 = .ok (.aload_n 0, 1) := by decide +kernel
theorem dX3_answerTo_161 : decode cX3_answerTo 161 = .ok (.getfield 15, 3) := by decide +kernel
theorem dX3_answerTo_164 : decode cX3_answerTo 164 = .ok (.iconst 0, 1) := by decide +kernel
theorem dX3_answerTo_165 : decode cX3_answerTo 165 = .ok (.iaload, 1) := by decide +kernel
theorem dX3_answerTo_166 : decode cX3_answerTo 166 = .ok (.invokevirtual 66, 3) := by decide +kernel
theorem dX3_answerTo_169 : decode cX3_answerTo 169 = .ok (.ireturn, 1) := by decide +kernel
theorem dX3_answerTo_170 : decode cX3_answerTo 170 = .ok (.aload_n 1, 1) := by decide +kernel
theorem dX3_answerTo_171 : decode cX3_answerTo 171 = .ok (.aload_n 0, 1) := by decide +kernel
theorem dX3_answerTo_172 : decode cX3_answerTo 172 = .ok (.getfield 15, 3) := by decide +kernel
theorem dX3_answerTo_175 : decode cX3_answerTo 175 = .ok (.iconst 0, 1) := by decide +kernel
theorem dX3_answerTo_176 : decode cX3_answerTo 176 = .ok (.iaload, 1) := by decide +kernel
theorem dX3_answerTo_177 : decode cX3_answerTo 177 = .ok (.aload_n 0, 1) := by decide +kernel
theorem dX3_answerTo_178 : decode cX3_answerTo 178 = .ok (.getfield 15, 3) := by decide +kernel
theorem dX3_answerTo_181 : decode cX3_answerTo 181 = .ok (.iconst 1, 1) := by decide +kernel
theorem dX3_answerTo_182 : decode cX3_answerTo 182 = .ok (.iaload, 1) := by decide +kernel
theorem dX3_answerTo_183 : decode cX3_answerTo 183 = .ok (.invokevirtual 70, 3) := by decide +kernel
theorem dX3_answerTo_186 : decode cX3_answerTo 186 = .ok (.ireturn, 1) := by decide +kernel
theorem dX3_answerTo_187 : decode cX3_answerTo 187 = .ok (.aload_n 1, 1) := by decide +kernel
theorem dX3_answerTo_188 : decode cX3_answerTo 188 = .ok (.aload_n 0, 1) := by decide +kernel
theorem dX3_answerTo_189 : decode cX3_answerTo 189 = .ok (.getfield 15, 3) := by decide +kernel
theorem dX3_answerTo_192 : decode cX3_answerTo 192 = .ok (.iconst 0, 1) := by decide +kernel
theorem dX3_answerTo_193 : decode cX3_answerTo 193 = .ok (.iaload, 1) := by decide +kernel
theorem dX3_answerTo_194 : decode cX3_answerTo 194 = .ok (.bipush 6, 2) := by decide +kernel
theorem dX3_answerTo_196 : decode cX3_answerTo 196 = .ok (.iconst 0, 1) := by decide +kernel
theorem dX3_answerTo_197 : decode cX3_answerTo 197 = .ok (.invokevirtual 73, 3) := by decide +kernel
theorem dX3_answerTo_200 : decode cX3_answerTo 200 = .ok (.ireturn, 1) := by decide +kernel
theorem dX3_answerTo_201 : decode cX3_answerTo 201 = .ok (.aload_n 1, 1) := by decide +kernel
theorem dX3_answerTo_202 : decode cX3_answerTo 202 = .ok (.aload_n 0, 1) := by decide +kernel
theorem dX3_answerTo_203 : decode cX3_answerTo 203 = .ok (.getfield 15, 3) := by decide +kernel
theorem dX3_answerTo_206 : decode cX3_answerTo 206 = .ok (.iconst 0, 1) := by decide +kernel
theorem dX3_answerTo_207 : decode cX3_answerTo 207 = .ok (.iaload, 1) := by decide +kernel
theorem dX3_answerTo_208 : decode cX3_answerTo 208 = .ok (.aload_n 0, 1) := by decide +kernel
theorem dX3_answerTo_209 : decode cX3_answerTo 209 = .ok (.getfield 15, 3) := by decide +kernel
theorem dX3_answerTo_212 : decode cX3_answerTo 212 = .ok (.iconst 1, 1) := by decide +kernel
theorem dX3_answerTo_213 : decode cX3_answerTo 213 = .ok (.iaload, 1) := by decide +kernel
theorem dX3_answerTo_214 : decode cX3_answerTo 214 = .ok (.invokevirtual 77, 3) := by decide +kernel
theorem dX3_answerTo_217 : decode cX3_answerTo 217 = .ok (.ireturn, 1) := by decide +kernel
theorem dX3_answerTo_218 : decode cX3_answerTo 218 = .ok (.aload_n 1, 1) := by decide +kernel
theorem dX3_answerTo_219 : decode cX3_answerTo 219 = .ok (.aload_n 0, 1) := by decide +kernel
theorem dX3_answerTo_220 : decode cX3_answerTo 220 = .ok (.getfield 15, 3) := by decide +kernel
theorem dX3_answerTo_223 : decode cX3_answerTo 223 = .ok (.iconst 0, 1) := by decide +kernel
theorem dX3_answerTo_224 : decode cX3_answerTo 224 = .ok (.iaload, 1) := by decide +kernel
theorem dX3_answerTo_225 : decode cX3_answerTo 225 = .ok (.iload_n 2, 1) := by decide +kernel
theorem dX3_answerTo_226 : decode cX3_answerTo 226 = .ok (.bipush 6, 2) := by decide +kernel
theorem dX3_answerTo_228 : decode cX3_answerTo 228 = .ok (.isub, 1) := by decide +kernel
theorem dX3_answerTo_229 : decode cX3_answerTo 229 = .ok (.aload_n 0, 1) := by decide +kernel
theorem dX3_answerTo_230 : decode cX3_answerTo 230 = .ok (.getfield 15, 3) := by decide +kernel
theorem dX3_answerTo_233 : decode cX3_answerTo 233 = .ok (.iconst 1, 1) := by decide +kernel
theorem dX3_answerTo_234 : decode cX3_answerTo 234 = .ok (.iaload, 1) := by decide +kernel
theorem dX3_answerTo_235 : decode cX3_answerTo 235 = .ok (.invokevirtual 73, 3) := by decide +kernel
theorem dX3_answerTo_238 : decode cX3_answerTo 238 = .ok (.ireturn, 1) := by decide +kernel
theorem dX3_readToken_0 : decode cX3_readToken 0 = .ok (.aload_n 0, 1) := by decide +kernel
theorem dX3_readToken_1 : decode cX3_readToken 1 = .ok (.getfield 32, 3) := by decide +kernel
theorem dX3_readToken_4 : decode cX3_readToken 4 = .ok (.aload_n 0, 1) := by decide +kernel
theorem dX3_readToken_5 : decode cX3_readToken 5 = .ok (.getfield 23, 3) := by decide +kernel
theorem dX3_readToken_8 : decode cX3_readToken 8 = .ok (.if_icmp .ge 29, 3) := by decide +kernel
theorem dX3_readToken_11 : decode cX3_readToken 11 = .ok (.aload_n 0, 1) := by decide +kernel
theorem dX3_readToken_12 : decode cX3_readToken 12 = .ok (.aload_n 0, 1) := by decide +kernel
theorem dX3_readToken_13 : decode cX3_readToken 13 = .ok (.getfield 32, 3) := by decide +kernel
theorem dX3_readToken_16 : decode cX3_readToken 16 = .ok (.invokevirtual 80, 3) := by decide +kernel
theorem dX3_readToken_19 : decode cX3_readToken 19 = .ok (.bipush 32, 2) := by decide +kernel
theorem dX3_readToken_21 : decode cX3_readToken 21 = .ok (.if_icmp .ne 16, 3) := by decide +kernel
theorem dX3_readToken_24 : decode cX3_readToken 24 = .ok (.aload_n 0, 1) := by decide +kernel
theorem dX3_readToken_25 : decode cX3_readToken 25 = .ok (.dup, 1) := by decide +kernel
theorem dX3_readToken_26 : decode cX3_readToken 26 = .ok (.getfield 32, 3) := by decide +kernel
theorem dX3_readToken_29 : decode cX3_readToken 29 = .ok (.iconst 1, 1) := by decide +kernel
theorem dX3_readToken_30 : decode cX3_readToken 30 = .ok (.iadd, 1) := by decide +kernel
theorem dX3_readToken_31 : decode cX3_readToken 31 = .ok (.putfield 32, 3) := by decide +kernel
theorem dX3_readToken_34 : decode cX3_readToken 34 = .ok (.goto (-34), 3) := by decide +kernel
theorem dX3_readToken_37 : decode cX3_readToken 37 = .ok (.aload_n 0, 1) := by decide +kernel
theorem dX3_readToken_38 : decode cX3_readToken 38 = .ok (.aload_n 0, 1) := by decide +kernel
theorem dX3_readToken_39 : decode cX3_readToken 39 = .ok (.getfield 32, 3) := by decide +kernel
theorem dX3_readToken_42 : decode cX3_readToken 42 = .ok (.putfield 48, 3) := by decide +kernel
theorem dX3_readToken_45 : decode cX3_readToken 45 = .ok (.aload_n 0, 1) := by decide +kernel
theorem dX3_readToken_46 : decode cX3_readToken 46 = .ok (.aload_n 0, 1) := by decide +kernel
theorem dX3_readToken_47 : decode cX3_readToken 47 = .ok (.getfield 32, 3) := by decide +kernel
theorem dX3_readToken_50 : decode cX3_readToken 50 = .ok (.invokevirtual 80, 3) := by decide +kernel
theorem dX3_readToken_53 : decode cX3_readToken 53 = .ok (.istore_n 1, 1) := by decide +kernel
theorem dX3_readToken_54 : decode cX3_readToken 54 = .ok (.aload_n 0, 1) := by decide +kernel
theorem dX3_readToken_55 : decode cX3_readToken 55 = .ok (.getfield 32, 3) := by decide +kernel
theorem dX3_readToken_58 : decode cX3_readToken 58 = .ok (.aload_n 0, 1) := by decide +kernel
theorem dX3_readToken_59 : decode cX3_readToken 59 = .ok (.getfield 23, 3) := by decide +kernel
theorem dX3_readToken_62 : decode cX3_readToken 62 = .ok (.if_icmp .lt 11, 3) := by decide +kernel
theorem dX3_readToken_65 : decode cX3_readToken 65 = .ok (.aload_n 0, 1) := by decide +kernel
theorem dX3_readToken_66 : decode cX3_readToken 66 = .ok (.iconst 0, 1) := by decide +kernel
theorem dX3_readToken_67 : decode cX3_readToken 67 = .ok (.putfield 38, 3) := by decide +kernel
theorem dX3_readToken_70 : decode cX3_readToken 70 = .ok (.goto 56, 3) := by decide +kernel
theorem dX3_readToken_73 : decode cX3_readToken 73 = .ok (.iload_n 1, 1) := by decide +kernel
theorem dX3_readToken_74 : decode cX3_readToken 74 = .ok (.invokestatic 84, 3) := by decide +kernel
theorem dX3_readToken_77 : decode cX3_readToken 77 = .ok (.ifCond .eq 10, 3) := by decide +kernel
theorem dX3_readToken_80 : decode cX3_readToken 80 = .ok (.aload_n 0, 1) := by decide +kernel
theorem dX3_readToken_81 : decode cX3_readToken 81 = .ok (.invokevirtual 88, 3) := by decide +kernel
theorem dX3_readToken_84 : decode cX3_readToken 84 = .ok (.goto 42, 3) := by decide +kernel
theorem dX3_readToken_87 : decode cX3_readToken 87 = .ok (.iload_n 1, 1) := by decide +kernel
theorem dX3_readToken_88 : decode cX3_readToken 88 = .ok (.invokestatic 91, 3) := by decide +kernel
theorem dX3_readToken_91 : decode cX3_readToken 91 = .ok (.ifCond .eq 10, 3) := by decide +kernel
theorem dX3_readToken_94 : decode cX3_readToken 94 = .ok (.aload_n 0, 1) := by decide +kernel
theorem dX3_readToken_95 : decode cX3_readToken 95 = .ok (.invokevirtual 94, 3) := by decide +kernel
theorem dX3_readToken_98 : decode cX3_readToken 98 = .ok (.goto 28, 3) := by decide +kernel
theorem dX3_readToken_101 : decode cX3_readToken 101 = .ok (.aload_n 0, 1) := by decide +kernel
theorem dX3_readToken_102 : decode cX3_readToken 102 = .ok (.iload_n 1, 1) := by decide +kernel
theorem dX3_readToken_103 : decode cX3_readToken 103 = .ok (.bipush 59, 2) := by decide +kernel
theorem dX3_readToken_105 : decode cX3_readToken 105 = .ok (.if_icmp .ne 7, 3) := by decide +kernel
theorem dX3_readToken_108 : decode cX3_readToken 108 = .ok (.iconst 3, 1) := by decide +kernel
theorem dX3_readToken_109 : decode cX3_readToken 109 = .ok (.goto 4, 3) := by decide +kernel
theorem dX3_readToken_112 : decode cX3_readToken 112 = .ok (.iconst 4, 1) := by decide +kernel
theorem dX3_readToken_113 : decode cX3_readToken 113 = .ok (.putfield 38, 3) := by decide +kernel
theorem dX3_readToken_116 : decode cX3_readToken 116 = .ok (.aload_n 0, 1) := by decide +kernel
theorem dX3_readToken_117 : decode cX3_readToken 117 = .ok (.dup, 1) := by decide +kernel
theorem dX3_readToken_118 : decode cX3_readToken 118 = .ok (.getfield 32, 3) := by decide +kernel
theorem dX3_readToken_121 : decode cX3_readToken 121 = .ok (.iconst 1, 1) := by decide +kernel
theorem dX3_readToken_122 : decode cX3_readToken 122 = .ok (.iadd, 1) := by decide +kernel
theorem dX3_readToken_123 : decode cX3_readToken 123 = .ok (.putfield 32, 3) := by decide +kernel
theorem dX3_readToken_126 : decode cX3_readToken 126 = .ok (.return_, 1) := by decide +kernel
theorem dX3_readWord_0 : decode cX3_readWord 0 = .ok (.aload_n 0, 1) := by decide +kernel
theorem dX3_readWord_1 : decode cX3_readWord 1 = .ok (.getfield 32, 3) := by decide +kernel
theorem dX3_readWord_4 : decode cX3_readWord 4 = .ok (.aload_n 0, 1) := by decide +kernel
theorem dX3_readWord_5 : decode cX3_readWord 5 = .ok (.getfield 23, 3) := by decide +kernel
theorem dX3_readWord_8 : decode cX3_readWord 8 = .ok (.if_icmp .ge 30, 3) := by decide +kernel
theorem dX3_readWord_11 : decode cX3_readWord 11 = .ok (.aload_n 0, 1) := by decide +kernel
theorem dX3_readWord_12 : decode cX3_readWord 12 = .ok (.aload_n 0, 1) := by decide +kernel
theorem dX3_readWord_13 : decode cX3_readWord 13 = .ok (.getfield 32, 3) := by decide +kernel
theorem dX3_readWord_16 : decode cX3_readWord 16 = .ok (.invokevirtual 80, 3) := by decide +kernel
theorem dX3_readWord_19 : decode cX3_readWord 19 = .ok (.invokestatic 84, 3) := by decide +kernel
theorem dX3_readWord_22 : decode cX3_readWord 22 = .ok (.ifCond .eq 16, 3) := by decide +kernel
theorem dX3_readWord_25 : decode cX3_readWord 25 = .ok (.aload_n 0, 1) := by decide +kernel
theorem dX3_readWord_26 : decode cX3_readWord 26 = .ok (.dup, 1) := by decide +kernel
theorem dX3_readWord_27 : decode cX3_readWord 27 = .ok (.getfield 32, 3) := by decide +kernel
theorem dX3_readWord_30 : decode cX3_readWord 30 = .ok (.iconst 1, 1) := by decide +kernel
theorem dX3_readWord_31 : decode cX3_readWord 31 = .ok (.iadd, 1) := by decide +kernel
theorem dX3_readWord_32 : decode cX3_readWord 32 = .ok (.putfield 32, 3) := by decide +kernel
theorem dX3_readWord_35 : decode cX3_readWord 35 = .ok (.goto (-35), 3) := by decide +kernel
theorem dX3_readWord_38 : decode cX3_readWord 38 = .ok (.aload_n 0, 1) := by decide +kernel
theorem dX3_readWord_39 : decode cX3_readWord 39 = .ok (.aload_n 0, 1) := by decide +kernel
theorem dX3_readWord_40 : decode cX3_readWord 40 = .ok (.aload_n 0, 1) := by decide +kernel
theorem dX3_readWord_41 : decode cX3_readWord 41 = .ok (.getfield 48, 3) := by decide +kernel
theorem dX3_readWord_44 : decode cX3_readWord 44 = .ok (.invokevirtual 97, 3) := by decide +kernel
theorem dX3_readWord_47 : decode cX3_readWord 47 = .ok (.putfield 41, 3) := by decide +kernel
theorem dX3_readWord_50 : decode cX3_readWord 50 = .ok (.aload_n 0, 1) := by decide +kernel
theorem dX3_readWord_51 : decode cX3_readWord 51 = .ok (.aload_n 0, 1) := by decide +kernel
theorem dX3_readWord_52 : decode cX3_readWord 52 = .ok (.getfield 41, 3) := by decide +kernel
theorem dX3_readWord_55 : decode cX3_readWord 55 = .ok (.iconst (-1), 1) := by decide +kernel
theorem dX3_readWord_56 : decode cX3_readWord 56 = .ok (.if_icmp .ne 7, 3) := by decide +kernel
theorem dX3_readWord_59 : decode cX3_readWord 59 = .ok (.iconst 4, 1) := by decide +kernel
theorem dX3_readWord_60 : decode cX3_readWord 60 = .ok (.goto 4, 3) := by decide +kernel
theorem dX3_readWord_63 : decode cX3_readWord 63 = .ok (.iconst 1, 1) := by decide +kernel
theorem dX3_readWord_64 : decode cX3_readWord 64 = .ok (.putfield 38, 3) := by decide +kernel
theorem dX3_readWord_67 : decode cX3_readWord 67 = .ok (.return_, 1) := by decide +kernel
theorem dX3_readNumber_0 : decode cX3_readNumber 0 = .ok (.aload_n 0, 1) := by decide +kernel
theorem dX3_readNumber_1 : decode cX3_readNumber 1 = .ok (.iconst 0, 1) := by decide +kernel
theorem dX3_readNumber_2 : decode cX3_readNumber 2 = .ok (.putfield 41, 3) := by decide +kernel
theorem dX3_readNumber_5 : decode cX3_readNumber 5 = .ok (.aload_n 0, 1) := by decide +kernel
theorem dX3_readNumber_6 : decode cX3_readNumber 6 = .ok (.getfield 32, 3) := by decide +kernel
theorem dX3_readNumber_9 : decode cX3_readNumber 9 = .ok (.aload_n 0, 1) := by decide +kernel
theorem dX3_readNumber_10 : decode cX3_readNumber 10 = .ok (.getfield 23, 3) := by decide +kernel
theorem dX3_readNumber_13 : decode cX3_readNumber 13 = .ok (.if_icmp .ge 66, 3) := by decide +kernel
theorem dX3_readNumber_16 : decode cX3_readNumber 16 = .ok (.aload_n 0, 1) := by decide +kernel
theorem dX3_readNumber_17 : decode cX3_readNumber 17 = .ok (.aload_n 0, 1) := by decide +kernel
theorem dX3_readNumber_18 : decode cX3_readNumber 18 = .ok (.getfield 32, 3) := by decide +kernel
theorem dX3_readNumber_21 : decode cX3_readNumber 21 = .ok (.invokevirtual 80, 3) := by decide +kernel
theorem dX3_readNumber_24 : decode cX3_readNumber 24 = .ok (.invokestatic 91, 3) := by decide +kernel
theorem dX3_readNumber_27 : decode cX3_readNumber 27 = .ok (.ifCond .eq 52, 3) := by decide +kernel
theorem dX3_readNumber_30 : decode cX3_readNumber 30 = .ok (.aload_n 0, 1) := by decide +kernel
theorem dX3_readNumber_31 : decode cX3_readNumber 31 = .ok (.getfield 32, 3) := by decide +kernel
theorem dX3_readNumber_34 : decode cX3_readNumber 34 = .ok (.aload_n 0, 1) := by decide +kernel
theorem dX3_readNumber_35 : decode cX3_readNumber 35 = .ok (.getfield 48, 3) := by decide +kernel
theorem dX3_readNumber_38 : decode cX3_readNumber 38 = .ok (.isub, 1) := by decide +kernel
theorem dX3_readNumber_39 : decode cX3_readNumber 39 = .ok (.iconst 3, 1) := by decide +kernel
theorem dX3_readNumber_40 : decode cX3_readNumber 40 = .ok (.if_icmp .ge 26, 3) := by decide +kernel
theorem dX3_readNumber_43 : decode cX3_readNumber 43 = .ok (.aload_n 0, 1) := by decide +kernel
theorem dX3_readNumber_44 : decode cX3_readNumber 44 = .ok (.bipush 10, 2) := by decide +kernel
theorem dX3_readNumber_46 : decode cX3_readNumber 46 = .ok (.aload_n 0, 1) := by decide +kernel
theorem dX3_readNumber_47 : decode cX3_readNumber 47 = .ok (.getfield 41, 3) := by decide +kernel
theorem dX3_readNumber_50 : decode cX3_readNumber 50 = .ok (.imul, 1) := by decide +kernel
theorem dX3_readNumber_51 : decode cX3_readNumber 51 = .ok (.aload_n 0, 1) := by decide +kernel
theorem dX3_readNumber_52 : decode cX3_readNumber 52 = .ok (.aload_n 0, 1) := by decide +kernel
theorem dX3_readNumber_53 : decode cX3_readNumber 53 = .ok (.getfield 32, 3) := by decide +kernel
theorem dX3_readNumber_56 : decode cX3_readNumber 56 = .ok (.invokevirtual 80, 3) := by decide +kernel
theorem dX3_readNumber_59 : decode cX3_readNumber 59 = .ok (.iadd, 1) := by decide +kernel
theorem dX3_readNumber_60 : decode cX3_readNumber 60 = .ok (.bipush 48, 2) := by decide +kernel
theorem dX3_readNumber_62 : decode cX3_readNumber 62 = .ok (.isub, 1) := by decide +kernel
theorem dX3_readNumber_63 : decode cX3_readNumber 63 = .ok (.putfield 41, 3) := by decide +kernel
theorem dX3_readNumber_66 : decode cX3_readNumber 66 = .ok (.aload_n 0, 1) := by decide +kernel
theorem dX3_readNumber_67 : decode cX3_readNumber 67 = .ok (.dup, 1) := by decide +kernel
theorem dX3_readNumber_68 : decode cX3_readNumber 68 = .ok (.getfield 32, 3) := by decide +kernel
theorem dX3_readNumber_71 : decode cX3_readNumber 71 = .ok (.iconst 1, 1) := by decide +kernel
theorem dX3_readNumber_72 : decode cX3_readNumber 72 = .ok (.iadd, 1) := by decide +kernel
theorem dX3_readNumber_73 : decode cX3_readNumber 73 = .ok (.putfield 32, 3) := by decide +kernel
theorem dX3_readNumber_76 : decode cX3_readNumber 76 = .ok (.goto (-71), 3) := by decide +kernel
theorem dX3_readNumber_79 : decode cX3_readNumber 79 = .ok (.aload_n 0, 1) := by decide +kernel
theorem dX3_readNumber_80 : decode cX3_readNumber 80 = .ok (.aload_n 0, 1) := by decide +kernel
theorem dX3_readNumber_81 : decode cX3_readNumber 81 = .ok (.getfield 32, 3) := by decide +kernel
theorem dX3_readNumber_84 : decode cX3_readNumber 84 = .ok (.aload_n 0, 1) := by decide +kernel
theorem dX3_readNumber_85 : decode cX3_readNumber 85 = .ok (.getfield 48, 3) := by decide +kernel
theorem dX3_readNumber_88 : decode cX3_readNumber 88 = .ok (.isub, 1) := by decide +kernel
theorem dX3_readNumber_89 : decode cX3_readNumber 89 = .ok (.iconst 3, 1) := by decide +kernel
theorem dX3_readNumber_90 : decode cX3_readNumber 90 = .ok (.if_icmp .le 7, 3) := by decide +kernel
theorem dX3_readNumber_93 : decode cX3_readNumber 93 = .ok (.iconst 4, 1) := by decide +kernel
theorem dX3_readNumber_94 : decode cX3_readNumber 94 = .ok (.goto 4, 3) := by decide +kernel
theorem dX3_readNumber_97 : decode cX3_readNumber 97 = .ok (.iconst 2, 1) := by decide +kernel
theorem dX3_readNumber_98 : decode cX3_readNumber 98 = .ok (.putfield 38, 3) := by decide +kernel
theorem dX3_readNumber_101 : decode cX3_readNumber 101 = .ok (.return_, 1) := by decide +kernel
theorem dX3_wordFrom_0 : decode cX3_wordFrom 0 = .ok (.iconst 0, 1) := by decide +kernel
theorem dX3_wordFrom_1 : decode cX3_wordFrom 1 = .ok (.istore_n 2, 1) := by decide +kernel
theorem dX3_wordFrom_2 : decode cX3_wordFrom 2 = .ok (.iconst 0, 1) := by decide +kernel
theorem dX3_wordFrom_3 : decode cX3_wordFrom 3 = .ok (.istore_n 3, 1) := by decide +kernel
theorem dX3_wordFrom_4 : decode cX3_wordFrom 4 = .ok (.iconst 1, 1) := by decide +kernel
theorem dX3_wordFrom_5 : decode cX3_wordFrom 5 = .ok (.istore 4, 2) := by decide +kernel
theorem dX3_wordFrom_7 : decode cX3_wordFrom 7 = .ok (.iconst 0, 1) := by decide +kernel
theorem dX3_wordFrom_8 : decode cX3_wordFrom 8 = .ok (.istore 5, 2) := by decide +kernel
theorem dX3_wordFrom_10 : decode cX3_wordFrom 10 = .ok (.iload 5, 2) := by decide +kernel
theorem dX3_wordFrom_12 : decode cX3_wordFrom 12 = .ok (.ldc 100, 2) := by decide +kernel
theorem dX3_wordFrom_14 : decode cX3_wordFrom 14 = .ok (.invokevirtual 102, 3) := by decide +kernel
theorem dX3_wordFrom_17 : decode cX3_wordFrom 17 = .ok (.if_icmp .ge 90, 3) := by decide +kernel
theorem dX3_wordFrom_20 : decode cX3_wordFrom 20 = .ok (.ldc 100, 2) := by decide +kernel
theorem dX3_wordFrom_22 : decode cX3_wordFrom 22 = .ok (.iload 5, 2) := by decide +kernel
theorem dX3_wordFrom_24 : decode cX3_wordFrom 24 = .ok (.invokevirtual 107, 3) := by decide +kernel
theorem dX3_wordFrom_27 : decode cX3_wordFrom 27 = .ok (.istore 6, 2) := by decide +kernel
theorem dX3_wordFrom_29 : decode cX3_wordFrom 29 = .ok (.iload 6, 2) := by decide +kernel
theorem dX3_wordFrom_31 : decode cX3_wordFrom 31 = .ok (.bipush 32, 2) := by decide +kernel
theorem dX3_wordFrom_33 : decode cX3_wordFrom 33 = .ok (.if_icmp .ne 31, 3) := by decide +kernel
theorem dX3_wordFrom_36 : decode cX3_wordFrom 36 = .ok (.iload 4, 2) := by decide +kernel
theorem dX3_wordFrom_38 : decode cX3_wordFrom 38 = .ok (.ifCond .eq 15, 3) := by decide +kernel
theorem dX3_wordFrom_41 : decode cX3_wordFrom 41 = .ok (.iload_n 3, 1) := by decide +kernel
theorem dX3_wordFrom_42 : decode cX3_wordFrom 42 = .ok (.aload_n 0, 1) := by decide +kernel
theorem dX3_wordFrom_43 : decode cX3_wordFrom 43 = .ok (.getfield 32, 3) := by decide +kernel
theorem dX3_wordFrom_46 : decode cX3_wordFrom 46 = .ok (.iload_n 1, 1) := by decide +kernel
theorem dX3_wordFrom_47 : decode cX3_wordFrom 47 = .ok (.isub, 1) := by decide +kernel
theorem dX3_wordFrom_48 : decode cX3_wordFrom 48 = .ok (.if_icmp .ne 5, 3) := by decide +kernel
theorem dX3_wordFrom_51 : decode cX3_wordFrom 51 = .ok (.iload_n 2, 1) := by decide +kernel
theorem dX3_wordFrom_52 : decode cX3_wordFrom 52 = .ok (.ireturn, 1) := by decide +kernel
theorem dX3_wordFrom_53 : decode cX3_wordFrom 53 = .ok (.iinc 2 1, 3) := by decide +kernel
theorem dX3_wordFrom_56 : decode cX3_wordFrom 56 = .ok (.iconst 0, 1) := by decide +kernel
theorem dX3_wordFrom_57 : decode cX3_wordFrom 57 = .ok (.istore_n 3, 1) := by decide +kernel
theorem dX3_wordFrom_58 : decode cX3_wordFrom 58 = .ok (.iconst 1, 1) := by decide +kernel
theorem dX3_wordFrom_59 : decode cX3_wordFrom 59 = .ok (.istore 4, 2) := by decide +kernel
theorem dX3_wordFrom_61 : decode cX3_wordFrom 61 = .ok (.goto 40, 3) := by decide +kernel
theorem dX3_wordFrom_64 : decode cX3_wordFrom 64 = .ok (.iload 4, 2) := by decide +kernel
theorem dX3_wordFrom_66 : decode cX3_wordFrom 66 = .ok (.ifCond .eq 29, 3) := by decide +kernel
theorem dX3_wordFrom_69 : decode cX3_wordFrom 69 = .ok (.iload_n 3, 1) := by decide +kernel
theorem dX3_wordFrom_70 : decode cX3_wordFrom 70 = .ok (.aload_n 0, 1) := by decide +kernel
theorem dX3_wordFrom_71 : decode cX3_wordFrom 71 = .ok (.getfield 32, 3) := by decide +kernel
theorem dX3_wordFrom_74 : decode cX3_wordFrom 74 = .ok (.iload_n 1, 1) := by decide +kernel
theorem dX3_wordFrom_75 : decode cX3_wordFrom 75 = .ok (.isub, 1) := by decide +kernel
theorem dX3_wordFrom_76 : decode cX3_wordFrom 76 = .ok (.if_icmp .ge 19, 3) := by decide +kernel
theorem dX3_wordFrom_79 : decode cX3_wordFrom 79 = .ok (.aload_n 0, 1) := by decide +kernel
theorem dX3_wordFrom_80 : decode cX3_wordFrom 80 = .ok (.iload_n 1, 1) := by decide +kernel
theorem dX3_wordFrom_81 : decode cX3_wordFrom 81 = .ok (.iload_n 3, 1) := by decide +kernel
theorem dX3_wordFrom_82 : decode cX3_wordFrom 82 = .ok (.iadd, 1) := by decide +kernel
theorem dX3_wordFrom_83 : decode cX3_wordFrom 83 = .ok (.invokevirtual 80, 3) := by decide +kernel
theorem dX3_wordFrom_86 : decode cX3_wordFrom 86 = .ok (.iload 6, 2) := by decide +kernel
theorem dX3_wordFrom_88 : decode cX3_wordFrom 88 = .ok (.if_icmp .ne 7, 3) := by decide +kernel
theorem dX3_wordFrom_91 : decode cX3_wordFrom 91 = .ok (.iconst 1, 1) := by decide +kernel
theorem dX3_wordFrom_92 : decode cX3_wordFrom 92 = .ok (.goto 4, 3) := by decide +kernel
theorem dX3_wordFrom_95 : decode cX3_wordFrom 95 = .ok (.iconst 0, 1) := by decide +kernel
theorem dX3_wordFrom_96 : decode cX3_wordFrom 96 = .ok (.istore 4, 2) := by decide +kernel
theorem dX3_wordFrom_98 : decode cX3_wordFrom 98 = .ok (.iinc 3 1, 3) := by decide +kernel
theorem dX3_wordFrom_101 : decode cX3_wordFrom 101 = .ok (.iinc 5 1, 3) := by decide +kernel
theorem dX3_wordFrom_104 : decode cX3_wordFrom 104 = .ok (.goto (-94), 3) := by decide +kernel
theorem dX3_wordFrom_107 : decode cX3_wordFrom 107 = .ok (.iconst (-1), 1) := by decide +kernel
theorem dX3_wordFrom_108 : decode cX3_wordFrom 108 = .ok (.ireturn, 1) := by decide +kernel
theorem dX3_byteAt_0 : decode cX3_byteAt 0 = .ok (.iload_n 1, 1) := by decide +kernel
theorem dX3_byteAt_1 : decode cX3_byteAt 1 = .ok (.ifCond .lt 23, 3) := by decide +kernel
theorem dX3_byteAt_4 : decode cX3_byteAt 4 = .ok (.iload_n 1, 1) := by decide +kernel
theorem dX3_byteAt_5 : decode cX3_byteAt 5 = .ok (.sipush 300, 3) := by decide +kernel
theorem dX3_byteAt_8 : decode cX3_byteAt 8 = .ok (.if_icmp .ge 16, 3) := by decide +kernel
theorem dX3_byteAt_11 : decode cX3_byteAt 11 = .ok (.aload_n 0, 1) := by decide +kernel
theorem dX3_byteAt_12 : decode cX3_byteAt 12 = .ok (.getfield 9, 3) := by decide +kernel
theorem dX3_byteAt_15 : decode cX3_byteAt 15 = .ok (.iload_n 1, 1) := by decide +kernel
theorem dX3_byteAt_16 : decode cX3_byteAt 16 = .ok (.baload, 1) := by decide +kernel
theorem dX3_byteAt_17 : decode cX3_byteAt 17 = .ok (.sipush 255, 3) := by decide +kernel
theorem dX3_byteAt_20 : decode cX3_byteAt 20 = .ok (.iand, 1) := by decide +kernel
theorem dX3_byteAt_21 : decode cX3_byteAt 21 = .ok (.goto 4, 3) := by decide +kernel
theorem dX3_byteAt_24 : decode cX3_byteAt 24 = .ok (.iconst 0, 1) := by decide +kernel
theorem dX3_byteAt_25 : decode cX3_byteAt 25 = .ok (.ireturn, 1) := by decide +kernel
theorem dX3_isLetter_0 : decode cX3_isLetter 0 = .ok (.iload_n 0, 1) := by decide +kernel
theorem dX3_isLetter_1 : decode cX3_isLetter 1 = .ok (.bipush 97, 2) := by decide +kernel
theorem dX3_isLetter_3 : decode cX3_isLetter 3 = .ok (.bipush 122, 2) := by decide +kernel
theorem dX3_isLetter_5 : decode cX3_isLetter 5 = .ok (.invokestatic 19, 3) := by decide +kernel
theorem dX3_isLetter_8 : decode cX3_isLetter 8 = .ok (.ireturn, 1) := by decide +kernel
theorem dX3_isFigure_0 : decode cX3_isFigure 0 = .ok (.iload_n 0, 1) := by decide +kernel
theorem dX3_isFigure_1 : decode cX3_isFigure 1 = .ok (.bipush 48, 2) := by decide +kernel
theorem dX3_isFigure_3 : decode cX3_isFigure 3 = .ok (.bipush 57, 2) := by decide +kernel
theorem dX3_isFigure_5 : decode cX3_isFigure 5 = .ok (.invokestatic 19, 3) := by decide +kernel
theorem dX3_isFigure_8 : decode cX3_isFigure 8 = .ok (.ireturn, 1) := by decide +kernel
theorem dX4_init_0 : decode cX4_init 0 = .ok (.aload_n 0, 1) := by decide +kernel
theorem dX4_init_1 : decode cX4_init 1 = .ok (.invokespecial 3, 3) := by decide +kernel
theorem dX4_init_4 : decode cX4_init 4 = .ok (.aload_n 0, 1) := by decide +kernel
theorem dX4_init_5 : decode cX4_init 5 = .ok (.iconst 4, 1) := by decide +kernel
theorem dX4_init_6 : decode cX4_init 6 = .ok (.bipush 21, 2) := by decide +kernel
theorem dX4_init_8 : decode cX4_init 8 = .ok (.multianewarray 9 2, 4) := by decide +kernel
theorem dX4_init_12 : decode cX4_init 12 = .ok (.putfield 11, 3) := by decide +kernel
theorem dX4_init_15 : decode cX4_init 15 = .ok (.aload_n 0, 1) := by decide +kernel
theorem dX4_init_16 : decode cX4_init 16 = .ok (.iconst 4, 1) := by decide +kernel
theorem dX4_init_17 : decode cX4_init 17 = .ok (.bipush 21, 2) := by decide +kernel
theorem dX4_init_19 : decode cX4_init 19 = .ok (.multianewarray 9 2, 4) := by decide +kernel
theorem dX4_init_23 : decode cX4_init 23 = .ok (.putfield 16, 3) := by decide +kernel
theorem dX4_init_26 : decode cX4_init 26 = .ok (.aload_n 0, 1) := by decide +kernel
theorem dX4_init_27 : decode cX4_init 27 = .ok (.iconst 4, 1) := by decide +kernel
theorem dX4_init_28 : decode cX4_init 28 = .ok (.bipush 21, 2) := by decide +kernel
theorem dX4_init_30 : decode cX4_init 30 = .ok (.multianewarray 9 2, 4) := by decide +kernel
theorem dX4_init_34 : decode cX4_init 34 = .ok (.putfield 19, 3) := by decide +kernel
theorem dX4_init_37 : decode cX4_init 37 = .ok (.return_, 1) := by decide +kernel
theorem dX4_take_0 : decode cX4_take 0 = .ok (.iconst 0, 1) := by decide +kernel
theorem dX4_take_1 : decode cX4_take 1 = .ok (.istore_n 2, 1) := by decide +kernel
theorem dX4_take_2 : decode cX4_take 2 = .ok (.iload_n 2, 1) := by decide +kernel
theorem dX4_take_3 : decode cX4_take 3 = .ok (.iconst 4, 1) := by decide +kernel
theorem dX4_take_4 : decode cX4_take 4 = .ok (.if_icmp .ge 88, 3) := by decide +kernel
theorem dX4_take_7 : decode cX4_take 7 = .ok (.aload_n 1, 1) := by decide +kernel
theorem dX4_take_8 : decode cX4_take 8 = .ok (.iload_n 2, 1) := by decide +kernel
theorem dX4_take_9 : decode cX4_take 9 = .ok (.invokevirtual 22, 3) := by decide +kernel
theorem dX4_take_12 : decode cX4_take 12 = .ok (.istore_n 3, 1) := by decide +kernel
theorem dX4_take_13 : decode cX4_take 13 = .ok (.iconst 0, 1) := by decide +kernel
theorem dX4_take_14 : decode cX4_take 14 = .ok (.istore 4, 2) := by decide +kernel
theorem dX4_take_16 : decode cX4_take 16 = .ok (.iload 4, 2) := by decide +kernel
theorem dX4_take_18 : decode cX4_take 18 = .ok (.bipush 21, 2) := by decide +kernel
theorem dX4_take_20 : decode cX4_take 20 = .ok (.if_icmp .ge 66, 3) := by decide +kernel
theorem dX4_take_23 : decode cX4_take 23 = .ok (.aload_n 1, 1) := by decide +kernel
theorem dX4_take_24 : decode cX4_take 24 = .ok (.iload 4, 2) := by decide +kernel
theorem dX4_take_26 : decode cX4_take 26 = .ok (.invokevirtual 28, 3) := by decide +kernel
theorem dX4_take_29 : decode cX4_take 29 = .ok (.ifCond .eq 51, 3) := by decide +kernel
theorem dX4_take_32 : decode cX4_take 32 = .ok (.aload_n 0, 1) := by decide +kernel
theorem dX4_take_33 : decode cX4_take 33 = .ok (.getfield 11, 3) := by decide +kernel
theorem dX4_take_36 : decode cX4_take 36 = .ok (.iload_n 2, 1) := by decide +kernel
theorem dX4_take_37 : decode cX4_take 37 = .ok (.aaload, 1) := by decide +kernel
theorem dX4_take_38 : decode cX4_take 38 = .ok (.iload 4, 2) := by decide +kernel
theorem dX4_take_40 : decode cX4_take 40 = .ok (.aload_n 1, 1) := by decide +kernel
theorem dX4_take_41 : decode cX4_take 41 = .ok (.iload 4, 2) := by decide +kernel
theorem dX4_take_43 : decode cX4_take 43 = .ok (.iload_n 3, 1) := by decide +kernel
theorem dX4_take_44 : decode cX4_take 44 = .ok (.invokevirtual 32, 3) := by decide +kernel
theorem dX4_take_47 : decode cX4_take 47 = .ok (.iastore, 1) := by decide +kernel
theorem dX4_take_48 : decode cX4_take 48 = .ok (.aload_n 0, 1) := by decide +kernel
theorem dX4_take_49 : decode cX4_take 49 = .ok (.getfield 16, 3) := by decide +kernel
theorem dX4_take_52 : decode cX4_take 52 = .ok (.iload_n 2, 1) := by decide +kernel
theorem dX4_take_53 : decode cX4_take 53 = .ok (.aaload, 1) := by decide +kernel
theorem dX4_take_54 : decode cX4_take 54 = .ok (.iload 4, 2) := by decide +kernel
theorem dX4_take_56 : decode cX4_take 56 = .ok (.aload_n 1, 1) := by decide +kernel
theorem dX4_take_57 : decode cX4_take 57 = .ok (.iload 4, 2) := by decide +kernel
theorem dX4_take_59 : decode cX4_take 59 = .ok (.iload_n 3, 1) := by decide +kernel
theorem dX4_take_60 : decode cX4_take 60 = .ok (.invokevirtual 36, 3) := by decide +kernel
theorem dX4_take_63 : decode cX4_take 63 = .ok (.iastore, 1) := by decide +kernel
theorem dX4_take_64 : decode cX4_take 64 = .ok (.aload_n 0, 1) := by decide +kernel
theorem dX4_take_65 : decode cX4_take 65 = .ok (.getfield 19, 3) := by decide +kernel
theorem dX4_take_68 : decode cX4_take 68 = .ok (.iload_n 2, 1) := by decide +kernel
theorem dX4_take_69 : decode cX4_take 69 = .ok (.aaload, 1) := by decide +kernel
theorem dX4_take_70 : decode cX4_take 70 = .ok (.iload 4, 2) := by decide +kernel
theorem dX4_take_72 : decode cX4_take 72 = .ok (.aload_n 1, 1) := by decide +kernel
theorem dX4_take_73 : decode cX4_take 73 = .ok (.iload 4, 2) := by decide +kernel
theorem dX4_take_75 : decode cX4_take 75 = .ok (.iload_n 3, 1) := by decide +kernel
theorem dX4_take_76 : decode cX4_take 76 = .ok (.invokevirtual 39, 3) := by decide +kernel
theorem dX4_take_79 : decode cX4_take 79 = .ok (.iastore, 1) := by decide +kernel
theorem dX4_take_80 : decode cX4_take 80 = .ok (.iinc 4 1, 3) := by decide +kernel
theorem dX4_take_83 : decode cX4_take 83 = .ok (.goto (-67), 3) := by decide +kernel
theorem dX4_take_86 : decode cX4_take 86 = .ok (.iinc 2 1, 3) := by decide +kernel
theorem dX4_take_89 : decode cX4_take 89 = .ok (.goto (-87), 3) := by decide +kernel
theorem dX4_take_92 : decode cX4_take 92 = .ok (.return_, 1) := by decide +kernel
theorem dX4_isSo_0 : decode cX4_isSo 0 = .ok (.iload_n 1, 1) := by decide +kernel
theorem dX4_isSo_1 : decode cX4_isSo 1 = .ok (.tableswitch 160 0 6 #[43, 66, 89, 111, 130, 160, 149], 43) := by decide +kernel
theorem dX4_isSo_44 : decode cX4_isSo 44 = .ok (.aload_n 0, 1) := by decide +kernel
theorem dX4_isSo_45 : decode cX4_isSo 45 = .ok (.getfield 19, 3) := by decide +kernel
theorem dX4_isSo_48 : decode cX4_isSo 48 = .ok (.iload_n 3, 1) := by decide +kernel
theorem dX4_isSo_49 : decode cX4_isSo 49 = .ok (.aaload, 1) := by decide +kernel
theorem dX4_isSo_50 : decode cX4_isSo 50 = .ok (.iload 4, 2) := by decide +kernel
theorem dX4_isSo_52 : decode cX4_isSo 52 = .ok (.iaload, 1) := by decide +kernel
theorem dX4_isSo_53 : decode cX4_isSo 53 = .ok (.iload_n 2, 1) := by decide +kernel
theorem dX4_isSo_54 : decode cX4_isSo 54 = .ok (.ishr, 1) := by decide +kernel
theorem dX4_isSo_55 : decode cX4_isSo 55 = .ok (.iconst 1, 1) := by decide +kernel
theorem dX4_isSo_56 : decode cX4_isSo 56 = .ok (.iand, 1) := by decide +kernel
theorem dX4_isSo_57 : decode cX4_isSo 57 = .ok (.iconst 1, 1) := by decide +kernel
theorem dX4_isSo_58 : decode cX4_isSo 58 = .ok (.if_icmp .ne 7, 3) := by decide +kernel
theorem dX4_isSo_61 : decode cX4_isSo 61 = .ok (.iconst 1, 1) := by decide +kernel
theorem dX4_isSo_62 : decode cX4_isSo 62 = .ok (.goto 4, 3) := by decide +kernel
theorem dX4_isSo_65 : decode cX4_isSo 65 = .ok (.iconst 0, 1) := by decide +kernel
theorem dX4_isSo_66 : decode cX4_isSo 66 = .ok (.ireturn, 1) := by decide +kernel
theorem dX4_isSo_67 : decode cX4_isSo 67 = .ok (.aload_n 0, 1) := by decide +kernel
theorem dX4_isSo_68 : decode cX4_isSo 68 = .ok (.getfield 16, 3) := by decide +kernel
theorem dX4_isSo_71 : decode cX4_isSo 71 = .ok (.iload_n 3, 1) := by decide +kernel
theorem dX4_isSo_72 : decode cX4_isSo 72 = .ok (.aaload, 1) := by decide +kernel
theorem dX4_isSo_73 : decode cX4_isSo 73 = .ok (.iload 4, 2) := by decide +kernel
theorem dX4_isSo_75 : decode cX4_isSo 75 = .ok (.iaload, 1) := by decide +kernel
theorem dX4_isSo_76 : decode cX4_isSo 76 = .ok (.iload_n 2, 1) := by decide +kernel
theorem dX4_isSo_77 : decode cX4_isSo 77 = .ok (.ishr, 1) := by decide +kernel
theorem dX4_isSo_78 : decode cX4_isSo 78 = .ok (.iconst 1, 1) := by decide +kernel
theorem dX4_isSo_79 : decode cX4_isSo 79 = .ok (.iand, 1) := by decide +kernel
theorem dX4_isSo_80 : decode cX4_isSo 80 = .ok (.iconst 1, 1) := by decide +kernel
theorem dX4_isSo_81 : decode cX4_isSo 81 = .ok (.if_icmp .ne 7, 3) := by decide +kernel
theorem dX4_isSo_84 : decode cX4_isSo 84 = .ok (.iconst 1, 1) := by decide +kernel
theorem dX4_isSo_85 : decode cX4_isSo 85 = .ok (.goto 4, 3) := by decide +kernel
theorem dX4_isSo_88 : decode cX4_isSo 88 = .ok (.iconst 0, 1) := by decide +kernel
theorem dX4_isSo_89 : decode cX4_isSo 89 = .ok (.ireturn, 1) := by decide +kernel
theorem dX4_isSo_90 : decode cX4_isSo 90 = .ok (.aload_n 0, 1) := by decide +kernel
theorem dX4_isSo_91 : decode cX4_isSo 91 = .ok (.getfield 16, 3) := by decide +kernel
theorem dX4_isSo_94 : decode cX4_isSo 94 = .ok (.iload_n 3, 1) := by decide +kernel
theorem dX4_isSo_95 : decode cX4_isSo 95 = .ok (.aaload, 1) := by decide +kernel
theorem dX4_isSo_96 : decode cX4_isSo 96 = .ok (.iload 4, 2) := by decide +kernel
theorem dX4_isSo_98 : decode cX4_isSo 98 = .ok (.iaload, 1) := by decide +kernel
theorem dX4_isSo_99 : decode cX4_isSo 99 = .ok (.iload_n 2, 1) := by decide +kernel
theorem dX4_isSo_100 : decode cX4_isSo 100 = .ok (.ishr, 1) := by decide +kernel
theorem dX4_isSo_101 : decode cX4_isSo 101 = .ok (.iconst 1, 1) := by decide +kernel
theorem dX4_isSo_102 : decode cX4_isSo 102 = .ok (.iand, 1) := by decide +kernel
theorem dX4_isSo_103 : decode cX4_isSo 103 = .ok (.ifCond .ne 7, 3) := by decide +kernel
theorem dX4_isSo_106 : decode cX4_isSo 106 = .ok (.iconst 1, 1) := by decide +kernel
theorem dX4_isSo_107 : decode cX4_isSo 107 = .ok (.goto 4, 3) := by decide +kernel
theorem dX4_isSo_110 : decode cX4_isSo 110 = .ok (.iconst 0, 1) := by decide +kernel
theorem dX4_isSo_111 : decode cX4_isSo 111 = .ok (.ireturn, 1) := by decide +kernel
theorem dX4_isSo_112 : decode cX4_isSo 112 = .ok (.aload_n 0, 1) := by decide +kernel
theorem dX4_isSo_113 : decode cX4_isSo 113 = .ok (.getfield 11, 3) := by decide +kernel
theorem dX4_isSo_116 : decode cX4_isSo 116 = .ok (.iload_n 3, 1) := by decide +kernel
theorem dX4_isSo_117 : decode cX4_isSo 117 = .ok (.aaload, 1) := by decide +kernel
theorem dX4_isSo_118 : decode cX4_isSo 118 = .ok (.iload 4, 2) := by decide +kernel
theorem dX4_isSo_120 : decode cX4_isSo 120 = .ok (.iaload, 1) := by decide +kernel
theorem dX4_isSo_121 : decode cX4_isSo 121 = .ok (.iload_n 2, 1) := by decide +kernel
theorem dX4_isSo_122 : decode cX4_isSo 122 = .ok (.if_icmp .gt 7, 3) := by decide +kernel
theorem dX4_isSo_125 : decode cX4_isSo 125 = .ok (.iconst 1, 1) := by decide +kernel
theorem dX4_isSo_126 : decode cX4_isSo 126 = .ok (.goto 4, 3) := by decide +kernel
theorem dX4_isSo_129 : decode cX4_isSo 129 = .ok (.iconst 0, 1) := by decide +kernel
theorem dX4_isSo_130 : decode cX4_isSo 130 = .ok (.ireturn, 1) := by decide +kernel
theorem dX4_isSo_131 : decode cX4_isSo 131 = .ok (.aload_n 0, 1) := by decide +kernel
theorem dX4_isSo_132 : decode cX4_isSo 132 = .ok (.getfield 11, 3) := by decide +kernel
theorem dX4_isSo_135 : decode cX4_isSo 135 = .ok (.iload_n 3, 1) := by decide +kernel
theorem dX4_isSo_136 : decode cX4_isSo 136 = .ok (.aaload, 1) := by decide +kernel
theorem dX4_isSo_137 : decode cX4_isSo 137 = .ok (.iload 4, 2) := by decide +kernel
theorem dX4_isSo_139 : decode cX4_isSo 139 = .ok (.iaload, 1) := by decide +kernel
theorem dX4_isSo_140 : decode cX4_isSo 140 = .ok (.iload_n 2, 1) := by decide +kernel
theorem dX4_isSo_141 : decode cX4_isSo 141 = .ok (.if_icmp .lt 7, 3) := by decide +kernel
theorem dX4_isSo_144 : decode cX4_isSo 144 = .ok (.iconst 1, 1) := by decide +kernel
theorem dX4_isSo_145 : decode cX4_isSo 145 = .ok (.goto 4, 3) := by decide +kernel
theorem dX4_isSo_148 : decode cX4_isSo 148 = .ok (.iconst 0, 1) := by decide +kernel
theorem dX4_isSo_149 : decode cX4_isSo 149 = .ok (.ireturn, 1) := by decide +kernel
theorem dX4_isSo_150 : decode cX4_isSo 150 = .ok (.iload 4, 2) := by decide +kernel
theorem dX4_isSo_152 : decode cX4_isSo 152 = .ok (.ifCond .eq 7, 3) := by decide +kernel
theorem dX4_isSo_155 : decode cX4_isSo 155 = .ok (.iconst 1, 1) := by decide +kernel
theorem dX4_isSo_156 : decode cX4_isSo 156 = .ok (.goto 4, 3) := by decide +kernel
theorem dX4_isSo_159 : decode cX4_isSo 159 = .ok (.iconst 0, 1) := by decide +kernel
theorem dX4_isSo_160 : decode cX4_isSo 160 = .ok (.ireturn, 1) := by decide +kernel
theorem dX4_isSo_161 : decode cX4_isSo 161 = .ok (.iconst 1, 1) := by decide +kernel
theorem dX4_isSo_162 : decode cX4_isSo 162 = .ok (.ireturn, 1) := by decide +kernel
theorem dX5_init_0 : decode cX5_init 0 = .ok (.aload_n 0, 1) := by decide +kernel
theorem dX5_init_1 : decode cX5_init 1 = .ok (.invokespecial 3, 3) := by decide +kernel
theorem dX5_init_4 : decode cX5_init 4 = .ok (.aload_n 0, 1) := by decide +kernel
theorem dX5_init_5 : decode cX5_init 5 = .ok (.bipush 16, 2) := by decide +kernel
theorem dX5_init_7 : decode cX5_init 7 = .ok (.newarray .int, 2) := by decide +kernel
theorem dX5_init_9 : decode cX5_init 9 = .ok (.putfield 11, 3) := by decide +kernel
theorem dX5_init_12 : decode cX5_init 12 = .ok (.aload_n 0, 1) := by decide +kernel
theorem dX5_init_13 : decode cX5_init 13 = .ok (.bipush 16, 2) := by decide +kernel
theorem dX5_init_15 : decode cX5_init 15 = .ok (.newarray .int, 2) := by decide +kernel
theorem dX5_init_17 : decode cX5_init 17 = .ok (.putfield 15, 3) := by decide +kernel
theorem dX5_init_20 : decode cX5_init 20 = .ok (.return_, 1) := by decide +kernel
theorem dX5_isZero_0 : decode cX5_isZero 0 = .ok (.aload_n 0, 1) := by decide +kernel
theorem dX5_isZero_1 : decode cX5_isZero 1 = .ok (.getfield 18, 3) := by decide +kernel
theorem dX5_isZero_4 : decode cX5_isZero 4 = .ok (.ifCond .ne 7, 3) := by decide +kernel
theorem dX5_isZero_7 : decode cX5_isZero 7 = .ok (.iconst 1, 1) := by decide +kernel
theorem dX5_isZero_8 : decode cX5_isZero 8 = .ok (.goto 4, 3) := by decide +kernel
theorem dX5_isZero_11 : decode cX5_isZero 11 = .ok (.iconst 0, 1) := by decide +kernel
theorem dX5_isZero_12 : decode cX5_isZero 12 = .ok (.ireturn, 1) := by decide +kernel
theorem dX5_digit_0 : decode cX5_digit 0 = .ok (.iload_n 1, 1) := by decide +kernel
theorem dX5_digit_1 : decode cX5_digit 1 = .ok (.iconst 0, 1) := by decide +kernel
theorem dX5_digit_2 : decode cX5_digit 2 = .ok (.aload_n 0, 1) := by decide +kernel
theorem dX5_digit_3 : decode cX5_digit 3 = .ok (.getfield 18, 3) := by decide +kernel
theorem dX5_digit_6 : decode cX5_digit 6 = .ok (.iconst 1, 1) := by decide +kernel
theorem dX5_digit_7 : decode cX5_digit 7 = .ok (.isub, 1) := by decide +kernel
theorem dX5_digit_8 : decode cX5_digit 8 = .ok (.invokestatic 22, 3) := by decide +kernel
theorem dX5_digit_11 : decode cX5_digit 11 = .ok (.ifCond .eq 12, 3) := by decide +kernel
theorem dX5_digit_14 : decode cX5_digit 14 = .ok (.aload_n 0, 1) := by decide +kernel
theorem dX5_digit_15 : decode cX5_digit 15 = .ok (.getfield 11, 3) := by decide +kernel
theorem dX5_digit_18 : decode cX5_digit 18 = .ok (.iload_n 1, 1) := by decide +kernel
theorem dX5_digit_19 : decode cX5_digit 19 = .ok (.iaload, 1) := by decide +kernel
theorem dX5_digit_20 : decode cX5_digit 20 = .ok (.goto 4, 3) := by decide +kernel
theorem dX5_digit_23 : decode cX5_digit 23 = .ok (.iconst (-1), 1) := by decide +kernel
theorem dX5_digit_24 : decode cX5_digit 24 = .ok (.ireturn, 1) := by decide +kernel
theorem dX5_set_0 : decode cX5_set 0 = .ok (.iconst 0, 1) := by decide +kernel
theorem dX5_set_1 : decode cX5_set 1 = .ok (.istore_n 3, 1) := by decide +kernel
theorem dX5_set_2 : decode cX5_set 2 = .ok (.iload_n 3, 1) := by decide +kernel
theorem dX5_set_3 : decode cX5_set 3 = .ok (.bipush 16, 2) := by decide +kernel
theorem dX5_set_5 : decode cX5_set 5 = .ok (.if_icmp .ge 16, 3) := by decide +kernel
theorem dX5_set_8 : decode cX5_set 8 = .ok (.aload_n 0, 1) := by decide +kernel
theorem dX5_set_9 : decode cX5_set 9 = .ok (.getfield 11, 3) := by decide +kernel
theorem dX5_set_12 : decode cX5_set 12 = .ok (.iload_n 3, 1) := by decide +kernel
theorem dX5_set_13 : decode cX5_set 13 = .ok (.iconst 0, 1) := by decide +kernel
theorem dX5_set_14 : decode cX5_set 14 = .ok (.iastore, 1) := by decide +kernel
theorem dX5_set_15 : decode cX5_set 15 = .ok (.iinc 3 1, 3) := by decide +kernel
theorem dX5_set_18 : decode cX5_set 18 = .ok (.goto (-16), 3) := by decide +kernel
theorem dX5_set_21 : decode cX5_set 21 = .ok (.aload_n 0, 1) := by decide +kernel
theorem dX5_set_22 : decode cX5_set 22 = .ok (.lload_n 1, 1) := by decide +kernel
theorem dX5_set_23 : decode cX5_set 23 = .ok (.iconst 1, 1) := by decide +kernel
theorem dX5_set_24 : decode cX5_set 24 = .ok (.invokevirtual 26, 3) := by decide +kernel
theorem dX5_set_27 : decode cX5_set 27 = .ok (.return_, 1) := by decide +kernel
theorem dX5_become_0 : decode cX5_become 0 = .ok (.aload_n 1, 1) := by decide +kernel
theorem dX5_become_1 : decode cX5_become 1 = .ok (.getfield 11, 3) := by decide +kernel
theorem dX5_become_4 : decode cX5_become 4 = .ok (.iconst 0, 1) := by decide +kernel
theorem dX5_become_5 : decode cX5_become 5 = .ok (.aload_n 0, 1) := by decide +kernel
theorem dX5_become_6 : decode cX5_become 6 = .ok (.getfield 11, 3) := by decide +kernel
theorem dX5_become_9 : decode cX5_become 9 = .ok (.iconst 0, 1) := by decide +kernel
theorem dX5_become_10 : decode cX5_become 10 = .ok (.bipush 16, 2) := by decide +kernel
theorem dX5_become_12 : decode cX5_become 12 = .ok (.invokestatic 30, 3) := by decide +kernel
theorem dX5_become_15 : decode cX5_become 15 = .ok (.aload_n 0, 1) := by decide +kernel
theorem dX5_become_16 : decode cX5_become 16 = .ok (.aload_n 1, 1) := by decide +kernel
theorem dX5_become_17 : decode cX5_become 17 = .ok (.getfield 18, 3) := by decide +kernel
theorem dX5_become_20 : decode cX5_become 20 = .ok (.putfield 18, 3) := by decide +kernel
theorem dX5_become_23 : decode cX5_become 23 = .ok (.return_, 1) := by decide +kernel
theorem dX5_add_0 : decode cX5_add 0 = .ok (.iconst 0, 1) := by decide +kernel
theorem dX5_add_1 : decode cX5_add 1 = .ok (.istore_n 2, 1) := by decide +kernel
theorem dX5_add_2 : decode cX5_add 2 = .ok (.iconst 0, 1) := by decide +kernel
theorem dX5_add_3 : decode cX5_add 3 = .ok (.istore_n 3, 1) := by decide +kernel
theorem dX5_add_4 : decode cX5_add 4 = .ok (.iload_n 3, 1) := by decide +kernel
theorem dX5_add_5 : decode cX5_add 5 = .ok (.bipush 16, 2) := by decide +kernel
theorem dX5_add_7 : decode cX5_add 7 = .ok (.if_icmp .ge 40, 3) := by decide +kernel
theorem dX5_add_10 : decode cX5_add 10 = .ok (.iload_n 2, 1) := by decide +kernel
theorem dX5_add_11 : decode cX5_add 11 = .ok (.aload_n 0, 1) := by decide +kernel
theorem dX5_add_12 : decode cX5_add 12 = .ok (.getfield 11, 3) := by decide +kernel
theorem dX5_add_15 : decode cX5_add 15 = .ok (.iload_n 3, 1) := by decide +kernel
theorem dX5_add_16 : decode cX5_add 16 = .ok (.iaload, 1) := by decide +kernel
theorem dX5_add_17 : decode cX5_add 17 = .ok (.aload_n 1, 1) := by decide +kernel
theorem dX5_add_18 : decode cX5_add 18 = .ok (.getfield 11, 3) := by decide +kernel
theorem dX5_add_21 : decode cX5_add 21 = .ok (.iload_n 3, 1) := by decide +kernel
theorem dX5_add_22 : decode cX5_add 22 = .ok (.iaload, 1) := by decide +kernel
theorem dX5_add_23 : decode cX5_add 23 = .ok (.iadd, 1) := by decide +kernel
theorem dX5_add_24 : decode cX5_add 24 = .ok (.iadd, 1) := by decide +kernel
theorem dX5_add_25 : decode cX5_add 25 = .ok (.istore_n 2, 1) := by decide +kernel
theorem dX5_add_26 : decode cX5_add 26 = .ok (.aload_n 0, 1) := by decide +kernel
theorem dX5_add_27 : decode cX5_add 27 = .ok (.getfield 11, 3) := by decide +kernel
theorem dX5_add_30 : decode cX5_add 30 = .ok (.iload_n 3, 1) := by decide +kernel
theorem dX5_add_31 : decode cX5_add 31 = .ok (.iload_n 2, 1) := by decide +kernel
theorem dX5_add_32 : decode cX5_add 32 = .ok (.ldc 36, 2) := by decide +kernel
theorem dX5_add_34 : decode cX5_add 34 = .ok (.iand, 1) := by decide +kernel
theorem dX5_add_35 : decode cX5_add 35 = .ok (.iastore, 1) := by decide +kernel
theorem dX5_add_36 : decode cX5_add 36 = .ok (.iload_n 2, 1) := by decide +kernel
theorem dX5_add_37 : decode cX5_add 37 = .ok (.bipush 30, 2) := by decide +kernel
theorem dX5_add_39 : decode cX5_add 39 = .ok (.iushr, 1) := by decide +kernel
theorem dX5_add_40 : decode cX5_add 40 = .ok (.istore_n 2, 1) := by decide +kernel
theorem dX5_add_41 : decode cX5_add 41 = .ok (.iinc 3 1, 3) := by decide +kernel
theorem dX5_add_44 : decode cX5_add 44 = .ok (.goto (-40), 3) := by decide +kernel
theorem dX5_add_47 : decode cX5_add 47 = .ok (.aload_n 0, 1) := by decide +kernel
theorem dX5_add_48 : decode cX5_add 48 = .ok (.invokevirtual 37, 3) := by decide +kernel
theorem dX5_add_51 : decode cX5_add 51 = .ok (.return_, 1) := by decide +kernel
theorem dX5_addTimes_0 : decode cX5_addTimes 0 = .ok (.lload_n 1, 1) := by decide +kernel
theorem dX5_addTimes_1 : decode cX5_addTimes 1 = .ok (.lstore 4, 2) := by decide +kernel
theorem dX5_addTimes_3 : decode cX5_addTimes 3 = .ok (.lconst 0, 1) := by decide +kernel
theorem dX5_addTimes_4 : decode cX5_addTimes 4 = .ok (.lstore 6, 2) := by decide +kernel
theorem dX5_addTimes_6 : decode cX5_addTimes 6 = .ok (.iconst 0, 1) := by decide +kernel
theorem dX5_addTimes_7 : decode cX5_addTimes 7 = .ok (.istore 8, 2) := by decide +kernel
theorem dX5_addTimes_9 : decode cX5_addTimes 9 = .ok (.iload 8, 2) := by decide +kernel
theorem dX5_addTimes_11 : decode cX5_addTimes 11 = .ok (.bipush 16, 2) := by decide +kernel
theorem dX5_addTimes_13 : decode cX5_addTimes 13 = .ok (.if_icmp .ge 60, 3) := by decide +kernel
theorem dX5_addTimes_16 : decode cX5_addTimes 16 = .ok (.lload 6, 2) := by decide +kernel
theorem dX5_addTimes_18 : decode cX5_addTimes 18 = .ok (.aload_n 0, 1) := by decide +kernel
theorem dX5_addTimes_19 : decode cX5_addTimes 19 = .ok (.getfield 11, 3) := by decide +kernel
theorem dX5_addTimes_22 : decode cX5_addTimes 22 = .ok (.iload 8, 2) := by decide +kernel
theorem dX5_addTimes_24 : decode cX5_addTimes 24 = .ok (.iaload, 1) := by decide +kernel
theorem dX5_addTimes_25 : decode cX5_addTimes 25 = .ok (.i2l, 1) := by decide +kernel
theorem dX5_addTimes_26 : decode cX5_addTimes 26 = .ok (.lload 4, 2) := by decide +kernel
theorem dX5_addTimes_28 : decode cX5_addTimes 28 = .ok (.ldc2_w 40, 3) := by decide +kernel
theorem dX5_addTimes_31 : decode cX5_addTimes 31 = .ok (.land, 1) := by decide +kernel
theorem dX5_addTimes_32 : decode cX5_addTimes 32 = .ok (.iload_n 3, 1) := by decide +kernel
theorem dX5_addTimes_33 : decode cX5_addTimes 33 = .ok (.i2l, 1) := by decide +kernel
theorem dX5_addTimes_34 : decode cX5_addTimes 34 = .ok (.lmul, 1) := by decide +kernel
theorem dX5_addTimes_35 : decode cX5_addTimes 35 = .ok (.ladd, 1) := by decide +kernel
theorem dX5_addTimes_36 : decode cX5_addTimes 36 = .ok (.ladd, 1) := by decide +kernel
theorem dX5_addTimes_37 : decode cX5_addTimes 37 = .ok (.lstore 6, 2) := by decide +kernel
theorem dX5_addTimes_39 : decode cX5_addTimes 39 = .ok (.aload_n 0, 1) := by decide +kernel
theorem dX5_addTimes_40 : decode cX5_addTimes 40 = .ok (.getfield 11, 3) := by decide +kernel
theorem dX5_addTimes_43 : decode cX5_addTimes 43 = .ok (.iload 8, 2) := by decide +kernel
theorem dX5_addTimes_45 : decode cX5_addTimes 45 = .ok (.lload 6, 2) := by decide +kernel
theorem dX5_addTimes_47 : decode cX5_addTimes 47 = .ok (.ldc2_w 40, 3) := by decide +kernel
theorem dX5_addTimes_50 : decode cX5_addTimes 50 = .ok (.land, 1) := by decide +kernel
theorem dX5_addTimes_51 : decode cX5_addTimes 51 = .ok (.l2i, 1) := by decide +kernel
theorem dX5_addTimes_52 : decode cX5_addTimes 52 = .ok (.iastore, 1) := by decide +kernel
theorem dX5_addTimes_53 : decode cX5_addTimes 53 = .ok (.lload 6, 2) := by decide +kernel
theorem dX5_addTimes_55 : decode cX5_addTimes 55 = .ok (.bipush 30, 2) := by decide +kernel
theorem dX5_addTimes_57 : decode cX5_addTimes 57 = .ok (.lushr, 1) := by decide +kernel
theorem dX5_addTimes_58 : decode cX5_addTimes 58 = .ok (.lstore 6, 2) := by decide +kernel
theorem dX5_addTimes_60 : decode cX5_addTimes 60 = .ok (.lload 4, 2) := by decide +kernel
theorem dX5_addTimes_62 : decode cX5_addTimes 62 = .ok (.bipush 30, 2) := by decide +kernel
theorem dX5_addTimes_64 : decode cX5_addTimes 64 = .ok (.lushr, 1) := by decide +kernel
theorem dX5_addTimes_65 : decode cX5_addTimes 65 = .ok (.lstore 4, 2) := by decide +kernel
theorem dX5_addTimes_67 : decode cX5_addTimes 67 = .ok (.iinc 8 1, 3) := by decide +kernel
theorem dX5_addTimes_70 : decode cX5_addTimes 70 = .ok (.goto (-61), 3) := by decide +kernel
theorem dX5_addTimes_73 : decode cX5_addTimes 73 = .ok (.aload_n 0, 1) := by decide +kernel
theorem dX5_addTimes_74 : decode cX5_addTimes 74 = .ok (.invokevirtual 37, 3) := by decide +kernel
theorem dX5_addTimes_77 : decode cX5_addTimes 77 = .ok (.return_, 1) := by decide +kernel
theorem dX5_multiply_0 : decode cX5_multiply 0 = .ok (.iconst 0, 1) := by decide +kernel
theorem dX5_multiply_1 : decode cX5_multiply 1 = .ok (.istore_n 3, 1) := by decide +kernel
theorem dX5_multiply_2 : decode cX5_multiply 2 = .ok (.iload_n 3, 1) := by decide +kernel
theorem dX5_multiply_3 : decode cX5_multiply 3 = .ok (.bipush 16, 2) := by decide +kernel
theorem dX5_multiply_5 : decode cX5_multiply 5 = .ok (.if_icmp .ge 16, 3) := by decide +kernel
theorem dX5_multiply_8 : decode cX5_multiply 8 = .ok (.aload_n 0, 1) := by decide +kernel
theorem dX5_multiply_9 : decode cX5_multiply 9 = .ok (.getfield 15, 3) := by decide +kernel
theorem dX5_multiply_12 : decode cX5_multiply 12 = .ok (.iload_n 3, 1) := by decide +kernel
theorem dX5_multiply_13 : decode cX5_multiply 13 = .ok (.iconst 0, 1) := by decide +kernel
theorem dX5_multiply_14 : decode cX5_multiply 14 = .ok (.iastore, 1) := by decide +kernel
theorem dX5_multiply_15 : decode cX5_multiply 15 = .ok (.iinc 3 1, 3) := by decide +kernel
theorem dX5_multiply_18 : decode cX5_multiply 18 = .ok (.goto (-16), 3) := by decide +kernel
theorem dX5_multiply_21 : decode cX5_multiply 21 = .ok (.iconst 0, 1) := by decide +kernel
theorem dX5_multiply_22 : decode cX5_multiply 22 = .ok (.istore_n 3, 1) := by decide +kernel
theorem dX5_multiply_23 : decode cX5_multiply 23 = .ok (.iload_n 3, 1) := by decide +kernel
theorem dX5_multiply_24 : decode cX5_multiply 24 = .ok (.iconst 3, 1) := by decide +kernel
theorem dX5_multiply_25 : decode cX5_multiply 25 = .ok (.if_icmp .ge 92, 3) := by decide +kernel
theorem dX5_multiply_28 : decode cX5_multiply 28 = .ok (.lload_n 1, 1) := by decide +kernel
theorem dX5_multiply_29 : decode cX5_multiply 29 = .ok (.iload_n 3, 1) := by decide +kernel
theorem dX5_multiply_30 : decode cX5_multiply 30 = .ok (.bipush 30, 2) := by decide +kernel
theorem dX5_multiply_32 : decode cX5_multiply 32 = .ok (.imul, 1) := by decide +kernel
theorem dX5_multiply_33 : decode cX5_multiply 33 = .ok (.lushr, 1) := by decide +kernel
theorem dX5_multiply_34 : decode cX5_multiply 34 = .ok (.ldc2_w 40, 3) := by decide +kernel
theorem dX5_multiply_37 : decode cX5_multiply 37 = .ok (.land, 1) := by decide +kernel
theorem dX5_multiply_38 : decode cX5_multiply 38 = .ok (.lstore 4, 2) := by decide +kernel
theorem dX5_multiply_40 : decode cX5_multiply 40 = .ok (.lconst 0, 1) := by decide +kernel
theorem dX5_multiply_41 : decode cX5_multiply 41 = .ok (.lstore 6, 2) := by decide +kernel
theorem dX5_multiply_43 : decode cX5_multiply 43 = .ok (.iconst 0, 1) := by decide +kernel
theorem dX5_multiply_44 : decode cX5_multiply 44 = .ok (.istore 8, 2) := by decide +kernel
theorem dX5_multiply_46 : decode cX5_multiply 46 = .ok (.iload 8, 2) := by decide +kernel
theorem dX5_multiply_48 : decode cX5_multiply 48 = .ok (.iload_n 3, 1) := by decide +kernel
theorem dX5_multiply_49 : decode cX5_multiply 49 = .ok (.iadd, 1) := by decide +kernel
theorem dX5_multiply_50 : decode cX5_multiply 50 = .ok (.bipush 16, 2) := by decide +kernel
theorem dX5_multiply_52 : decode cX5_multiply 52 = .ok (.if_icmp .ge 59, 3) := by decide +kernel
theorem dX5_multiply_55 : decode cX5_multiply 55 = .ok (.lload 6, 2) := by decide +kernel
theorem dX5_multiply_57 : decode cX5_multiply 57 = .ok (.aload_n 0, 1) := by decide +kernel
theorem dX5_multiply_58 : decode cX5_multiply 58 = .ok (.getfield 15, 3) := by decide +kernel
theorem dX5_multiply_61 : decode cX5_multiply 61 = .ok (.iload 8, 2) := by decide +kernel
theorem dX5_multiply_63 : decode cX5_multiply 63 = .ok (.iload_n 3, 1) := by decide +kernel
theorem dX5_multiply_64 : decode cX5_multiply 64 = .ok (.iadd, 1) := by decide +kernel
theorem dX5_multiply_65 : decode cX5_multiply 65 = .ok (.iaload, 1) := by decide +kernel
theorem dX5_multiply_66 : decode cX5_multiply 66 = .ok (.i2l, 1) := by decide +kernel
theorem dX5_multiply_67 : decode cX5_multiply 67 = .ok (.lload 4, 2) := by decide +kernel
theorem dX5_multiply_69 : decode cX5_multiply 69 = .ok (.aload_n 0, 1) := by decide +kernel
theorem dX5_multiply_70 : decode cX5_multiply 70 = .ok (.getfield 11, 3) := by decide +kernel
theorem dX5_multiply_73 : decode cX5_multiply 73 = .ok (.iload 8, 2) := by decide +kernel
theorem dX5_multiply_75 : decode cX5_multiply 75 = .ok (.iaload, 1) := by decide +kernel
theorem dX5_multiply_76 : decode cX5_multiply 76 = .ok (.i2l, 1) := by decide +kernel
theorem dX5_multiply_77 : decode cX5_multiply 77 = .ok (.lmul, 1) := by decide +kernel
theorem dX5_multiply_78 : decode cX5_multiply 78 = .ok (.ladd, 1) := by decide +kernel
theorem dX5_multiply_79 : decode cX5_multiply 79 = .ok (.ladd, 1) := by decide +kernel
theorem dX5_multiply_80 : decode cX5_multiply 80 = .ok (.lstore 6, 2) := by decide +kernel
theorem dX5_multiply_82 : decode cX5_multiply 82 = .ok (.aload_n 0, 1) := by decide +kernel
theorem dX5_multiply_83 : decode cX5_multiply 83 = .ok (.getfield 15, 3) := by decide +kernel
theorem dX5_multiply_86 : decode cX5_multiply 86 = .ok (.iload 8, 2) := by decide +kernel
theorem dX5_multiply_88 : decode cX5_multiply 88 = .ok (.iload_n 3, 1) := by decide +kernel
theorem dX5_multiply_89 : decode cX5_multiply 89 = .ok (.iadd, 1) := by decide +kernel
theorem dX5_multiply_90 : decode cX5_multiply 90 = .ok (.lload 6, 2) := by decide +kernel
theorem dX5_multiply_92 : decode cX5_multiply 92 = .ok (.ldc2_w 40, 3) := by decide +kernel
theorem dX5_multiply_95 : decode cX5_multiply 95 = .ok (.land, 1) := by decide +kernel
theorem dX5_multiply_96 : decode cX5_multiply 96 = .ok (.l2i, 1) := by decide +kernel
theorem dX5_multiply_97 : decode cX5_multiply 97 = .ok (.iastore, 1) := by decide +kernel
theorem dX5_multiply_98 : decode cX5_multiply 98 = .ok (.lload 6, 2) := by decide +kernel
theorem dX5_multiply_100 : decode cX5_multiply 100 = .ok (.bipush 30, 2) := by decide +kernel
theorem dX5_multiply_102 : decode cX5_multiply 102 = .ok (.lushr, 1) := by decide +kernel
theorem dX5_multiply_103 : decode cX5_multiply 103 = .ok (.lstore 6, 2) := by decide +kernel
theorem dX5_multiply_105 : decode cX5_multiply 105 = .ok (.iinc 8 1, 3) := by decide +kernel
theorem dX5_multiply_108 : decode cX5_multiply 108 = .ok (.goto (-62), 3) := by decide +kernel
theorem dX5_multiply_111 : decode cX5_multiply 111 = .ok (.iinc 3 1, 3) := by decide +kernel
theorem dX5_multiply_114 : decode cX5_multiply 114 = .ok (.goto (-91), 3) := by decide +kernel
theorem dX5_multiply_117 : decode cX5_multiply 117 = .ok (.aload_n 0, 1) := by decide +kernel
theorem dX5_multiply_118 : decode cX5_multiply 118 = .ok (.getfield 15, 3) := by decide +kernel
theorem dX5_multiply_121 : decode cX5_multiply 121 = .ok (.iconst 0, 1) := by decide +kernel
theorem dX5_multiply_122 : decode cX5_multiply 122 = .ok (.aload_n 0, 1) := by decide +kernel
theorem dX5_multiply_123 : decode cX5_multiply 123 = .ok (.getfield 11, 3) := by decide +kernel
theorem dX5_multiply_126 : decode cX5_multiply 126 = .ok (.iconst 0, 1) := by decide +kernel
theorem dX5_multiply_127 : decode cX5_multiply 127 = .ok (.bipush 16, 2) := by decide +kernel
theorem dX5_multiply_129 : decode cX5_multiply 129 = .ok (.invokestatic 30, 3) := by decide +kernel
theorem dX5_multiply_132 : decode cX5_multiply 132 = .ok (.aload_n 0, 1) := by decide +kernel
theorem dX5_multiply_133 : decode cX5_multiply 133 = .ok (.invokevirtual 37, 3) := by decide +kernel
theorem dX5_multiply_136 : decode cX5_multiply 136 = .ok (.return_, 1) := by decide +kernel
theorem dX5_compareWith_0 : decode cX5_compareWith 0 = .ok (.aload_n 0, 1) := by decide +kernel
theorem dX5_compareWith_1 : decode cX5_compareWith 1 = .ok (.getfield 18, 3) := by decide +kernel
theorem dX5_compareWith_4 : decode cX5_compareWith 4 = .ok (.aload_n 1, 1) := by decide +kernel
theorem dX5_compareWith_5 : decode cX5_compareWith 5 = .ok (.getfield 18, 3) := by decide +kernel
theorem dX5_compareWith_8 : decode cX5_compareWith 8 = .ok (.if_icmp .eq 20, 3) := by decide +kernel
theorem dX5_compareWith_11 : decode cX5_compareWith 11 = .ok (.aload_n 0, 1) := by decide +kernel
theorem dX5_compareWith_12 : decode cX5_compareWith 12 = .ok (.getfield 18, 3) := by decide +kernel
theorem dX5_compareWith_15 : decode cX5_compareWith 15 = .ok (.aload_n 1, 1) := by decide +kernel
theorem dX5_compareWith_16 : decode cX5_compareWith 16 = .ok (.getfield 18, 3) := by decide +kernel
theorem dX5_compareWith_19 : decode cX5_compareWith 19 = .ok (.if_icmp .ge 7, 3) := by decide +kernel
theorem dX5_compareWith_22 : decode cX5_compareWith 22 = .ok (.iconst (-1), 1) := by decide +kernel
theorem dX5_compareWith_23 : decode cX5_compareWith 23 = .ok (.goto 4, 3) := by decide +kernel
theorem dX5_compareWith_26 : decode cX5_compareWith 26 = .ok (.iconst 1, 1) := by decide +kernel
theorem dX5_compareWith_27 : decode cX5_compareWith 27 = .ok (.ireturn, 1) := by decide +kernel
theorem dX5_compareWith_28 : decode cX5_compareWith 28 = .ok (.bipush 15, 2) := by decide +kernel
theorem dX5_compareWith_30 : decode cX5_compareWith 30 = .ok (.istore_n 2, 1) := by decide +kernel
theorem dX5_compareWith_31 : decode cX5_compareWith 31 = .ok (.iload_n 2, 1) := by decide +kernel
theorem dX5_compareWith_32 : decode cX5_compareWith 32 = .ok (.ifCond .lt 45, 3) := by decide +kernel
theorem dX5_compareWith_35 : decode cX5_compareWith 35 = .ok (.aload_n 0, 1) := by decide +kernel
theorem dX5_compareWith_36 : decode cX5_compareWith 36 = .ok (.getfield 11, 3) := by decide +kernel
theorem dX5_compareWith_39 : decode cX5_compareWith 39 = .ok (.iload_n 2, 1) := by decide +kernel
theorem dX5_compareWith_40 : decode cX5_compareWith 40 = .ok (.iaload, 1) := by decide +kernel
theorem dX5_compareWith_41 : decode cX5_compareWith 41 = .ok (.aload_n 1, 1) := by decide +kernel
theorem dX5_compareWith_42 : decode cX5_compareWith 42 = .ok (.getfield 11, 3) := by decide +kernel
theorem dX5_compareWith_45 : decode cX5_compareWith 45 = .ok (.iload_n 2, 1) := by decide +kernel
theorem dX5_compareWith_46 : decode cX5_compareWith 46 = .ok (.iaload, 1) := by decide +kernel
theorem dX5_compareWith_47 : decode cX5_compareWith 47 = .ok (.if_icmp .eq 24, 3) := by decide +kernel
theorem dX5_compareWith_50 : decode cX5_compareWith 50 = .ok (.aload_n 0, 1) := by decide +kernel
theorem dX5_compareWith_51 : decode cX5_compareWith 51 = .ok (.getfield 11, 3) := by decide +kernel
theorem dX5_compareWith_54 : decode cX5_compareWith 54 = .ok (.iload_n 2, 1) := by decide +kernel
theorem dX5_compareWith_55 : decode cX5_compareWith 55 = .ok (.iaload, 1) := by decide +kernel
theorem dX5_compareWith_56 : decode cX5_compareWith 56 = .ok (.aload_n 1, 1) := by decide +kernel
theorem dX5_compareWith_57 : decode cX5_compareWith 57 = .ok (.getfield 11, 3) := by decide +kernel
theorem dX5_compareWith_60 : decode cX5_compareWith 60 = .ok (.iload_n 2, 1) := by decide +kernel
theorem dX5_compareWith_61 : decode cX5_compareWith 61 = .ok (.iaload, 1) := by decide +kernel
theorem dX5_compareWith_62 : decode cX5_compareWith 62 = .ok (.if_icmp .ge 7, 3) := by decide +kernel
theorem dX5_compareWith_65 : decode cX5_compareWith 65 = .ok (.iconst (-1), 1) := by decide +kernel
theorem dX5_compareWith_66 : decode cX5_compareWith 66 = .ok (.goto 4, 3) := by decide +kernel
theorem dX5_compareWith_69 : decode cX5_compareWith 69 = .ok (.iconst 1, 1) := by decide +kernel
theorem dX5_compareWith_70 : decode cX5_compareWith 70 = .ok (.ireturn, 1) := by decide +kernel
theorem dX5_compareWith_71 : decode cX5_compareWith 71 = .ok (.iinc 2 (-1), 3) := by decide +kernel
theorem dX5_compareWith_74 : decode cX5_compareWith 74 = .ok (.goto (-43), 3) := by decide +kernel
theorem dX5_compareWith_77 : decode cX5_compareWith 77 = .ok (.iconst 0, 1) := by decide +kernel
theorem dX5_compareWith_78 : decode cX5_compareWith 78 = .ok (.ireturn, 1) := by decide +kernel
theorem dX5_subtract_0 : decode cX5_subtract 0 = .ok (.iconst 0, 1) := by decide +kernel
theorem dX5_subtract_1 : decode cX5_subtract 1 = .ok (.istore_n 2, 1) := by decide +kernel
theorem dX5_subtract_2 : decode cX5_subtract 2 = .ok (.iconst 0, 1) := by decide +kernel
theorem dX5_subtract_3 : decode cX5_subtract 3 = .ok (.istore_n 3, 1) := by decide +kernel
theorem dX5_subtract_4 : decode cX5_subtract 4 = .ok (.iload_n 3, 1) := by decide +kernel
theorem dX5_subtract_5 : decode cX5_subtract 5 = .ok (.bipush 16, 2) := by decide +kernel
theorem dX5_subtract_7 : decode cX5_subtract 7 = .ok (.if_icmp .ge 40, 3) := by decide +kernel
theorem dX5_subtract_10 : decode cX5_subtract 10 = .ok (.iload_n 2, 1) := by decide +kernel
theorem dX5_subtract_11 : decode cX5_subtract 11 = .ok (.aload_n 0, 1) := by decide +kernel
theorem dX5_subtract_12 : decode cX5_subtract 12 = .ok (.getfield 11, 3) := by decide +kernel
theorem dX5_subtract_15 : decode cX5_subtract 15 = .ok (.iload_n 3, 1) := by decide +kernel
theorem dX5_subtract_16 : decode cX5_subtract 16 = .ok (.iaload, 1) := by decide +kernel
theorem dX5_subtract_17 : decode cX5_subtract 17 = .ok (.aload_n 1, 1) := by decide +kernel
theorem dX5_subtract_18 : decode cX5_subtract 18 = .ok (.getfield 11, 3) := by decide +kernel
theorem dX5_subtract_21 : decode cX5_subtract 21 = .ok (.iload_n 3, 1) := by decide +kernel
theorem dX5_subtract_22 : decode cX5_subtract 22 = .ok (.iaload, 1) := by decide +kernel
theorem dX5_subtract_23 : decode cX5_subtract 23 = .ok (.isub, 1) := by decide +kernel
theorem dX5_subtract_24 : decode cX5_subtract 24 = .ok (.iadd, 1) := by decide +kernel
theorem dX5_subtract_25 : decode cX5_subtract 25 = .ok (.istore_n 2, 1) := by decide +kernel
theorem dX5_subtract_26 : decode cX5_subtract 26 = .ok (.aload_n 0, 1) := by decide +kernel
theorem dX5_subtract_27 : decode cX5_subtract 27 = .ok (.getfield 11, 3) := by decide +kernel
theorem dX5_subtract_30 : decode cX5_subtract 30 = .ok (.iload_n 3, 1) := by decide +kernel
theorem dX5_subtract_31 : decode cX5_subtract 31 = .ok (.iload_n 2, 1) := by decide +kernel
theorem dX5_subtract_32 : decode cX5_subtract 32 = .ok (.ldc 36, 2) := by decide +kernel
theorem dX5_subtract_34 : decode cX5_subtract 34 = .ok (.iand, 1) := by decide +kernel
theorem dX5_subtract_35 : decode cX5_subtract 35 = .ok (.iastore, 1) := by decide +kernel
theorem dX5_subtract_36 : decode cX5_subtract 36 = .ok (.iload_n 2, 1) := by decide +kernel
theorem dX5_subtract_37 : decode cX5_subtract 37 = .ok (.bipush 30, 2) := by decide +kernel
theorem dX5_subtract_39 : decode cX5_subtract 39 = .ok (.ishr, 1) := by decide +kernel
theorem dX5_subtract_40 : decode cX5_subtract 40 = .ok (.istore_n 2, 1) := by decide +kernel
theorem dX5_subtract_41 : decode cX5_subtract 41 = .ok (.iinc 3 1, 3) := by decide +kernel
theorem dX5_subtract_44 : decode cX5_subtract 44 = .ok (.goto (-40), 3) := by decide +kernel
theorem dX5_subtract_47 : decode cX5_subtract 47 = .ok (.aload_n 0, 1) := by decide +kernel
theorem dX5_subtract_48 : decode cX5_subtract 48 = .ok (.invokevirtual 37, 3) := by decide +kernel
theorem dX5_subtract_51 : decode cX5_subtract 51 = .ok (.return_, 1) := by decide +kernel
theorem dX5_twos_0 : decode cX5_twos 0 = .ok (.iconst 0, 1) := by decide +kernel
theorem dX5_twos_1 : decode cX5_twos 1 = .ok (.istore_n 1, 1) := by decide +kernel
theorem dX5_twos_2 : decode cX5_twos 2 = .ok (.iload_n 1, 1) := by decide +kernel
theorem dX5_twos_3 : decode cX5_twos 3 = .ok (.aload_n 0, 1) := by decide +kernel
theorem dX5_twos_4 : decode cX5_twos 4 = .ok (.getfield 18, 3) := by decide +kernel
theorem dX5_twos_7 : decode cX5_twos 7 = .ok (.if_icmp .ge 49, 3) := by decide +kernel
theorem dX5_twos_10 : decode cX5_twos 10 = .ok (.iload_n 1, 1) := by decide +kernel
theorem dX5_twos_11 : decode cX5_twos 11 = .ok (.bipush 16, 2) := by decide +kernel
theorem dX5_twos_13 : decode cX5_twos 13 = .ok (.if_icmp .ge 43, 3) := by decide +kernel
theorem dX5_twos_16 : decode cX5_twos 16 = .ok (.aload_n 0, 1) := by decide +kernel
theorem dX5_twos_17 : decode cX5_twos 17 = .ok (.getfield 11, 3) := by decide +kernel
theorem dX5_twos_20 : decode cX5_twos 20 = .ok (.iload_n 1, 1) := by decide +kernel
theorem dX5_twos_21 : decode cX5_twos 21 = .ok (.iaload, 1) := by decide +kernel
theorem dX5_twos_22 : decode cX5_twos 22 = .ok (.ifCond .eq 28, 3) := by decide +kernel
theorem dX5_twos_25 : decode cX5_twos 25 = .ok (.iload_n 1, 1) := by decide +kernel
theorem dX5_twos_26 : decode cX5_twos 26 = .ok (.bipush 30, 2) := by decide +kernel
theorem dX5_twos_28 : decode cX5_twos 28 = .ok (.imul, 1) := by decide +kernel
theorem dX5_twos_29 : decode cX5_twos 29 = .ok (.aload_n 0, 1) := by decide +kernel
theorem dX5_twos_30 : decode cX5_twos 30 = .ok (.getfield 11, 3) := by decide +kernel
theorem dX5_twos_33 : decode cX5_twos 33 = .ok (.iload_n 1, 1) := by decide +kernel
theorem dX5_twos_34 : decode cX5_twos 34 = .ok (.iaload, 1) := by decide +kernel
theorem dX5_twos_35 : decode cX5_twos 35 = .ok (.aload_n 0, 1) := by decide +kernel
theorem dX5_twos_36 : decode cX5_twos 36 = .ok (.getfield 11, 3) := by decide +kernel
theorem dX5_twos_39 : decode cX5_twos 39 = .ok (.iload_n 1, 1) := by decide +kernel
theorem dX5_twos_40 : decode cX5_twos 40 = .ok (.iaload, 1) := by decide +kernel
theorem dX5_twos_41 : decode cX5_twos 41 = .ok (.ineg, 1) := by decide +kernel
theorem dX5_twos_42 : decode cX5_twos 42 = .ok (.iand, 1) := by decide +kernel
theorem dX5_twos_43 : decode cX5_twos 43 = .ok (.iconst 1, 1) := by decide +kernel
theorem dX5_twos_44 : decode cX5_twos 44 = .ok (.isub, 1) := by decide +kernel
theorem dX5_twos_45 : decode cX5_twos 45 = .ok (.invokestatic 42, 3) := by decide +kernel
theorem dX5_twos_48 : decode cX5_twos 48 = .ok (.iadd, 1) := by decide +kernel
theorem dX5_twos_49 : decode cX5_twos 49 = .ok (.ireturn, 1) := by decide +kernel
theorem dX5_twos_50 : decode cX5_twos 50 = .ok (.iinc 1 1, 3) := by decide +kernel
theorem dX5_twos_53 : decode cX5_twos 53 = .ok (.goto (-51), 3) := by decide +kernel
theorem dX5_twos_56 : decode cX5_twos 56 = .ok (.iconst 0, 1) := by decide +kernel
theorem dX5_twos_57 : decode cX5_twos 57 = .ok (.ireturn, 1) := by decide +kernel
theorem dX5_shiftDown_0 : decode cX5_shiftDown 0 = .ok (.iload_n 1, 1) := by decide +kernel
theorem dX5_shiftDown_1 : decode cX5_shiftDown 1 = .ok (.ifCond .gt 4, 3) := by decide +kernel
theorem dX5_shiftDown_4 : decode cX5_shiftDown 4 = .ok (.return_, 1) := by decide +kernel
theorem dX5_shiftDown_5 : decode cX5_shiftDown 5 = .ok (.iload_n 1, 1) := by decide +kernel
theorem dX5_shiftDown_6 : decode cX5_shiftDown 6 = .ok (.bipush 30, 2) := by decide +kernel
theorem dX5_shiftDown_8 : decode cX5_shiftDown 8 = .ok (.idiv, 1) := by decide +kernel
theorem dX5_shiftDown_9 : decode cX5_shiftDown 9 = .ok (.istore_n 2, 1) := by decide +kernel
theorem dX5_shiftDown_10 : decode cX5_shiftDown 10 = .ok (.iload_n 1, 1) := by decide +kernel
theorem dX5_shiftDown_11 : decode cX5_shiftDown 11 = .ok (.bipush 30, 2) := by decide +kernel
theorem dX5_shiftDown_13 : decode cX5_shiftDown 13 = .ok (.irem, 1) := by decide +kernel
theorem dX5_shiftDown_14 : decode cX5_shiftDown 14 = .ok (.istore_n 3, 1) := by decide +kernel
theorem dX5_shiftDown_15 : decode cX5_shiftDown 15 = .ok (.iconst 0, 1) := by decide +kernel
theorem dX5_shiftDown_16 : decode cX5_shiftDown 16 = .ok (.istore 4, 2) := by decide +kernel
theorem dX5_shiftDown_18 : decode cX5_shiftDown 18 = .ok (.iload 4, 2) := by decide +kernel
theorem dX5_shiftDown_20 : decode cX5_shiftDown 20 = .ok (.bipush 16, 2) := by decide +kernel
theorem dX5_shiftDown_22 : decode cX5_shiftDown 22 = .ok (.if_icmp .ge 85, 3) := by decide +kernel
theorem dX5_shiftDown_25 : decode cX5_shiftDown 25 = .ok (.iload 4, 2) := by decide +kernel
theorem dX5_shiftDown_27 : decode cX5_shiftDown 27 = .ok (.iload_n 2, 1) := by decide +kernel
theorem dX5_shiftDown_28 : decode cX5_shiftDown 28 = .ok (.iadd, 1) := by decide +kernel
theorem dX5_shiftDown_29 : decode cX5_shiftDown 29 = .ok (.bipush 16, 2) := by decide +kernel
theorem dX5_shiftDown_31 : decode cX5_shiftDown 31 = .ok (.if_icmp .ge 16, 3) := by decide +kernel
theorem dX5_shiftDown_34 : decode cX5_shiftDown 34 = .ok (.aload_n 0, 1) := by decide +kernel
theorem dX5_shiftDown_35 : decode cX5_shiftDown 35 = .ok (.getfield 11, 3) := by decide +kernel
theorem dX5_shiftDown_38 : decode cX5_shiftDown 38 = .ok (.iload 4, 2) := by decide +kernel
theorem dX5_shiftDown_40 : decode cX5_shiftDown 40 = .ok (.iload_n 2, 1) := by decide +kernel
theorem dX5_shiftDown_41 : decode cX5_shiftDown 41 = .ok (.iadd, 1) := by decide +kernel
theorem dX5_shiftDown_42 : decode cX5_shiftDown 42 = .ok (.iaload, 1) := by decide +kernel
theorem dX5_shiftDown_43 : decode cX5_shiftDown 43 = .ok (.i2l, 1) := by decide +kernel
theorem dX5_shiftDown_44 : decode cX5_shiftDown 44 = .ok (.goto 4, 3) := by decide +kernel
theorem dX5_shiftDown_47 : decode cX5_shiftDown 47 = .ok (.lconst 0, 1) := by decide +kernel
theorem dX5_shiftDown_48 : decode cX5_shiftDown 48 = .ok (.lstore 5, 2) := by decide +kernel
theorem dX5_shiftDown_50 : decode cX5_shiftDown 50 = .ok (.iload 4, 2) := by decide +kernel
theorem dX5_shiftDown_52 : decode cX5_shiftDown 52 = .ok (.iload_n 2, 1) := by decide +kernel
theorem dX5_shiftDown_53 : decode cX5_shiftDown 53 = .ok (.iadd, 1) := by decide +kernel
theorem dX5_shiftDown_54 : decode cX5_shiftDown 54 = .ok (.iconst 1, 1) := by decide +kernel
theorem dX5_shiftDown_55 : decode cX5_shiftDown 55 = .ok (.iadd, 1) := by decide +kernel
theorem dX5_shiftDown_56 : decode cX5_shiftDown 56 = .ok (.bipush 16, 2) := by decide +kernel
theorem dX5_shiftDown_58 : decode cX5_shiftDown 58 = .ok (.if_icmp .ge 18, 3) := by decide +kernel
theorem dX5_shiftDown_61 : decode cX5_shiftDown 61 = .ok (.aload_n 0, 1) := by decide +kernel
theorem dX5_shiftDown_62 : decode cX5_shiftDown 62 = .ok (.getfield 11, 3) := by decide +kernel
theorem dX5_shiftDown_65 : decode cX5_shiftDown 65 = .ok (.iload 4, 2) := by decide +kernel
theorem dX5_shiftDown_67 : decode cX5_shiftDown 67 = .ok (.iload_n 2, 1) := by decide +kernel
theorem dX5_shiftDown_68 : decode cX5_shiftDown 68 = .ok (.iadd, 1) := by decide +kernel
theorem dX5_shiftDown_69 : decode cX5_shiftDown 69 = .ok (.iconst 1, 1) := by decide +kernel
theorem dX5_shiftDown_70 : decode cX5_shiftDown 70 = .ok (.iadd, 1) := by decide +kernel
theorem dX5_shiftDown_71 : decode cX5_shiftDown 71 = .ok (.iaload, 1) := by decide +kernel
theorem dX5_shiftDown_72 : decode cX5_shiftDown 72 = .ok (.i2l, 1) := by decide +kernel
theorem dX5_shiftDown_73 : decode cX5_shiftDown 73 = .ok (.goto 4, 3) := by decide +kernel
theorem dX5_shiftDown_76 : decode cX5_shiftDown 76 = .ok (.lconst 0, 1) := by decide +kernel
theorem dX5_shiftDown_77 : decode cX5_shiftDown 77 = .ok (.lstore 7, 2) := by decide +kernel
theorem dX5_shiftDown_79 : decode cX5_shiftDown 79 = .ok (.aload_n 0, 1) := by decide +kernel
theorem dX5_shiftDown_80 : decode cX5_shiftDown 80 = .ok (.getfield 11, 3) := by decide +kernel
theorem dX5_shiftDown_83 : decode cX5_shiftDown 83 = .ok (.iload 4, 2) := by decide +kernel
theorem dX5_shiftDown_85 : decode cX5_shiftDown 85 = .ok (.lload 7, 2) := by decide +kernel
theorem dX5_shiftDown_87 : decode cX5_shiftDown 87 = .ok (.bipush 30, 2) := by decide +kernel
theorem dX5_shiftDown_89 : decode cX5_shiftDown 89 = .ok (.lshl, 1) := by decide +kernel
theorem dX5_shiftDown_90 : decode cX5_shiftDown 90 = .ok (.lload 5, 2) := by decide +kernel
theorem dX5_shiftDown_92 : decode cX5_shiftDown 92 = .ok (.lor, 1) := by decide +kernel
theorem dX5_shiftDown_93 : decode cX5_shiftDown 93 = .ok (.iload_n 3, 1) := by decide +kernel
theorem dX5_shiftDown_94 : decode cX5_shiftDown 94 = .ok (.lushr, 1) := by decide +kernel
theorem dX5_shiftDown_95 : decode cX5_shiftDown 95 = .ok (.ldc2_w 40, 3) := by decide +kernel
theorem dX5_shiftDown_98 : decode cX5_shiftDown 98 = .ok (.land, 1) := by decide +kernel
theorem dX5_shiftDown_99 : decode cX5_shiftDown 99 = .ok (.l2i, 1) := by decide +kernel
theorem dX5_shiftDown_100 : decode cX5_shiftDown 100 = .ok (.iastore, 1) := by decide +kernel
theorem dX5_shiftDown_101 : decode cX5_shiftDown 101 = .ok (.iinc 4 1, 3) := by decide +kernel
theorem dX5_shiftDown_104 : decode cX5_shiftDown 104 = .ok (.goto (-86), 3) := by decide +kernel
theorem dX5_shiftDown_107 : decode cX5_shiftDown 107 = .ok (.aload_n 0, 1) := by decide +kernel
theorem dX5_shiftDown_108 : decode cX5_shiftDown 108 = .ok (.invokevirtual 37, 3) := by decide +kernel
theorem dX5_shiftDown_111 : decode cX5_shiftDown 111 = .ok (.return_, 1) := by decide +kernel
theorem dX5_divideExactly_0 : decode cX5_divideExactly 0 = .ok (.aload_n 1, 1) := by decide +kernel
theorem dX5_divideExactly_1 : decode cX5_divideExactly 1 = .ok (.getfield 11, 3) := by decide +kernel
theorem dX5_divideExactly_4 : decode cX5_divideExactly 4 = .ok (.iconst 0, 1) := by decide +kernel
theorem dX5_divideExactly_5 : decode cX5_divideExactly 5 = .ok (.iaload, 1) := by decide +kernel
theorem dX5_divideExactly_6 : decode cX5_divideExactly 6 = .ok (.istore_n 2, 1) := by decide +kernel
theorem dX5_divideExactly_7 : decode cX5_divideExactly 7 = .ok (.iload_n 2, 1) := by decide +kernel
theorem dX5_divideExactly_8 : decode cX5_divideExactly 8 = .ok (.istore_n 3, 1) := by decide +kernel
theorem dX5_divideExactly_9 : decode cX5_divideExactly 9 = .ok (.iconst 3, 1) := by decide +kernel
theorem dX5_divideExactly_10 : decode cX5_divideExactly 10 = .ok (.istore 4, 2) := by decide +kernel
theorem dX5_divideExactly_12 : decode cX5_divideExactly 12 = .ok (.iload 4, 2) := by decide +kernel
theorem dX5_divideExactly_14 : decode cX5_divideExactly 14 = .ok (.bipush 30, 2) := by decide +kernel
theorem dX5_divideExactly_16 : decode cX5_divideExactly 16 = .ok (.if_icmp .ge 20, 3) := by decide +kernel
theorem dX5_divideExactly_19 : decode cX5_divideExactly 19 = .ok (.iload_n 3, 1) := by decide +kernel
theorem dX5_divideExactly_20 : decode cX5_divideExactly 20 = .ok (.iconst 2, 1) := by decide +kernel
theorem dX5_divideExactly_21 : decode cX5_divideExactly 21 = .ok (.iload_n 2, 1) := by decide +kernel

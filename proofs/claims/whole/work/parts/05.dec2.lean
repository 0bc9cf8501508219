theorem dX7_scans_197 : decode cX7_scans 197 = .ok (.aload_n 0, 1) := by decide +kernel
theorem dX7_scans_198 : decode cX7_scans 198 = .ok (.getfield 201, 3) := by decide +kernel
theorem dX7_scans_201 : decode cX7_scans 201 = .ok (.imul, 1) := by decide +kernel
theorem dX7_scans_202 : decode cX7_scans 202 = .ok (.aload_n 0, 1) := by decide +kernel
theorem dX7_scans_203 : decode cX7_scans 203 = .ok (.getfield 32, 3) := by decide +kernel
theorem dX7_scans_206 : decode cX7_scans 206 = .ok (.aload_n 0, 1) := by decide +kernel
theorem dX7_scans_207 : decode cX7_scans 207 = .ok (.getfield 152, 3) := by decide +kernel
theorem dX7_scans_210 : decode cX7_scans 210 = .ok (.iaload, 1) := by decide +kernel
theorem dX7_scans_211 : decode cX7_scans 211 = .ok (.iadd, 1) := by decide +kernel
theorem dX7_scans_212 : decode cX7_scans 212 = .ok (.bipush 48, 2) := by decide +kernel
theorem dX7_scans_214 : decode cX7_scans 214 = .ok (.isub, 1) := by decide +kernel
theorem dX7_scans_215 : decode cX7_scans 215 = .ok (.goto 7, 3) := by decide +kernel
theorem dX7_scans_218 : decode cX7_scans 218 = .ok (.aload_n 0, 1) := by decide +kernel
theorem dX7_scans_219 : decode cX7_scans 219 = .ok (.getfield 201, 3) := by decide +kernel
theorem dX7_scans_222 : decode cX7_scans 222 = .ok (.putfield 201, 3) := by decide +kernel
theorem dX7_scans_225 : decode cX7_scans 225 = .ok (.aload_n 0, 1) := by decide +kernel
theorem dX7_scans_226 : decode cX7_scans 226 = .ok (.dup, 1) := by decide +kernel
theorem dX7_scans_227 : decode cX7_scans 227 = .ok (.getfield 152, 3) := by decide +kernel
theorem dX7_scans_230 : decode cX7_scans 230 = .ok (.iconst 1, 1) := by decide +kernel
theorem dX7_scans_231 : decode cX7_scans 231 = .ok (.iadd, 1) := by decide +kernel
theorem dX7_scans_232 : decode cX7_scans 232 = .ok (.putfield 152, 3) := by decide +kernel
theorem dX7_scans_235 : decode cX7_scans 235 = .ok (.goto (-65), 3) := by decide +kernel
theorem dX7_scans_238 : decode cX7_scans 238 = .ok (.aload_n 0, 1) := by decide +kernel
theorem dX7_scans_239 : decode cX7_scans 239 = .ok (.aload_n 0, 1) := by decide +kernel
theorem dX7_scans_240 : decode cX7_scans 240 = .ok (.getfield 152, 3) := by decide +kernel
theorem dX7_scans_243 : decode cX7_scans 243 = .ok (.aload_n 0, 1) := by decide +kernel
theorem dX7_scans_244 : decode cX7_scans 244 = .ok (.getfield 187, 3) := by decide +kernel
theorem dX7_scans_247 : decode cX7_scans 247 = .ok (.isub, 1) := by decide +kernel
theorem dX7_scans_248 : decode cX7_scans 248 = .ok (.iconst 3, 1) := by decide +kernel
theorem dX7_scans_249 : decode cX7_scans 249 = .ok (.if_icmp .le 7, 3) := by decide +kernel
theorem dX7_scans_252 : decode cX7_scans 252 = .ok (.iconst 1, 1) := by decide +kernel
theorem dX7_scans_253 : decode cX7_scans 253 = .ok (.goto 4, 3) := by decide +kernel
theorem dX7_scans_256 : decode cX7_scans 256 = .ok (.iconst 2, 1) := by decide +kernel
theorem dX7_scans_257 : decode cX7_scans 257 = .ok (.putfield 190, 3) := by decide +kernel
theorem dX7_scans_260 : decode cX7_scans 260 = .ok (.return_, 1) := by decide +kernel
theorem dX7_scans_261 : decode cX7_scans 261 = .ok (.aload_n 0, 1) := by decide +kernel
theorem dX7_scans_262 : decode cX7_scans 262 = .ok (.aload_n 0, 1) := by decide +kernel
theorem dX7_scans_263 : decode cX7_scans 263 = .ok (.bipush 59, 2) := by decide +kernel
theorem dX7_scans_265 : decode cX7_scans 265 = .ok (.bipush 59, 2) := by decide +kernel
theorem dX7_scans_267 : decode cX7_scans 267 = .ok (.invokevirtual 183, 3) := by decide +kernel
theorem dX7_scans_270 : decode cX7_scans 270 = .ok (.ifCond .eq 7, 3) := by decide +kernel
theorem dX7_scans_273 : decode cX7_scans 273 = .ok (.iconst 3, 1) := by decide +kernel
theorem dX7_scans_274 : decode cX7_scans 274 = .ok (.goto 4, 3) := by decide +kernel
theorem dX7_scans_277 : decode cX7_scans 277 = .ok (.iconst 1, 1) := by decide +kernel
theorem dX7_scans_278 : decode cX7_scans 278 = .ok (.putfield 190, 3) := by decide +kernel
theorem dX7_scans_281 : decode cX7_scans 281 = .ok (.aload_n 0, 1) := by decide +kernel
theorem dX7_scans_282 : decode cX7_scans 282 = .ok (.dup, 1) := by decide +kernel
theorem dX7_scans_283 : decode cX7_scans 283 = .ok (.getfield 152, 3) := by decide +kernel
theorem dX7_scans_286 : decode cX7_scans 286 = .ok (.iconst 1, 1) := by decide +kernel
theorem dX7_scans_287 : decode cX7_scans 287 = .ok (.iadd, 1) := by decide +kernel
theorem dX7_scans_288 : decode cX7_scans 288 = .ok (.putfield 152, 3) := by decide +kernel
theorem dX7_scans_291 : decode cX7_scans 291 = .ok (.return_, 1) := by decide +kernel
theorem dX7_numbers_0 : decode cX7_numbers 0 = .ok (.iload_n 0, 1) := by decide +kernel
theorem dX7_numbers_1 : decode cX7_numbers 1 = .ok (.tableswitch 55 16 24 #[53, 55, 55, 55, 51, 55, 53, 53, 53], 51) := by decide +kernel
theorem dX7_numbers_52 : decode cX7_numbers 52 = .ok (.iconst 4, 1) := by decide +kernel
theorem dX7_numbers_53 : decode cX7_numbers 53 = .ok (.ireturn, 1) := by decide +kernel
theorem dX7_numbers_54 : decode cX7_numbers 54 = .ok (.iconst 1, 1) := by decide +kernel
theorem dX7_numbers_55 : decode cX7_numbers 55 = .ok (.ireturn, 1) := by decide +kernel
theorem dX7_numbers_56 : decode cX7_numbers 56 = .ok (.iconst 2, 1) := by decide +kernel
theorem dX7_numbers_57 : decode cX7_numbers 57 = .ok (.ireturn, 1) := by decide +kernel
theorem dX7_reads_0 : decode cX7_reads 0 = .ok (.aload_n 0, 1) := by decide +kernel
theorem dX7_reads_1 : decode cX7_reads 1 = .ok (.iconst 0, 1) := by decide +kernel
theorem dX7_reads_2 : decode cX7_reads 2 = .ok (.putfield 152, 3) := by decide +kernel
theorem dX7_reads_5 : decode cX7_reads 5 = .ok (.aload_n 0, 1) := by decide +kernel
theorem dX7_reads_6 : decode cX7_reads 6 = .ok (.iconst 0, 1) := by decide +kernel
theorem dX7_reads_7 : decode cX7_reads 7 = .ok (.putfield 204, 3) := by decide +kernel
theorem dX7_reads_10 : decode cX7_reads 10 = .ok (.aload_n 0, 1) := by decide +kernel
theorem dX7_reads_11 : decode cX7_reads 11 = .ok (.invokevirtual 207, 3) := by decide +kernel
theorem dX7_reads_14 : decode cX7_reads 14 = .ok (.aload_n 0, 1) := by decide +kernel
theorem dX7_reads_15 : decode cX7_reads 15 = .ok (.getfield 190, 3) := by decide +kernel
theorem dX7_reads_18 : decode cX7_reads 18 = .ok (.ifCond .eq 104, 3) := by decide +kernel
theorem dX7_reads_21 : decode cX7_reads 21 = .ok (.aload_n 0, 1) := by decide +kernel
theorem dX7_reads_22 : decode cX7_reads 22 = .ok (.getfield 190, 3) := by decide +kernel
theorem dX7_reads_25 : decode cX7_reads 25 = .ok (.istore_n 1, 1) := by decide +kernel
theorem dX7_reads_26 : decode cX7_reads 26 = .ok (.iload_n 1, 1) := by decide +kernel
theorem dX7_reads_27 : decode cX7_reads 27 = .ok (.bipush 10, 2) := by decide +kernel
theorem dX7_reads_29 : decode cX7_reads 29 = .ok (.if_icmp .ge 5, 3) := by decide +kernel
theorem dX7_reads_32 : decode cX7_reads 32 = .ok (.iconst 0, 1) := by decide +kernel
theorem dX7_reads_33 : decode cX7_reads 33 = .ok (.ireturn, 1) := by decide +kernel
theorem dX7_reads_34 : decode cX7_reads 34 = .ok (.aload_n 0, 1) := by decide +kernel
theorem dX7_reads_35 : decode cX7_reads 35 = .ok (.invokevirtual 207, 3) := by decide +kernel
theorem dX7_reads_38 : decode cX7_reads 38 = .ok (.iconst 0, 1) := by decide +kernel
theorem dX7_reads_39 : decode cX7_reads 39 = .ok (.istore_n 2, 1) := by decide +kernel
theorem dX7_reads_40 : decode cX7_reads 40 = .ok (.iload_n 2, 1) := by decide +kernel
theorem dX7_reads_41 : decode cX7_reads 41 = .ok (.iload_n 1, 1) := by decide +kernel
theorem dX7_reads_42 : decode cX7_reads 42 = .ok (.invokestatic 210, 3) := by decide +kernel
theorem dX7_reads_45 : decode cX7_reads 45 = .ok (.if_icmp .ge 40, 3) := by decide +kernel
theorem dX7_reads_48 : decode cX7_reads 48 = .ok (.aload_n 0, 1) := by decide +kernel
theorem dX7_reads_49 : decode cX7_reads 49 = .ok (.getfield 190, 3) := by decide +kernel
theorem dX7_reads_52 : decode cX7_reads 52 = .ok (.iconst 2, 1) := by decide +kernel
theorem dX7_reads_53 : decode cX7_reads 53 = .ok (.if_icmp .eq 5, 3) := by decide +kernel
theorem dX7_reads_56 : decode cX7_reads 56 = .ok (.iconst 0, 1) := by decide +kernel
theorem dX7_reads_57 : decode cX7_reads 57 = .ok (.ireturn, 1) := by decide +kernel
theorem dX7_reads_58 : decode cX7_reads 58 = .ok (.aload_n 0, 1) := by decide +kernel
theorem dX7_reads_59 : decode cX7_reads 59 = .ok (.getfield 38, 3) := by decide +kernel
theorem dX7_reads_62 : decode cX7_reads 62 = .ok (.iconst 4, 1) := by decide +kernel
theorem dX7_reads_63 : decode cX7_reads 63 = .ok (.aload_n 0, 1) := by decide +kernel
theorem dX7_reads_64 : decode cX7_reads 64 = .ok (.getfield 204, 3) := by decide +kernel
theorem dX7_reads_67 : decode cX7_reads 67 = .ok (.imul, 1) := by decide +kernel
theorem dX7_reads_68 : decode cX7_reads 68 = .ok (.iload_n 2, 1) := by decide +kernel
theorem dX7_reads_69 : decode cX7_reads 69 = .ok (.iadd, 1) := by decide +kernel
theorem dX7_reads_70 : decode cX7_reads 70 = .ok (.aload_n 0, 1) := by decide +kernel
theorem dX7_reads_71 : decode cX7_reads 71 = .ok (.getfield 201, 3) := by decide +kernel
theorem dX7_reads_74 : decode cX7_reads 74 = .ok (.iastore, 1) := by decide +kernel
theorem dX7_reads_75 : decode cX7_reads 75 = .ok (.aload_n 0, 1) := by decide +kernel
theorem dX7_reads_76 : decode cX7_reads 76 = .ok (.invokevirtual 207, 3) := by decide +kernel
theorem dX7_reads_79 : decode cX7_reads 79 = .ok (.iinc 2 1, 3) := by decide +kernel
theorem dX7_reads_82 : decode cX7_reads 82 = .ok (.goto (-42), 3) := by decide +kernel
theorem dX7_reads_85 : decode cX7_reads 85 = .ok (.aload_n 0, 1) := by decide +kernel
theorem dX7_reads_86 : decode cX7_reads 86 = .ok (.getfield 190, 3) := by decide +kernel
theorem dX7_reads_89 : decode cX7_reads 89 = .ok (.iconst 3, 1) := by decide +kernel
theorem dX7_reads_90 : decode cX7_reads 90 = .ok (.if_icmp .eq 5, 3) := by decide +kernel
theorem dX7_reads_93 : decode cX7_reads 93 = .ok (.iconst 0, 1) := by decide +kernel
theorem dX7_reads_94 : decode cX7_reads 94 = .ok (.ireturn, 1) := by decide +kernel
theorem dX7_reads_95 : decode cX7_reads 95 = .ok (.aload_n 0, 1) := by decide +kernel
theorem dX7_reads_96 : decode cX7_reads 96 = .ok (.getfield 35, 3) := by decide +kernel
theorem dX7_reads_99 : decode cX7_reads 99 = .ok (.aload_n 0, 1) := by decide +kernel
theorem dX7_reads_100 : decode cX7_reads 100 = .ok (.getfield 204, 3) := by decide +kernel
theorem dX7_reads_103 : decode cX7_reads 103 = .ok (.iload_n 1, 1) := by decide +kernel
theorem dX7_reads_104 : decode cX7_reads 104 = .ok (.iastore, 1) := by decide +kernel
theorem dX7_reads_105 : decode cX7_reads 105 = .ok (.aload_n 0, 1) := by decide +kernel
theorem dX7_reads_106 : decode cX7_reads 106 = .ok (.dup, 1) := by decide +kernel
theorem dX7_reads_107 : decode cX7_reads 107 = .ok (.getfield 204, 3) := by decide +kernel
theorem dX7_reads_110 : decode cX7_reads 110 = .ok (.iconst 1, 1) := by decide +kernel
theorem dX7_reads_111 : decode cX7_reads 111 = .ok (.iadd, 1) := by decide +kernel
theorem dX7_reads_112 : decode cX7_reads 112 = .ok (.putfield 204, 3) := by decide +kernel
theorem dX7_reads_115 : decode cX7_reads 115 = .ok (.aload_n 0, 1) := by decide +kernel
theorem dX7_reads_116 : decode cX7_reads 116 = .ok (.invokevirtual 207, 3) := by decide +kernel
theorem dX7_reads_119 : decode cX7_reads 119 = .ok (.goto (-105), 3) := by decide +kernel
theorem dX7_reads_122 : decode cX7_reads 122 = .ok (.iconst 1, 1) := by decide +kernel
theorem dX7_reads_123 : decode cX7_reads 123 = .ok (.ireturn, 1) := by decide +kernel
theorem dX7_tellsItem_0 : decode cX7_tellsItem 0 = .ok (.aload_n 0, 1) := by decide +kernel
theorem dX7_tellsItem_1 : decode cX7_tellsItem 1 = .ok (.getfield 38, 3) := by decide +kernel
theorem dX7_tellsItem_4 : decode cX7_tellsItem 4 = .ok (.iconst 4, 1) := by decide +kernel
theorem dX7_tellsItem_5 : decode cX7_tellsItem 5 = .ok (.iload_n 1, 1) := by decide +kernel
theorem dX7_tellsItem_6 : decode cX7_tellsItem 6 = .ok (.imul, 1) := by decide +kernel
theorem dX7_tellsItem_7 : decode cX7_tellsItem 7 = .ok (.iaload, 1) := by decide +kernel
theorem dX7_tellsItem_8 : decode cX7_tellsItem 8 = .ok (.istore_n 2, 1) := by decide +kernel
theorem dX7_tellsItem_9 : decode cX7_tellsItem 9 = .ok (.aload_n 0, 1) := by decide +kernel
theorem dX7_tellsItem_10 : decode cX7_tellsItem 10 = .ok (.getfield 38, 3) := by decide +kernel
theorem dX7_tellsItem_13 : decode cX7_tellsItem 13 = .ok (.iconst 4, 1) := by decide +kernel
theorem dX7_tellsItem_14 : decode cX7_tellsItem 14 = .ok (.iload_n 1, 1) := by decide +kernel
theorem dX7_tellsItem_15 : decode cX7_tellsItem 15 = .ok (.imul, 1) := by decide +kernel
theorem dX7_tellsItem_16 : decode cX7_tellsItem 16 = .ok (.iconst 1, 1) := by decide +kernel
theorem dX7_tellsItem_17 : decode cX7_tellsItem 17 = .ok (.iadd, 1) := by decide +kernel
theorem dX7_tellsItem_18 : decode cX7_tellsItem 18 = .ok (.iaload, 1) := by decide +kernel
theorem dX7_tellsItem_19 : decode cX7_tellsItem 19 = .ok (.istore_n 3, 1) := by decide +kernel
theorem dX7_tellsItem_20 : decode cX7_tellsItem 20 = .ok (.aload_n 0, 1) := by decide +kernel
theorem dX7_tellsItem_21 : decode cX7_tellsItem 21 = .ok (.getfield 35, 3) := by decide +kernel
theorem dX7_tellsItem_24 : decode cX7_tellsItem 24 = .ok (.iload_n 1, 1) := by decide +kernel
theorem dX7_tellsItem_25 : decode cX7_tellsItem 25 = .ok (.iaload, 1) := by decide +kernel
theorem dX7_tellsItem_26 : decode cX7_tellsItem 26 = .ok (.tableswitch 175 20 26 #[42, 77, 97, 112, 127, 143, 158], 42) := by decide +kernel
theorem dX7_tellsItem_68 : decode cX7_tellsItem 68 = .ok (.aload_n 0, 1) := by decide +kernel
theorem dX7_tellsItem_69 : decode cX7_tellsItem 69 = .ok (.iload_n 2, 1) := by decide +kernel
theorem dX7_tellsItem_70 : decode cX7_tellsItem 70 = .ok (.iload_n 3, 1) := by decide +kernel
theorem dX7_tellsItem_71 : decode cX7_tellsItem 71 = .ok (.aload_n 0, 1) := by decide +kernel
theorem dX7_tellsItem_72 : decode cX7_tellsItem 72 = .ok (.getfield 38, 3) := by decide +kernel
theorem dX7_tellsItem_75 : decode cX7_tellsItem 75 = .ok (.iconst 4, 1) := by decide +kernel
theorem dX7_tellsItem_76 : decode cX7_tellsItem 76 = .ok (.iload_n 1, 1) := by decide +kernel
theorem dX7_tellsItem_77 : decode cX7_tellsItem 77 = .ok (.imul, 1) := by decide +kernel
theorem dX7_tellsItem_78 : decode cX7_tellsItem 78 = .ok (.iconst 2, 1) := by decide +kernel
theorem dX7_tellsItem_79 : decode cX7_tellsItem 79 = .ok (.iadd, 1) := by decide +kernel
theorem dX7_tellsItem_80 : decode cX7_tellsItem 80 = .ok (.iaload, 1) := by decide +kernel
theorem dX7_tellsItem_81 : decode cX7_tellsItem 81 = .ok (.aload_n 0, 1) := by decide +kernel
theorem dX7_tellsItem_82 : decode cX7_tellsItem 82 = .ok (.getfield 38, 3) := by decide +kernel
theorem dX7_tellsItem_85 : decode cX7_tellsItem 85 = .ok (.iconst 4, 1) := by decide +kernel
theorem dX7_tellsItem_86 : decode cX7_tellsItem 86 = .ok (.iload_n 1, 1) := by decide +kernel
theorem dX7_tellsItem_87 : decode cX7_tellsItem 87 = .ok (.imul, 1) := by decide +kernel
theorem dX7_tellsItem_88 : decode cX7_tellsItem 88 = .ok (.iconst 3, 1) := by decide +kernel
theorem dX7_tellsItem_89 : decode cX7_tellsItem 89 = .ok (.iadd, 1) := by decide +kernel
theorem dX7_tellsItem_90 : decode cX7_tellsItem 90 = .ok (.iaload, 1) := by decide +kernel
theorem dX7_tellsItem_91 : decode cX7_tellsItem 91 = .ok (.invokevirtual 214, 3) := by decide +kernel
theorem dX7_tellsItem_94 : decode cX7_tellsItem 94 = .ok (.ifCond .lt 7, 3) := by decide +kernel
theorem dX7_tellsItem_97 : decode cX7_tellsItem 97 = .ok (.iconst 1, 1) := by decide +kernel
theorem dX7_tellsItem_98 : decode cX7_tellsItem 98 = .ok (.goto 4, 3) := by decide +kernel
theorem dX7_tellsItem_101 : decode cX7_tellsItem 101 = .ok (.iconst 0, 1) := by decide +kernel
theorem dX7_tellsItem_102 : decode cX7_tellsItem 102 = .ok (.ireturn, 1) := by decide +kernel
theorem dX7_tellsItem_103 : decode cX7_tellsItem 103 = .ok (.iload_n 2, 1) := by decide +kernel
theorem dX7_tellsItem_104 : decode cX7_tellsItem 104 = .ok (.iconst 4, 1) := by decide +kernel
theorem dX7_tellsItem_105 : decode cX7_tellsItem 105 = .ok (.if_icmp .ge 16, 3) := by decide +kernel
theorem dX7_tellsItem_108 : decode cX7_tellsItem 108 = .ok (.aload_n 0, 1) := by decide +kernel
theorem dX7_tellsItem_109 : decode cX7_tellsItem 109 = .ok (.iload_n 2, 1) := by decide +kernel
theorem dX7_tellsItem_110 : decode cX7_tellsItem 110 = .ok (.iload_n 3, 1) := by decide +kernel
theorem dX7_tellsItem_111 : decode cX7_tellsItem 111 = .ok (.invokevirtual 218, 3) := by decide +kernel
theorem dX7_tellsItem_114 : decode cX7_tellsItem 114 = .ok (.ifCond .lt 7, 3) := by decide +kernel
theorem dX7_tellsItem_117 : decode cX7_tellsItem 117 = .ok (.iconst 1, 1) := by decide +kernel
theorem dX7_tellsItem_118 : decode cX7_tellsItem 118 = .ok (.goto 4, 3) := by decide +kernel
theorem dX7_tellsItem_121 : decode cX7_tellsItem 121 = .ok (.iconst 0, 1) := by decide +kernel
theorem dX7_tellsItem_122 : decode cX7_tellsItem 122 = .ok (.ireturn, 1) := by decide +kernel
theorem dX7_tellsItem_123 : decode cX7_tellsItem 123 = .ok (.aload_n 0, 1) := by decide +kernel
theorem dX7_tellsItem_124 : decode cX7_tellsItem 124 = .ok (.iconst 4, 1) := by decide +kernel
theorem dX7_tellsItem_125 : decode cX7_tellsItem 125 = .ok (.iload_n 2, 1) := by decide +kernel
theorem dX7_tellsItem_126 : decode cX7_tellsItem 126 = .ok (.invokevirtual 218, 3) := by decide +kernel
theorem dX7_tellsItem_129 : decode cX7_tellsItem 129 = .ok (.ifCond .lt 7, 3) := by decide +kernel
theorem dX7_tellsItem_132 : decode cX7_tellsItem 132 = .ok (.iconst 1, 1) := by decide +kernel
theorem dX7_tellsItem_133 : decode cX7_tellsItem 133 = .ok (.goto 4, 3) := by decide +kernel
theorem dX7_tellsItem_136 : decode cX7_tellsItem 136 = .ok (.iconst 0, 1) := by decide +kernel
theorem dX7_tellsItem_137 : decode cX7_tellsItem 137 = .ok (.ireturn, 1) := by decide +kernel
theorem dX7_tellsItem_138 : decode cX7_tellsItem 138 = .ok (.aload_n 0, 1) := by decide +kernel
theorem dX7_tellsItem_139 : decode cX7_tellsItem 139 = .ok (.iconst 5, 1) := by decide +kernel
theorem dX7_tellsItem_140 : decode cX7_tellsItem 140 = .ok (.iload_n 2, 1) := by decide +kernel
theorem dX7_tellsItem_141 : decode cX7_tellsItem 141 = .ok (.invokevirtual 218, 3) := by decide +kernel
theorem dX7_tellsItem_144 : decode cX7_tellsItem 144 = .ok (.ifCond .lt 7, 3) := by decide +kernel
theorem dX7_tellsItem_147 : decode cX7_tellsItem 147 = .ok (.iconst 1, 1) := by decide +kernel
theorem dX7_tellsItem_148 : decode cX7_tellsItem 148 = .ok (.goto 4, 3) := by decide +kernel
theorem dX7_tellsItem_151 : decode cX7_tellsItem 151 = .ok (.iconst 0, 1) := by decide +kernel
theorem dX7_tellsItem_152 : decode cX7_tellsItem 152 = .ok (.ireturn, 1) := by decide +kernel
theorem dX7_tellsItem_153 : decode cX7_tellsItem 153 = .ok (.aload_n 0, 1) := by decide +kernel
theorem dX7_tellsItem_154 : decode cX7_tellsItem 154 = .ok (.bipush 6, 2) := by decide +kernel
theorem dX7_tellsItem_156 : decode cX7_tellsItem 156 = .ok (.iload_n 2, 1) := by decide +kernel
theorem dX7_tellsItem_157 : decode cX7_tellsItem 157 = .ok (.invokevirtual 218, 3) := by decide +kernel
theorem dX7_tellsItem_160 : decode cX7_tellsItem 160 = .ok (.ifCond .lt 7, 3) := by decide +kernel
theorem dX7_tellsItem_163 : decode cX7_tellsItem 163 = .ok (.iconst 1, 1) := by decide +kernel
theorem dX7_tellsItem_164 : decode cX7_tellsItem 164 = .ok (.goto 4, 3) := by decide +kernel
theorem dX7_tellsItem_167 : decode cX7_tellsItem 167 = .ok (.iconst 0, 1) := by decide +kernel
theorem dX7_tellsItem_168 : decode cX7_tellsItem 168 = .ok (.ireturn, 1) := by decide +kernel
theorem dX7_tellsItem_169 : decode cX7_tellsItem 169 = .ok (.aload_n 0, 1) := by decide +kernel
theorem dX7_tellsItem_170 : decode cX7_tellsItem 170 = .ok (.iload_n 2, 1) := by decide +kernel
theorem dX7_tellsItem_171 : decode cX7_tellsItem 171 = .ok (.iload_n 3, 1) := by decide +kernel
theorem dX7_tellsItem_172 : decode cX7_tellsItem 172 = .ok (.invokevirtual 221, 3) := by decide +kernel
theorem dX7_tellsItem_175 : decode cX7_tellsItem 175 = .ok (.ifCond .lt 7, 3) := by decide +kernel
theorem dX7_tellsItem_178 : decode cX7_tellsItem 178 = .ok (.iconst 1, 1) := by decide +kernel
theorem dX7_tellsItem_179 : decode cX7_tellsItem 179 = .ok (.goto 4, 3) := by decide +kernel
theorem dX7_tellsItem_182 : decode cX7_tellsItem 182 = .ok (.iconst 0, 1) := by decide +kernel
theorem dX7_tellsItem_183 : decode cX7_tellsItem 183 = .ok (.ireturn, 1) := by decide +kernel
theorem dX7_tellsItem_184 : decode cX7_tellsItem 184 = .ok (.aload_n 0, 1) := by decide +kernel
theorem dX7_tellsItem_185 : decode cX7_tellsItem 185 = .ok (.iload_n 2, 1) := by decide +kernel
theorem dX7_tellsItem_186 : decode cX7_tellsItem 186 = .ok (.iload_n 3, 1) := by decide +kernel
theorem dX7_tellsItem_187 : decode cX7_tellsItem 187 = .ok (.invokevirtual 224, 3) := by decide +kernel
theorem dX7_tellsItem_190 : decode cX7_tellsItem 190 = .ok (.bipush (-10), 2) := by decide +kernel
theorem dX7_tellsItem_192 : decode cX7_tellsItem 192 = .ok (.if_icmp .eq 7, 3) := by decide +kernel
theorem dX7_tellsItem_195 : decode cX7_tellsItem 195 = .ok (.iconst 1, 1) := by decide +kernel
theorem dX7_tellsItem_196 : decode cX7_tellsItem 196 = .ok (.goto 4, 3) := by decide +kernel
theorem dX7_tellsItem_199 : decode cX7_tellsItem 199 = .ok (.iconst 0, 1) := by decide +kernel
theorem dX7_tellsItem_200 : decode cX7_tellsItem 200 = .ok (.ireturn, 1) := by decide +kernel
theorem dX7_tellsItem_201 : decode cX7_tellsItem 201 = .ok (.aload_n 0, 1) := by decide +kernel
theorem dX7_tellsItem_202 : decode cX7_tellsItem 202 = .ok (.iload_n 2, 1) := by decide +kernel
theorem dX7_tellsItem_203 : decode cX7_tellsItem 203 = .ok (.aload_n 0, 1) := by decide +kernel
theorem dX7_tellsItem_204 : decode cX7_tellsItem 204 = .ok (.getfield 35, 3) := by decide +kernel
theorem dX7_tellsItem_207 : decode cX7_tellsItem 207 = .ok (.iload_n 1, 1) := by decide +kernel
theorem dX7_tellsItem_208 : decode cX7_tellsItem 208 = .ok (.iaload, 1) := by decide +kernel
theorem dX7_tellsItem_209 : decode cX7_tellsItem 209 = .ok (.bipush 10, 2) := by decide +kernel
theorem dX7_tellsItem_211 : decode cX7_tellsItem 211 = .ok (.isub, 1) := by decide +kernel
theorem dX7_tellsItem_212 : decode cX7_tellsItem 212 = .ok (.aload_n 0, 1) := by decide +kernel
theorem dX7_tellsItem_213 : decode cX7_tellsItem 213 = .ok (.getfield 35, 3) := by decide +kernel
theorem dX7_tellsItem_216 : decode cX7_tellsItem 216 = .ok (.iload_n 1, 1) := by decide +kernel
theorem dX7_tellsItem_217 : decode cX7_tellsItem 217 = .ok (.iaload, 1) := by decide +kernel
theorem dX7_tellsItem_218 : decode cX7_tellsItem 218 = .ok (.bipush 16, 2) := by decide +kernel
theorem dX7_tellsItem_220 : decode cX7_tellsItem 220 = .ok (.if_icmp .ne 7, 3) := by decide +kernel
theorem dX7_tellsItem_223 : decode cX7_tellsItem 223 = .ok (.iconst 0, 1) := by decide +kernel
theorem dX7_tellsItem_224 : decode cX7_tellsItem 224 = .ok (.goto 4, 3) := by decide +kernel
theorem dX7_tellsItem_227 : decode cX7_tellsItem 227 = .ok (.iload_n 3, 1) := by decide +kernel
theorem dX7_tellsItem_228 : decode cX7_tellsItem 228 = .ok (.invokevirtual 227, 3) := by decide +kernel
theorem dX7_tellsItem_231 : decode cX7_tellsItem 231 = .ok (.ifCond .lt 7, 3) := by decide +kernel
theorem dX7_tellsItem_234 : decode cX7_tellsItem 234 = .ok (.iconst 1, 1) := by decide +kernel
theorem dX7_tellsItem_235 : decode cX7_tellsItem 235 = .ok (.goto 4, 3) := by decide +kernel
theorem dX7_tellsItem_238 : decode cX7_tellsItem 238 = .ok (.iconst 0, 1) := by decide +kernel
theorem dX7_tellsItem_239 : decode cX7_tellsItem 239 = .ok (.ireturn, 1) := by decide +kernel
theorem dX7_statue_0 : decode cX7_statue 0 = .ok (.aload_n 0, 1) := by decide +kernel
theorem dX7_statue_1 : decode cX7_statue 1 = .ok (.invokevirtual 231, 3) := by decide +kernel
theorem dX7_statue_4 : decode cX7_statue 4 = .ok (.ifCond .ne 11, 3) := by decide +kernel
theorem dX7_statue_7 : decode cX7_statue 7 = .ok (.bipush (-10), 2) := by decide +kernel
theorem dX7_statue_9 : decode cX7_statue 9 = .ok (.aload_n 0, 1) := by decide +kernel
theorem dX7_statue_10 : decode cX7_statue 10 = .ok (.getfield 187, 3) := by decide +kernel
theorem dX7_statue_13 : decode cX7_statue 13 = .ok (.isub, 1) := by decide +kernel
theorem dX7_statue_14 : decode cX7_statue 14 = .ok (.ireturn, 1) := by decide +kernel
theorem dX7_statue_15 : decode cX7_statue 15 = .ok (.iconst 0, 1) := by decide +kernel
theorem dX7_statue_16 : decode cX7_statue 16 = .ok (.istore_n 1, 1) := by decide +kernel
theorem dX7_statue_17 : decode cX7_statue 17 = .ok (.iload_n 1, 1) := by decide +kernel
theorem dX7_statue_18 : decode cX7_statue 18 = .ok (.sipush 210, 3) := by decide +kernel
theorem dX7_statue_21 : decode cX7_statue 21 = .ok (.if_icmp .ge 21, 3) := by decide +kernel
theorem dX7_statue_24 : decode cX7_statue 24 = .ok (.aload_n 0, 1) := by decide +kernel
theorem dX7_statue_25 : decode cX7_statue 25 = .ok (.getfield 20, 3) := by decide +kernel
theorem dX7_statue_28 : decode cX7_statue 28 = .ok (.iload_n 1, 1) := by decide +kernel
theorem dX7_statue_29 : decode cX7_statue 29 = .ok (.aload_n 0, 1) := by decide +kernel
theorem dX7_statue_30 : decode cX7_statue 30 = .ok (.getfield 7, 3) := by decide +kernel
theorem dX7_statue_33 : decode cX7_statue 33 = .ok (.iload_n 1, 1) := by decide +kernel
theorem dX7_statue_34 : decode cX7_statue 34 = .ok (.iaload, 1) := by decide +kernel
theorem dX7_statue_35 : decode cX7_statue 35 = .ok (.iastore, 1) := by decide +kernel
theorem dX7_statue_36 : decode cX7_statue 36 = .ok (.iinc 1 1, 3) := by decide +kernel
theorem dX7_statue_39 : decode cX7_statue 39 = .ok (.goto (-22), 3) := by decide +kernel
theorem dX7_statue_42 : decode cX7_statue 42 = .ok (.aload_n 0, 1) := by decide +kernel
theorem dX7_statue_43 : decode cX7_statue 43 = .ok (.invokevirtual 53, 3) := by decide +kernel
theorem dX7_statue_46 : decode cX7_statue 46 = .ok (.aload_n 0, 1) := by decide +kernel
theorem dX7_statue_47 : decode cX7_statue 47 = .ok (.iconst 1, 1) := by decide +kernel
theorem dX7_statue_48 : decode cX7_statue 48 = .ok (.putfield 60, 3) := by decide +kernel
theorem dX7_statue_51 : decode cX7_statue 51 = .ok (.iconst 0, 1) := by decide +kernel
theorem dX7_statue_52 : decode cX7_statue 52 = .ok (.istore_n 1, 1) := by decide +kernel
theorem dX7_statue_53 : decode cX7_statue 53 = .ok (.iload_n 1, 1) := by decide +kernel
theorem dX7_statue_54 : decode cX7_statue 54 = .ok (.aload_n 0, 1) := by decide +kernel
theorem dX7_statue_55 : decode cX7_statue 55 = .ok (.getfield 204, 3) := by decide +kernel
theorem dX7_statue_58 : decode cX7_statue 58 = .ok (.if_icmp .ge 17, 3) := by decide +kernel
theorem dX7_statue_61 : decode cX7_statue 61 = .ok (.aload_n 0, 1) := by decide +kernel
theorem dX7_statue_62 : decode cX7_statue 62 = .ok (.iload_n 1, 1) := by decide +kernel
theorem dX7_statue_63 : decode cX7_statue 63 = .ok (.invokevirtual 235, 3) := by decide +kernel
theorem dX7_statue_66 : decode cX7_statue 66 = .ok (.ifCond .eq 9, 3) := by decide +kernel
theorem dX7_statue_69 : decode cX7_statue 69 = .ok (.iinc 1 1, 3) := by decide +kernel
theorem dX7_statue_72 : decode cX7_statue 72 = .ok (.goto (-19), 3) := by decide +kernel
theorem dX7_statue_75 : decode cX7_statue 75 = .ok (.aload_n 0, 1) := by decide +kernel
theorem dX7_statue_76 : decode cX7_statue 76 = .ok (.iconst 0, 1) := by decide +kernel
theorem dX7_statue_77 : decode cX7_statue 77 = .ok (.putfield 60, 3) := by decide +kernel
theorem dX7_statue_80 : decode cX7_statue 80 = .ok (.iload_n 1, 1) := by decide +kernel
theorem dX7_statue_81 : decode cX7_statue 81 = .ok (.aload_n 0, 1) := by decide +kernel
theorem dX7_statue_82 : decode cX7_statue 82 = .ok (.getfield 204, 3) := by decide +kernel
theorem dX7_statue_85 : decode cX7_statue 85 = .ok (.if_icmp .ne 8, 3) := by decide +kernel
theorem dX7_statue_88 : decode cX7_statue 88 = .ok (.aload_n 0, 1) := by decide +kernel
theorem dX7_statue_89 : decode cX7_statue 89 = .ok (.getfield 204, 3) := by decide +kernel
theorem dX7_statue_92 : decode cX7_statue 92 = .ok (.ireturn, 1) := by decide +kernel
theorem dX7_statue_93 : decode cX7_statue 93 = .ok (.iconst 0, 1) := by decide +kernel
theorem dX7_statue_94 : decode cX7_statue 94 = .ok (.istore_n 2, 1) := by decide +kernel
theorem dX7_statue_95 : decode cX7_statue 95 = .ok (.iload_n 2, 1) := by decide +kernel
theorem dX7_statue_96 : decode cX7_statue 96 = .ok (.sipush 210, 3) := by decide +kernel
theorem dX7_statue_99 : decode cX7_statue 99 = .ok (.if_icmp .ge 21, 3) := by decide +kernel
theorem dX7_statue_102 : decode cX7_statue 102 = .ok (.aload_n 0, 1) := by decide +kernel
theorem dX7_statue_103 : decode cX7_statue 103 = .ok (.getfield 7, 3) := by decide +kernel
theorem dX7_statue_106 : decode cX7_statue 106 = .ok (.iload_n 2, 1) := by decide +kernel
theorem dX7_statue_107 : decode cX7_statue 107 = .ok (.aload_n 0, 1) := by decide +kernel
theorem dX7_statue_108 : decode cX7_statue 108 = .ok (.getfield 20, 3) := by decide +kernel
theorem dX7_statue_111 : decode cX7_statue 111 = .ok (.iload_n 2, 1) := by decide +kernel
theorem dX7_statue_112 : decode cX7_statue 112 = .ok (.iaload, 1) := by decide +kernel
theorem dX7_statue_113 : decode cX7_statue 113 = .ok (.iastore, 1) := by decide +kernel
theorem dX7_statue_114 : decode cX7_statue 114 = .ok (.iinc 2 1, 3) := by decide +kernel
theorem dX7_statue_117 : decode cX7_statue 117 = .ok (.goto (-22), 3) := by decide +kernel
theorem dX7_statue_120 : decode cX7_statue 120 = .ok (.sipush (-1000), 3) := by decide +kernel
theorem dX7_statue_123 : decode cX7_statue 123 = .ok (.iload_n 1, 1) := by decide +kernel
theorem dX7_statue_124 : decode cX7_statue 124 = .ok (.isub, 1) := by decide +kernel
theorem dX7_statue_125 : decode cX7_statue 125 = .ok (.ireturn, 1) := by decide +kernel
theorem dX7_groundOf_0 : decode cX7_groundOf 0 = .ok (.iload_n 0, 1) := by decide +kernel
theorem dX7_groundOf_1 : decode cX7_groundOf 1 = .ok (.ifCond .ne 7, 3) := by decide +kernel
theorem dX7_groundOf_4 : decode cX7_groundOf 4 = .ok (.iconst (-1), 1) := by decide +kernel
theorem dX7_groundOf_5 : decode cX7_groundOf 5 = .ok (.goto 19, 3) := by decide +kernel
theorem dX7_groundOf_8 : decode cX7_groundOf 8 = .ok (.iload_n 0, 1) := by decide +kernel
theorem dX7_groundOf_9 : decode cX7_groundOf 9 = .ok (.iconst 5, 1) := by decide +kernel
theorem dX7_groundOf_10 : decode cX7_groundOf 10 = .ok (.if_icmp .ge 9, 3) := by decide +kernel
theorem dX7_groundOf_13 : decode cX7_groundOf 13 = .ok (.iload_n 0, 1) := by decide +kernel
theorem dX7_groundOf_14 : decode cX7_groundOf 14 = .ok (.iconst 1, 1) := by decide +kernel
theorem dX7_groundOf_15 : decode cX7_groundOf 15 = .ok (.isub, 1) := by decide +kernel
theorem dX7_groundOf_16 : decode cX7_groundOf 16 = .ok (.goto 8, 3) := by decide +kernel
theorem dX7_groundOf_19 : decode cX7_groundOf 19 = .ok (.iload_n 0, 1) := by decide +kernel
theorem dX7_groundOf_20 : decode cX7_groundOf 20 = .ok (.iconst 5, 1) := by decide +kernel
theorem dX7_groundOf_21 : decode cX7_groundOf 21 = .ok (.isub, 1) := by decide +kernel
theorem dX7_groundOf_22 : decode cX7_groundOf 22 = .ok (.iconst 4, 1) := by decide +kernel
theorem dX7_groundOf_23 : decode cX7_groundOf 23 = .ok (.idiv, 1) := by decide +kernel
theorem dX7_groundOf_24 : decode cX7_groundOf 24 = .ok (.ireturn, 1) := by decide +kernel
theorem dX7_overOf_0 : decode cX7_overOf 0 = .ok (.iload_n 0, 1) := by decide +kernel
theorem dX7_overOf_1 : decode cX7_overOf 1 = .ok (.iconst 5, 1) := by decide +kernel
theorem dX7_overOf_2 : decode cX7_overOf 2 = .ok (.if_icmp .ge 7, 3) := by decide +kernel
theorem dX7_overOf_5 : decode cX7_overOf 5 = .ok (.iconst (-1), 1) := by decide +kernel
theorem dX7_overOf_6 : decode cX7_overOf 6 = .ok (.goto 8, 3) := by decide +kernel
theorem dX7_overOf_9 : decode cX7_overOf 9 = .ok (.iload_n 0, 1) := by decide +kernel
theorem dX7_overOf_10 : decode cX7_overOf 10 = .ok (.iconst 5, 1) := by decide +kernel
theorem dX7_overOf_11 : decode cX7_overOf 11 = .ok (.isub, 1) := by decide +kernel
theorem dX7_overOf_12 : decode cX7_overOf 12 = .ok (.iconst 4, 1) := by decide +kernel
theorem dX7_overOf_13 : decode cX7_overOf 13 = .ok (.irem, 1) := by decide +kernel
theorem dX7_overOf_14 : decode cX7_overOf 14 = .ok (.ireturn, 1) := by decide +kernel
theorem dX7_isStack_0 : decode cX7_isStack 0 = .ok (.iload_n 1, 1) := by decide +kernel
theorem dX7_isStack_1 : decode cX7_isStack 1 = .ok (.i2l, 1) := by decide +kernel
theorem dX7_isStack_2 : decode cX7_isStack 2 = .ok (.lconst 0, 1) := by decide +kernel
theorem dX7_isStack_3 : decode cX7_isStack 3 = .ok (.ldc2_w 124, 3) := by decide +kernel
theorem dX7_isStack_6 : decode cX7_isStack 6 = .ok (.invokestatic 102, 3) := by decide +kernel
theorem dX7_isStack_9 : decode cX7_isStack 9 = .ok (.ifCond .eq 33, 3) := by decide +kernel
theorem dX7_isStack_12 : decode cX7_isStack 12 = .ok (.iload_n 1, 1) := by decide +kernel
theorem dX7_isStack_13 : decode cX7_isStack 13 = .ok (.invokestatic 238, 3) := by decide +kernel
theorem dX7_isStack_16 : decode cX7_isStack 16 = .ok (.aload_n 0, 1) := by decide +kernel
theorem dX7_isStack_17 : decode cX7_isStack 17 = .ok (.getfield 7, 3) := by decide +kernel
theorem dX7_isStack_20 : decode cX7_isStack 20 = .ok (.iconst 0, 1) := by decide +kernel
theorem dX7_isStack_21 : decode cX7_isStack 21 = .ok (.iaload, 1) := by decide +kernel
theorem dX7_isStack_22 : decode cX7_isStack 22 = .ok (.if_icmp .ge 20, 3) := by decide +kernel
theorem dX7_isStack_25 : decode cX7_isStack 25 = .ok (.iload_n 1, 1) := by decide +kernel
theorem dX7_isStack_26 : decode cX7_isStack 26 = .ok (.invokestatic 241, 3) := by decide +kernel
theorem dX7_isStack_29 : decode cX7_isStack 29 = .ok (.aload_n 0, 1) := by decide +kernel
theorem dX7_isStack_30 : decode cX7_isStack 30 = .ok (.getfield 7, 3) := by decide +kernel
theorem dX7_isStack_33 : decode cX7_isStack 33 = .ok (.iconst 0, 1) := by decide +kernel
theorem dX7_isStack_34 : decode cX7_isStack 34 = .ok (.iaload, 1) := by decide +kernel
theorem dX7_isStack_35 : decode cX7_isStack 35 = .ok (.if_icmp .ge 7, 3) := by decide +kernel
theorem dX7_isStack_38 : decode cX7_isStack 38 = .ok (.iconst 1, 1) := by decide +kernel
theorem dX7_isStack_39 : decode cX7_isStack 39 = .ok (.goto 4, 3) := by decide +kernel
theorem dX7_isStack_42 : decode cX7_isStack 42 = .ok (.iconst 0, 1) := by decide +kernel
theorem dX7_isStack_43 : decode cX7_isStack 43 = .ok (.ireturn, 1) := by decide +kernel
theorem dX7_wearOf_0 : decode cX7_wearOf 0 = .ok (.aload_n 0, 1) := by decide +kernel
theorem dX7_wearOf_1 : decode cX7_wearOf 1 = .ok (.getfield 7, 3) := by decide +kernel
theorem dX7_wearOf_4 : decode cX7_wearOf 4 = .ok (.bipush 6, 2) := by decide +kernel
theorem dX7_wearOf_6 : decode cX7_wearOf 6 = .ok (.iaload, 1) := by decide +kernel
theorem dX7_wearOf_7 : decode cX7_wearOf 7 = .ok (.aload_n 0, 1) := by decide +kernel
theorem dX7_wearOf_8 : decode cX7_wearOf 8 = .ok (.getfield 7, 3) := by decide +kernel
theorem dX7_wearOf_11 : decode cX7_wearOf 11 = .ok (.iconst 2, 1) := by decide +kernel
theorem dX7_wearOf_12 : decode cX7_wearOf 12 = .ok (.iload_n 1, 1) := by decide +kernel
theorem dX7_wearOf_13 : decode cX7_wearOf 13 = .ok (.bipush 8, 2) := by decide +kernel
theorem dX7_wearOf_15 : decode cX7_wearOf 15 = .ok (.irem, 1) := by decide +kernel
theorem dX7_wearOf_16 : decode cX7_wearOf 16 = .ok (.iconst 2, 1) := by decide +kernel
theorem dX7_wearOf_17 : decode cX7_wearOf 17 = .ok (.idiv, 1) := by decide +kernel
theorem dX7_wearOf_18 : decode cX7_wearOf 18 = .ok (.aload_n 0, 1) := by decide +kernel
theorem dX7_wearOf_19 : decode cX7_wearOf 19 = .ok (.getfield 7, 3) := by decide +kernel
theorem dX7_wearOf_22 : decode cX7_wearOf 22 = .ok (.bipush 7, 2) := by decide +kernel
theorem dX7_wearOf_24 : decode cX7_wearOf 24 = .ok (.iaload, 1) := by decide +kernel
theorem dX7_wearOf_25 : decode cX7_wearOf 25 = .ok (.iadd, 1) := by decide +kernel
theorem dX7_wearOf_26 : decode cX7_wearOf 26 = .ok (.iconst 4, 1) := by decide +kernel
theorem dX7_wearOf_27 : decode cX7_wearOf 27 = .ok (.irem, 1) := by decide +kernel
theorem dX7_wearOf_28 : decode cX7_wearOf 28 = .ok (.iadd, 1) := by decide +kernel
theorem dX7_wearOf_29 : decode cX7_wearOf 29 = .ok (.iaload, 1) := by decide +kernel
theorem dX7_wearOf_30 : decode cX7_wearOf 30 = .ok (.imul, 1) := by decide +kernel
theorem dX7_wearOf_31 : decode cX7_wearOf 31 = .ok (.ireturn, 1) := by decide +kernel
theorem dX7_thick_0 : decode cX7_thick 0 = .ok (.iload_n 1, 1) := by decide +kernel
theorem dX7_thick_1 : decode cX7_thick 1 = .ok (.iconst (-1), 1) := by decide +kernel
theorem dX7_thick_2 : decode cX7_thick 2 = .ok (.if_icmp .ne 7, 3) := by decide +kernel
theorem dX7_thick_5 : decode cX7_thick 5 = .ok (.iconst 0, 1) := by decide +kernel
theorem dX7_thick_6 : decode cX7_thick 6 = .ok (.goto 9, 3) := by decide +kernel
theorem dX7_thick_9 : decode cX7_thick 9 = .ok (.aload_n 0, 1) := by decide +kernel
theorem dX7_thick_10 : decode cX7_thick 10 = .ok (.iload_n 1, 1) := by decide +kernel
theorem dX7_thick_11 : decode cX7_thick 11 = .ok (.iconst 0, 1) := by decide +kernel
theorem dX7_thick_12 : decode cX7_thick 12 = .ok (.invokevirtual 244, 3) := by decide +kernel
theorem dX7_thick_15 : decode cX7_thick 15 = .ok (.ireturn, 1) := by decide +kernel
theorem dX7_leftOf_0 : decode cX7_leftOf 0 = .ok (.aload_n 0, 1) := by decide +kernel
theorem dX7_leftOf_1 : decode cX7_leftOf 1 = .ok (.iload_n 2, 1) := by decide +kernel
theorem dX7_leftOf_2 : decode cX7_leftOf 2 = .ok (.invokestatic 241, 3) := by decide +kernel
theorem dX7_leftOf_5 : decode cX7_leftOf 5 = .ok (.invokevirtual 247, 3) := by decide +kernel
theorem dX7_leftOf_8 : decode cX7_leftOf 8 = .ok (.istore 4, 2) := by decide +kernel
theorem dX7_leftOf_10 : decode cX7_leftOf 10 = .ok (.aload_n 0, 1) := by decide +kernel
theorem dX7_leftOf_11 : decode cX7_leftOf 11 = .ok (.iload_n 2, 1) := by decide +kernel
theorem dX7_leftOf_12 : decode cX7_leftOf 12 = .ok (.invokestatic 238, 3) := by decide +kernel
theorem dX7_leftOf_15 : decode cX7_leftOf 15 = .ok (.invokevirtual 247, 3) := by decide +kernel
theorem dX7_leftOf_18 : decode cX7_leftOf 18 = .ok (.istore 5, 2) := by decide +kernel
theorem dX7_leftOf_20 : decode cX7_leftOf 20 = .ok (.aload_n 0, 1) := by decide +kernel
theorem dX7_leftOf_21 : decode cX7_leftOf 21 = .ok (.iload_n 1, 1) := by decide +kernel
theorem dX7_leftOf_22 : decode cX7_leftOf 22 = .ok (.invokevirtual 250, 3) := by decide +kernel
theorem dX7_leftOf_25 : decode cX7_leftOf 25 = .ok (.istore 6, 2) := by decide +kernel
theorem dX7_leftOf_27 : decode cX7_leftOf 27 = .ok (.iload_n 3, 1) := by decide +kernel
theorem dX7_leftOf_28 : decode cX7_leftOf 28 = .ok (.iconst 1, 1) := by decide +kernel
theorem dX7_leftOf_29 : decode cX7_leftOf 29 = .ok (.if_icmp .ne 11, 3) := by decide +kernel
theorem dX7_leftOf_32 : decode cX7_leftOf 32 = .ok (.iload 4, 2) := by decide +kernel
theorem dX7_leftOf_34 : decode cX7_leftOf 34 = .ok (.iload 6, 2) := by decide +kernel
theorem dX7_leftOf_36 : decode cX7_leftOf 36 = .ok (.isub, 1) := by decide +kernel
theorem dX7_leftOf_37 : decode cX7_leftOf 37 = .ok (.goto 39, 3) := by decide +kernel
theorem dX7_leftOf_40 : decode cX7_leftOf 40 = .ok (.iload_n 3, 1) := by decide +kernel
theorem dX7_leftOf_41 : decode cX7_leftOf 41 = .ok (.iconst 2, 1) := by decide +kernel
theorem dX7_leftOf_42 : decode cX7_leftOf 42 = .ok (.if_icmp .ne 14, 3) := by decide +kernel
theorem dX7_leftOf_45 : decode cX7_leftOf 45 = .ok (.iload 6, 2) := by decide +kernel
theorem dX7_leftOf_47 : decode cX7_leftOf 47 = .ok (.iload 4, 2) := by decide +kernel
theorem dX7_leftOf_49 : decode cX7_leftOf 49 = .ok (.isub, 1) := by decide +kernel
theorem dX7_leftOf_50 : decode cX7_leftOf 50 = .ok (.iload 5, 2) := by decide +kernel
theorem dX7_leftOf_52 : decode cX7_leftOf 52 = .ok (.isub, 1) := by decide +kernel
theorem dX7_leftOf_53 : decode cX7_leftOf 53 = .ok (.goto 23, 3) := by decide +kernel
theorem dX7_leftOf_56 : decode cX7_leftOf 56 = .ok (.iload 6, 2) := by decide +kernel
theorem dX7_leftOf_58 : decode cX7_leftOf 58 = .ok (.iload 4, 2) := by decide +kernel
theorem dX7_leftOf_60 : decode cX7_leftOf 60 = .ok (.if_icmp .ge 8, 3) := by decide +kernel
theorem dX7_leftOf_63 : decode cX7_leftOf 63 = .ok (.iload 5, 2) := by decide +kernel
theorem dX7_leftOf_65 : decode cX7_leftOf 65 = .ok (.goto 11, 3) := by decide +kernel
theorem dX7_leftOf_68 : decode cX7_leftOf 68 = .ok (.iload 5, 2) := by decide +kernel
theorem dX7_leftOf_70 : decode cX7_leftOf 70 = .ok (.iload 4, 2) := by decide +kernel
theorem dX7_leftOf_72 : decode cX7_leftOf 72 = .ok (.iadd, 1) := by decide +kernel
theorem dX7_leftOf_73 : decode cX7_leftOf 73 = .ok (.iload 6, 2) := by decide +kernel
theorem dX7_leftOf_75 : decode cX7_leftOf 75 = .ok (.isub, 1) := by decide +kernel
theorem dX7_leftOf_76 : decode cX7_leftOf 76 = .ok (.istore 7, 2) := by decide +kernel
theorem dX7_leftOf_78 : decode cX7_leftOf 78 = .ok (.iload 7, 2) := by decide +kernel
theorem dX7_leftOf_80 : decode cX7_leftOf 80 = .ok (.ifCond .le 8, 3) := by decide +kernel
theorem dX7_leftOf_83 : decode cX7_leftOf 83 = .ok (.iload 7, 2) := by decide +kernel
theorem dX7_leftOf_85 : decode cX7_leftOf 85 = .ok (.goto 4, 3) := by decide +kernel
theorem dX7_leftOf_88 : decode cX7_leftOf 88 = .ok (.iconst 0, 1) := by decide +kernel
theorem dX7_leftOf_89 : decode cX7_leftOf 89 = .ok (.ireturn, 1) := by decide +kernel
theorem dX7_isBright_0 : decode cX7_isBright 0 = .ok (.iload_n 2, 1) := by decide +kernel
theorem dX7_isBright_1 : decode cX7_isBright 1 = .ok (.invokestatic 238, 3) := by decide +kernel
theorem dX7_isBright_4 : decode cX7_isBright 4 = .ok (.istore 4, 2) := by decide +kernel
theorem dX7_isBright_6 : decode cX7_isBright 6 = .ok (.iload_n 2, 1) := by decide +kernel
theorem dX7_isBright_7 : decode cX7_isBright 7 = .ok (.invokestatic 241, 3) := by decide +kernel
theorem dX7_isBright_10 : decode cX7_isBright 10 = .ok (.istore 5, 2) := by decide +kernel
theorem dX7_isBright_12 : decode cX7_isBright 12 = .ok (.iload 4, 2) := by decide +kernel
theorem dX7_isBright_14 : decode cX7_isBright 14 = .ok (.iconst (-1), 1) := by decide +kernel
theorem dX7_isBright_15 : decode cX7_isBright 15 = .ok (.if_icmp .eq 39, 3) := by decide +kernel
theorem dX7_isBright_18 : decode cX7_isBright 18 = .ok (.aload_n 0, 1) := by decide +kernel
theorem dX7_isBright_19 : decode cX7_isBright 19 = .ok (.iload_n 1, 1) := by decide +kernel
theorem dX7_isBright_20 : decode cX7_isBright 20 = .ok (.iload_n 2, 1) := by decide +kernel
theorem dX7_isBright_21 : decode cX7_isBright 21 = .ok (.iconst 0, 1) := by decide +kernel
theorem dX7_isBright_22 : decode cX7_isBright 22 = .ok (.invokevirtual 253, 3) := by decide +kernel
theorem dX7_isBright_25 : decode cX7_isBright 25 = .ok (.aload_n 0, 1) := by decide +kernel
theorem dX7_isBright_26 : decode cX7_isBright 26 = .ok (.iload 4, 2) := by decide +kernel
theorem dX7_isBright_28 : decode cX7_isBright 28 = .ok (.iconst 3, 1) := by decide +kernel
theorem dX7_isBright_29 : decode cX7_isBright 29 = .ok (.invokevirtual 244, 3) := by decide +kernel
theorem dX7_isBright_32 : decode cX7_isBright 32 = .ok (.if_icmp .lt 22, 3) := by decide +kernel
theorem dX7_isBright_35 : decode cX7_isBright 35 = .ok (.aload_n 0, 1) := by decide +kernel
theorem dX7_isBright_36 : decode cX7_isBright 36 = .ok (.iload 4, 2) := by decide +kernel
theorem dX7_isBright_38 : decode cX7_isBright 38 = .ok (.iconst 2, 1) := by decide +kernel
theorem dX7_isBright_39 : decode cX7_isBright 39 = .ok (.invokevirtual 244, 3) := by decide +kernel
theorem dX7_isBright_42 : decode cX7_isBright 42 = .ok (.iload_n 3, 1) := by decide +kernel
theorem dX7_isBright_43 : decode cX7_isBright 43 = .ok (.ishr, 1) := by decide +kernel
theorem dX7_isBright_44 : decode cX7_isBright 44 = .ok (.iconst 1, 1) := by decide +kernel
theorem dX7_isBright_45 : decode cX7_isBright 45 = .ok (.iand, 1) := by decide +kernel
theorem dX7_isBright_46 : decode cX7_isBright 46 = .ok (.iconst 1, 1) := by decide +kernel
theorem dX7_isBright_47 : decode cX7_isBright 47 = .ok (.if_icmp .ne 7, 3) := by decide +kernel
theorem dX7_isBright_50 : decode cX7_isBright 50 = .ok (.iconst 1, 1) := by decide +kernel
theorem dX7_isBright_51 : decode cX7_isBright 51 = .ok (.goto 4, 3) := by decide +kernel
theorem dX7_isBright_54 : decode cX7_isBright 54 = .ok (.iconst 0, 1) := by decide +kernel
theorem dX7_isBright_55 : decode cX7_isBright 55 = .ok (.istore 6, 2) := by decide +kernel
theorem dX7_isBright_57 : decode cX7_isBright 57 = .ok (.iload 6, 2) := by decide +kernel
theorem dX7_isBright_59 : decode cX7_isBright 59 = .ok (.ifCond .ne 41, 3) := by decide +kernel
theorem dX7_isBright_62 : decode cX7_isBright 62 = .ok (.iload 5, 2) := by decide +kernel
theorem dX7_isBright_64 : decode cX7_isBright 64 = .ok (.iconst (-1), 1) := by decide +kernel
theorem dX7_isBright_65 : decode cX7_isBright 65 = .ok (.if_icmp .eq 39, 3) := by decide +kernel
theorem dX7_isBright_68 : decode cX7_isBright 68 = .ok (.aload_n 0, 1) := by decide +kernel
theorem dX7_isBright_69 : decode cX7_isBright 69 = .ok (.iload_n 1, 1) := by decide +kernel
theorem dX7_isBright_70 : decode cX7_isBright 70 = .ok (.iload_n 2, 1) := by decide +kernel
theorem dX7_isBright_71 : decode cX7_isBright 71 = .ok (.iconst 1, 1) := by decide +kernel
theorem dX7_isBright_72 : decode cX7_isBright 72 = .ok (.invokevirtual 253, 3) := by decide +kernel
theorem dX7_isBright_75 : decode cX7_isBright 75 = .ok (.aload_n 0, 1) := by decide +kernel
theorem dX7_isBright_76 : decode cX7_isBright 76 = .ok (.iload 5, 2) := by decide +kernel
theorem dX7_isBright_78 : decode cX7_isBright 78 = .ok (.iconst 3, 1) := by decide +kernel
theorem dX7_isBright_79 : decode cX7_isBright 79 = .ok (.invokevirtual 244, 3) := by decide +kernel
theorem dX7_isBright_82 : decode cX7_isBright 82 = .ok (.if_icmp .lt 22, 3) := by decide +kernel
theorem dX7_isBright_85 : decode cX7_isBright 85 = .ok (.aload_n 0, 1) := by decide +kernel
theorem dX7_isBright_86 : decode cX7_isBright 86 = .ok (.iload 5, 2) := by decide +kernel
theorem dX7_isBright_88 : decode cX7_isBright 88 = .ok (.iconst 2, 1) := by decide +kernel
theorem dX7_isBright_89 : decode cX7_isBright 89 = .ok (.invokevirtual 244, 3) := by decide +kernel
theorem dX7_isBright_92 : decode cX7_isBright 92 = .ok (.iload_n 3, 1) := by decide +kernel
theorem dX7_isBright_93 : decode cX7_isBright 93 = .ok (.ishr, 1) := by decide +kernel
theorem dX7_isBright_94 : decode cX7_isBright 94 = .ok (.iconst 1, 1) := by decide +kernel
theorem dX7_isBright_95 : decode cX7_isBright 95 = .ok (.iand, 1) := by decide +kernel
theorem dX7_isBright_96 : decode cX7_isBright 96 = .ok (.iconst 1, 1) := by decide +kernel
theorem dX7_isBright_97 : decode cX7_isBright 97 = .ok (.if_icmp .ne 7, 3) := by decide +kernel
theorem dX7_isBright_100 : decode cX7_isBright 100 = .ok (.iconst 1, 1) := by decide +kernel
theorem dX7_isBright_101 : decode cX7_isBright 101 = .ok (.goto 4, 3) := by decide +kernel
theorem dX7_isBright_104 : decode cX7_isBright 104 = .ok (.iconst 0, 1) := by decide +kernel
theorem dX7_isBright_105 : decode cX7_isBright 105 = .ok (.ireturn, 1) := by decide +kernel
theorem dX7_isSo_0 : decode cX7_isSo 0 = .ok (.aload_n 0, 1) := by decide +kernel
theorem dX7_isSo_1 : decode cX7_isSo 1 = .ok (.iload_n 1, 1) := by decide +kernel
theorem dX7_isSo_2 : decode cX7_isSo 2 = .ok (.iconst 2, 1) := by decide +kernel
theorem dX7_isSo_3 : decode cX7_isSo 3 = .ok (.invokevirtual 138, 3) := by decide +kernel
theorem dX7_isSo_6 : decode cX7_isSo 6 = .ok (.istore 4, 2) := by decide +kernel
theorem dX7_isSo_8 : decode cX7_isSo 8 = .ok (.aload_n 0, 1) := by decide +kernel
theorem dX7_isSo_9 : decode cX7_isSo 9 = .ok (.iload_n 1, 1) := by decide +kernel
theorem dX7_isSo_10 : decode cX7_isSo 10 = .ok (.iconst 1, 1) := by decide +kernel
theorem dX7_isSo_11 : decode cX7_isSo 11 = .ok (.invokevirtual 138, 3) := by decide +kernel
theorem dX7_isSo_14 : decode cX7_isSo 14 = .ok (.tableswitch 158 0 6 #[42, 86, 95, 112, 130, 158, 148], 42) := by decide +kernel
theorem dX7_isSo_56 : decode cX7_isSo 56 = .ok (.iload_n 3, 1) := by decide +kernel
theorem dX7_isSo_57 : decode cX7_isSo 57 = .ok (.invokestatic 238, 3) := by decide +kernel
theorem dX7_isSo_60 : decode cX7_isSo 60 = .ok (.iload 4, 2) := by decide +kernel
theorem dX7_isSo_62 : decode cX7_isSo 62 = .ok (.if_icmp .ne 13, 3) := by decide +kernel
theorem dX7_isSo_65 : decode cX7_isSo 65 = .ok (.aload_n 0, 1) := by decide +kernel
theorem dX7_isSo_66 : decode cX7_isSo 66 = .ok (.iload_n 2, 1) := by decide +kernel
theorem dX7_isSo_67 : decode cX7_isSo 67 = .ok (.iload_n 3, 1) := by decide +kernel
theorem dX7_isSo_68 : decode cX7_isSo 68 = .ok (.iconst 0, 1) := by decide +kernel
theorem dX7_isSo_69 : decode cX7_isSo 69 = .ok (.invokevirtual 253, 3) := by decide +kernel
theorem dX7_isSo_72 : decode cX7_isSo 72 = .ok (.ifCond .gt 22, 3) := by decide +kernel
theorem dX7_isSo_75 : decode cX7_isSo 75 = .ok (.iload_n 3, 1) := by decide +kernel
theorem dX7_isSo_76 : decode cX7_isSo 76 = .ok (.invokestatic 241, 3) := by decide +kernel
theorem dX7_isSo_79 : decode cX7_isSo 79 = .ok (.iload 4, 2) := by decide +kernel
theorem dX7_isSo_81 : decode cX7_isSo 81 = .ok (.if_icmp .ne 17, 3) := by decide +kernel
theorem dX7_isSo_84 : decode cX7_isSo 84 = .ok (.aload_n 0, 1) := by decide +kernel
theorem dX7_isSo_85 : decode cX7_isSo 85 = .ok (.iload_n 2, 1) := by decide +kernel
theorem dX7_isSo_86 : decode cX7_isSo 86 = .ok (.iload_n 3, 1) := by decide +kernel
theorem dX7_isSo_87 : decode cX7_isSo 87 = .ok (.iconst 1, 1) := by decide +kernel
theorem dX7_isSo_88 : decode cX7_isSo 88 = .ok (.invokevirtual 253, 3) := by decide +kernel
theorem dX7_isSo_91 : decode cX7_isSo 91 = .ok (.ifCond .le 7, 3) := by decide +kernel
theorem dX7_isSo_94 : decode cX7_isSo 94 = .ok (.iconst 1, 1) := by decide +kernel
theorem dX7_isSo_95 : decode cX7_isSo 95 = .ok (.goto 4, 3) := by decide +kernel
theorem dX7_isSo_98 : decode cX7_isSo 98 = .ok (.iconst 0, 1) := by decide +kernel
theorem dX7_isSo_99 : decode cX7_isSo 99 = .ok (.ireturn, 1) := by decide +kernel
theorem dX7_isSo_100 : decode cX7_isSo 100 = .ok (.aload_n 0, 1) := by decide +kernel
theorem dX7_isSo_101 : decode cX7_isSo 101 = .ok (.iload_n 2, 1) := by decide +kernel
theorem dX7_isSo_102 : decode cX7_isSo 102 = .ok (.iload_n 3, 1) := by decide +kernel
theorem dX7_isSo_103 : decode cX7_isSo 103 = .ok (.iload 4, 2) := by decide +kernel
theorem dX7_isSo_105 : decode cX7_isSo 105 = .ok (.invokevirtual 256, 3) := by decide +kernel
theorem dX7_isSo_108 : decode cX7_isSo 108 = .ok (.ireturn, 1) := by decide +kernel
theorem dX7_isSo_109 : decode cX7_isSo 109 = .ok (.aload_n 0, 1) := by decide +kernel
theorem dX7_isSo_110 : decode cX7_isSo 110 = .ok (.iload_n 2, 1) := by decide +kernel
theorem dX7_isSo_111 : decode cX7_isSo 111 = .ok (.iload_n 3, 1) := by decide +kernel
theorem dX7_isSo_112 : decode cX7_isSo 112 = .ok (.iload 4, 2) := by decide +kernel
theorem dX7_isSo_114 : decode cX7_isSo 114 = .ok (.invokevirtual 256, 3) := by decide +kernel
theorem dX7_isSo_117 : decode cX7_isSo 117 = .ok (.ifCond .ne 7, 3) := by decide +kernel
theorem dX7_isSo_120 : decode cX7_isSo 120 = .ok (.iconst 1, 1) := by decide +kernel
theorem dX7_isSo_121 : decode cX7_isSo 121 = .ok (.goto 4, 3) := by decide +kernel
theorem dX7_isSo_124 : decode cX7_isSo 124 = .ok (.iconst 0, 1) := by decide +kernel
theorem dX7_isSo_125 : decode cX7_isSo 125 = .ok (.ireturn, 1) := by decide +kernel
theorem dX7_isSo_126 : decode cX7_isSo 126 = .ok (.aload_n 0, 1) := by decide +kernel
theorem dX7_isSo_127 : decode cX7_isSo 127 = .ok (.iload_n 2, 1) := by decide +kernel
theorem dX7_isSo_128 : decode cX7_isSo 128 = .ok (.iload_n 3, 1) := by decide +kernel
theorem dX7_isSo_129 : decode cX7_isSo 129 = .ok (.iconst 2, 1) := by decide +kernel
theorem dX7_isSo_130 : decode cX7_isSo 130 = .ok (.invokevirtual 253, 3) := by decide +kernel
theorem dX7_isSo_133 : decode cX7_isSo 133 = .ok (.iload 4, 2) := by decide +kernel
theorem dX7_isSo_135 : decode cX7_isSo 135 = .ok (.if_icmp .gt 7, 3) := by decide +kernel
theorem dX7_isSo_138 : decode cX7_isSo 138 = .ok (.iconst 1, 1) := by decide +kernel
theorem dX7_isSo_139 : decode cX7_isSo 139 = .ok (.goto 4, 3) := by decide +kernel
theorem dX7_isSo_142 : decode cX7_isSo 142 = .ok (.iconst 0, 1) := by decide +kernel
theorem dX7_isSo_143 : decode cX7_isSo 143 = .ok (.ireturn, 1) := by decide +kernel
theorem dX7_isSo_144 : decode cX7_isSo 144 = .ok (.aload_n 0, 1) := by decide +kernel
theorem dX7_isSo_145 : decode cX7_isSo 145 = .ok (.iload_n 2, 1) := by decide +kernel
theorem dX7_isSo_146 : decode cX7_isSo 146 = .ok (.iload_n 3, 1) := by decide +kernel
theorem dX7_isSo_147 : decode cX7_isSo 147 = .ok (.iconst 2, 1) := by decide +kernel
theorem dX7_isSo_148 : decode cX7_isSo 148 = .ok (.invokevirtual 253, 3) := by decide +kernel
theorem dX7_isSo_151 : decode cX7_isSo 151 = .ok (.iload 4, 2) := by decide +kernel
theorem dX7_isSo_153 : decode cX7_isSo 153 = .ok (.if_icmp .lt 7, 3) := by decide +kernel
theorem dX7_isSo_156 : decode cX7_isSo 156 = .ok (.iconst 1, 1) := by decide +kernel
theorem dX7_isSo_157 : decode cX7_isSo 157 = .ok (.goto 4, 3) := by decide +kernel
theorem dX7_isSo_160 : decode cX7_isSo 160 = .ok (.iconst 0, 1) := by decide +kernel
theorem dX7_isSo_161 : decode cX7_isSo 161 = .ok (.ireturn, 1) := by decide +kernel
theorem dX7_isSo_162 : decode cX7_isSo 162 = .ok (.iload_n 3, 1) := by decide +kernel
theorem dX7_isSo_163 : decode cX7_isSo 163 = .ok (.ifCond .eq 7, 3) := by decide +kernel
theorem dX7_isSo_166 : decode cX7_isSo 166 = .ok (.iconst 1, 1) := by decide +kernel
theorem dX7_isSo_167 : decode cX7_isSo 167 = .ok (.goto 4, 3) := by decide +kernel
theorem dX7_isSo_170 : decode cX7_isSo 170 = .ok (.iconst 0, 1) := by decide +kernel
theorem dX7_isSo_171 : decode cX7_isSo 171 = .ok (.ireturn, 1) := by decide +kernel
theorem dX7_isSo_172 : decode cX7_isSo 172 = .ok (.iconst 1, 1) := by decide +kernel
theorem dX7_isSo_173 : decode cX7_isSo 173 = .ok (.ireturn, 1) := by decide +kernel
theorem dX7_isLooked_0 : decode cX7_isLooked 0 = .ok (.aload_n 0, 1) := by decide +kernel
theorem dX7_isLooked_1 : decode cX7_isLooked 1 = .ok (.iload_n 1, 1) := by decide +kernel
theorem dX7_isLooked_2 : decode cX7_isLooked 2 = .ok (.iconst 3, 1) := by decide +kernel
theorem dX7_isLooked_3 : decode cX7_isLooked 3 = .ok (.invokevirtual 138, 3) := by decide +kernel
theorem dX7_isLooked_6 : decode cX7_isLooked 6 = .ok (.ifCond .ne 15, 3) := by decide +kernel
theorem dX7_isLooked_9 : decode cX7_isLooked 9 = .ok (.iload_n 2, 1) := by decide +kernel
theorem dX7_isLooked_10 : decode cX7_isLooked 10 = .ok (.iload_n 1, 1) := by decide +kernel
theorem dX7_isLooked_11 : decode cX7_isLooked 11 = .ok (.ishr, 1) := by decide +kernel
theorem dX7_isLooked_12 : decode cX7_isLooked 12 = .ok (.iconst 1, 1) := by decide +kernel
theorem dX7_isLooked_13 : decode cX7_isLooked 13 = .ok (.iand, 1) := by decide +kernel
theorem dX7_isLooked_14 : decode cX7_isLooked 14 = .ok (.ifCond .ne 7, 3) := by decide +kernel
theorem dX7_isLooked_17 : decode cX7_isLooked 17 = .ok (.iconst 1, 1) := by decide +kernel
theorem dX7_isLooked_18 : decode cX7_isLooked 18 = .ok (.goto 4, 3) := by decide +kernel
theorem dX7_isLooked_21 : decode cX7_isLooked 21 = .ok (.iconst 0, 1) := by decide +kernel
theorem dX7_isLooked_22 : decode cX7_isLooked 22 = .ok (.ireturn, 1) := by decide +kernel
theorem dX7_isFit_0 : decode cX7_isFit 0 = .ok (.aload_n 0, 1) := by decide +kernel
theorem dX7_isFit_1 : decode cX7_isFit 1 = .ok (.iload_n 2, 1) := by decide +kernel
theorem dX7_isFit_2 : decode cX7_isFit 2 = .ok (.invokevirtual 259, 3) := by decide +kernel
theorem dX7_isFit_5 : decode cX7_isFit 5 = .ok (.istore 4, 2) := by decide +kernel
theorem dX7_isFit_7 : decode cX7_isFit 7 = .ok (.iconst 0, 1) := by decide +kernel
theorem dX7_isFit_8 : decode cX7_isFit 8 = .ok (.istore 5, 2) := by decide +kernel
theorem dX7_isFit_10 : decode cX7_isFit 10 = .ok (.iload 5, 2) := by decide +kernel
theorem dX7_isFit_12 : decode cX7_isFit 12 = .ok (.aload_n 0, 1) := by decide +kernel
theorem dX7_isFit_13 : decode cX7_isFit 13 = .ok (.getfield 7, 3) := by decide +kernel
theorem dX7_isFit_16 : decode cX7_isFit 16 = .ok (.iconst 1, 1) := by decide +kernel
theorem dX7_isFit_17 : decode cX7_isFit 17 = .ok (.iaload, 1) := by decide +kernel
theorem dX7_isFit_18 : decode cX7_isFit 18 = .ok (.if_icmp .ge 53, 3) := by decide +kernel
theorem dX7_isFit_21 : decode cX7_isFit 21 = .ok (.iload 4, 2) := by decide +kernel
theorem dX7_isFit_23 : decode cX7_isFit 23 = .ok (.ifCond .eq 48, 3) := by decide +kernel
theorem dX7_isFit_26 : decode cX7_isFit 26 = .ok (.aload_n 0, 1) := by decide +kernel
theorem dX7_isFit_27 : decode cX7_isFit 27 = .ok (.iload 5, 2) := by decide +kernel
theorem dX7_isFit_29 : decode cX7_isFit 29 = .ok (.iconst 0, 1) := by decide +kernel
theorem dX7_isFit_30 : decode cX7_isFit 30 = .ok (.invokevirtual 138, 3) := by decide +kernel
theorem dX7_isFit_33 : decode cX7_isFit 33 = .ok (.iload_n 1, 1) := by decide +kernel
theorem dX7_isFit_34 : decode cX7_isFit 34 = .ok (.if_icmp .ne 24, 3) := by decide +kernel
theorem dX7_isFit_37 : decode cX7_isFit 37 = .ok (.aload_n 0, 1) := by decide +kernel
theorem dX7_isFit_38 : decode cX7_isFit 38 = .ok (.iload 5, 2) := by decide +kernel
theorem dX7_isFit_40 : decode cX7_isFit 40 = .ok (.iload_n 3, 1) := by decide +kernel
theorem dX7_isFit_41 : decode cX7_isFit 41 = .ok (.invokevirtual 262, 3) := by decide +kernel
theorem dX7_isFit_44 : decode cX7_isFit 44 = .ok (.ifCond .eq 14, 3) := by decide +kernel
theorem dX7_isFit_47 : decode cX7_isFit 47 = .ok (.aload_n 0, 1) := by decide +kernel
theorem dX7_isFit_48 : decode cX7_isFit 48 = .ok (.iload 5, 2) := by decide +kernel
theorem dX7_isFit_50 : decode cX7_isFit 50 = .ok (.iload_n 1, 1) := by decide +kernel
theorem dX7_isFit_51 : decode cX7_isFit 51 = .ok (.iload_n 2, 1) := by decide +kernel
theorem dX7_isFit_52 : decode cX7_isFit 52 = .ok (.invokevirtual 265, 3) := by decide +kernel
theorem dX7_isFit_55 : decode cX7_isFit 55 = .ok (.ifCond .eq 7, 3) := by decide +kernel
theorem dX7_isFit_58 : decode cX7_isFit 58 = .ok (.iconst 1, 1) := by decide +kernel
theorem dX7_isFit_59 : decode cX7_isFit 59 = .ok (.goto 4, 3) := by decide +kernel
theorem dX7_isFit_62 : decode cX7_isFit 62 = .ok (.iconst 0, 1) := by decide +kernel
theorem dX7_isFit_63 : decode cX7_isFit 63 = .ok (.istore 4, 2) := by decide +kernel
theorem dX7_isFit_65 : decode cX7_isFit 65 = .ok (.iinc 5 1, 3) := by decide +kernel
theorem dX7_isFit_68 : decode cX7_isFit 68 = .ok (.goto (-58), 3) := by decide +kernel
theorem dX7_isFit_71 : decode cX7_isFit 71 = .ok (.iload 4, 2) := by decide +kernel
theorem dX7_isFit_73 : decode cX7_isFit 73 = .ok (.ireturn, 1) := by decide +kernel
theorem dX7_left_0 : decode cX7_left 0 = .ok (.iload_n 1, 1) := by decide +kernel
theorem dX7_left_1 : decode cX7_left 1 = .ok (.invokestatic 131, 3) := by decide +kernel
theorem dX7_left_4 : decode cX7_left 4 = .ok (.ifCond .eq 33, 3) := by decide +kernel
theorem dX7_left_7 : decode cX7_left 7 = .ok (.aload_n 0, 1) := by decide +kernel
theorem dX7_left_8 : decode cX7_left 8 = .ok (.iload_n 2, 1) := by decide +kernel
theorem dX7_left_9 : decode cX7_left 9 = .ok (.invokevirtual 259, 3) := by decide +kernel
theorem dX7_left_12 : decode cX7_left 12 = .ok (.ifCond .eq 25, 3) := by decide +kernel
theorem dX7_left_15 : decode cX7_left 15 = .ok (.iload_n 3, 1) := by decide +kernel
theorem dX7_left_16 : decode cX7_left 16 = .ok (.i2l, 1) := by decide +kernel
theorem dX7_left_17 : decode cX7_left 17 = .ok (.lconst 0, 1) := by decide +kernel
theorem dX7_left_18 : decode cX7_left 18 = .ok (.ldc2_w 268, 3) := by decide +kernel
theorem dX7_left_21 : decode cX7_left 21 = .ok (.invokestatic 102, 3) := by decide +kernel
theorem dX7_left_24 : decode cX7_left 24 = .ok (.ifCond .eq 13, 3) := by decide +kernel
theorem dX7_left_27 : decode cX7_left 27 = .ok (.aload_n 0, 1) := by decide +kernel
theorem dX7_left_28 : decode cX7_left 28 = .ok (.iload_n 1, 1) := by decide +kernel
theorem dX7_left_29 : decode cX7_left 29 = .ok (.iload_n 2, 1) := by decide +kernel
theorem dX7_left_30 : decode cX7_left 30 = .ok (.iload_n 3, 1) := by decide +kernel
theorem dX7_left_31 : decode cX7_left 31 = .ok (.invokevirtual 253, 3) := by decide +kernel
theorem dX7_left_34 : decode cX7_left 34 = .ok (.goto 7, 3) := by decide +kernel
theorem dX7_left_37 : decode cX7_left 37 = .ok (.aload_n 0, 1) := by decide +kernel
theorem dX7_left_38 : decode cX7_left 38 = .ok (.invokevirtual 98, 3) := by decide +kernel
theorem dX7_left_41 : decode cX7_left 41 = .ok (.ireturn, 1) := by decide +kernel
theorem dX7_shines_0 : decode cX7_shines 0 = .ok (.iload_n 1, 1) := by decide +kernel
theorem dX7_shines_1 : decode cX7_shines 1 = .ok (.invokestatic 131, 3) := by decide +kernel
theorem dX7_shines_4 : decode cX7_shines 4 = .ok (.ifCond .eq 23, 3) := by decide +kernel
theorem dX7_shines_7 : decode cX7_shines 7 = .ok (.aload_n 0, 1) := by decide +kernel
theorem dX7_shines_8 : decode cX7_shines 8 = .ok (.iload_n 2, 1) := by decide +kernel
theorem dX7_shines_9 : decode cX7_shines 9 = .ok (.invokevirtual 259, 3) := by decide +kernel
theorem dX7_shines_12 : decode cX7_shines 12 = .ok (.ifCond .eq 15, 3) := by decide +kernel
theorem dX7_shines_15 : decode cX7_shines 15 = .ok (.iload_n 3, 1) := by decide +kernel
theorem dX7_shines_16 : decode cX7_shines 16 = .ok (.i2l, 1) := by decide +kernel
theorem dX7_shines_17 : decode cX7_shines 17 = .ok (.lconst 0, 1) := by decide +kernel
theorem dX7_shines_18 : decode cX7_shines 18 = .ok (.ldc2_w 117, 3) := by decide +kernel
theorem dX7_shines_21 : decode cX7_shines 21 = .ok (.invokestatic 102, 3) := by decide +kernel
theorem dX7_shines_24 : decode cX7_shines 24 = .ok (.ifCond .ne 8, 3) := by decide +kernel
theorem dX7_shines_27 : decode cX7_shines 27 = .ok (.aload_n 0, 1) := by decide +kernel
theorem dX7_shines_28 : decode cX7_shines 28 = .ok (.invokevirtual 98, 3) := by decide +kernel
theorem dX7_shines_31 : decode cX7_shines 31 = .ok (.ireturn, 1) := by decide +kernel
theorem dX7_shines_32 : decode cX7_shines 32 = .ok (.aload_n 0, 1) := by decide +kernel
theorem dX7_shines_33 : decode cX7_shines 33 = .ok (.iload_n 1, 1) := by decide +kernel
theorem dX7_shines_34 : decode cX7_shines 34 = .ok (.iload_n 2, 1) := by decide +kernel
theorem dX7_shines_35 : decode cX7_shines 35 = .ok (.iload_n 3, 1) := by decide +kernel
theorem dX7_shines_36 : decode cX7_shines 36 = .ok (.invokevirtual 256, 3) := by decide +kernel
theorem dX7_shines_39 : decode cX7_shines 39 = .ok (.ifCond .eq 7, 3) := by decide +kernel
theorem dX7_shines_42 : decode cX7_shines 42 = .ok (.iconst 1, 1) := by decide +kernel
theorem dX7_shines_43 : decode cX7_shines 43 = .ok (.goto 4, 3) := by decide +kernel
theorem dX7_shines_46 : decode cX7_shines 46 = .ok (.iconst 0, 1) := by decide +kernel
theorem dX7_shines_47 : decode cX7_shines 47 = .ok (.ireturn, 1) := by decide +kernel
theorem dX7_fits_0 : decode cX7_fits 0 = .ok (.iload_n 1, 1) := by decide +kernel
theorem dX7_fits_1 : decode cX7_fits 1 = .ok (.invokestatic 131, 3) := by decide +kernel
theorem dX7_fits_4 : decode cX7_fits 4 = .ok (.ifCond .eq 11, 3) := by decide +kernel
theorem dX7_fits_7 : decode cX7_fits 7 = .ok (.aload_n 0, 1) := by decide +kernel
theorem dX7_fits_8 : decode cX7_fits 8 = .ok (.iload_n 2, 1) := by decide +kernel
theorem dX7_fits_9 : decode cX7_fits 9 = .ok (.invokevirtual 259, 3) := by decide +kernel
theorem dX7_fits_12 : decode cX7_fits 12 = .ok (.ifCond .ne 8, 3) := by decide +kernel
theorem dX7_fits_15 : decode cX7_fits 15 = .ok (.aload_n 0, 1) := by decide +kernel
theorem dX7_fits_16 : decode cX7_fits 16 = .ok (.invokevirtual 98, 3) := by decide +kernel
theorem dX7_fits_19 : decode cX7_fits 19 = .ok (.ireturn, 1) := by decide +kernel
theorem dX7_fits_20 : decode cX7_fits 20 = .ok (.aload_n 0, 1) := by decide +kernel
theorem dX7_fits_21 : decode cX7_fits 21 = .ok (.iload_n 1, 1) := by decide +kernel
theorem dX7_fits_22 : decode cX7_fits 22 = .ok (.iload_n 2, 1) := by decide +kernel
theorem dX7_fits_23 : decode cX7_fits 23 = .ok (.iconst 0, 1) := by decide +kernel
theorem dX7_fits_24 : decode cX7_fits 24 = .ok (.invokevirtual 270, 3) := by decide +kernel
theorem dX7_fits_27 : decode cX7_fits 27 = .ok (.ifCond .eq 7, 3) := by decide +kernel
theorem dX7_fits_30 : decode cX7_fits 30 = .ok (.iconst 1, 1) := by decide +kernel
theorem dX7_fits_31 : decode cX7_fits 31 = .ok (.goto 4, 3) := by decide +kernel
theorem dX7_fits_34 : decode cX7_fits 34 = .ok (.iconst 0, 1) := by decide +kernel
theorem dX7_fits_35 : decode cX7_fits 35 = .ok (.ireturn, 1) := by decide +kernel
theorem dX7_looks_0 : decode cX7_looks 0 = .ok (.iconst 0, 1) := by decide +kernel
theorem dX7_looks_1 : decode cX7_looks 1 = .ok (.istore_n 3, 1) := by decide +kernel
theorem dX7_looks_2 : decode cX7_looks 2 = .ok (.iload_n 3, 1) := by decide +kernel
theorem dX7_looks_3 : decode cX7_looks 3 = .ok (.bipush 8, 2) := by decide +kernel
theorem dX7_looks_5 : decode cX7_looks 5 = .ok (.if_icmp .ge 203, 3) := by decide +kernel
theorem dX7_looks_8 : decode cX7_looks 8 = .ok (.bipush 8, 2) := by decide +kernel
theorem dX7_looks_10 : decode cX7_looks 10 = .ok (.iload_n 1, 1) := by decide +kernel
theorem dX7_looks_11 : decode cX7_looks 11 = .ok (.imul, 1) := by decide +kernel
theorem dX7_looks_12 : decode cX7_looks 12 = .ok (.iload_n 3, 1) := by decide +kernel
theorem dX7_looks_13 : decode cX7_looks 13 = .ok (.iadd, 1) := by decide +kernel
theorem dX7_looks_14 : decode cX7_looks 14 = .ok (.istore 4, 2) := by decide +kernel
theorem dX7_looks_16 : decode cX7_looks 16 = .ok (.aload_n 0, 1) := by decide +kernel
theorem dX7_looks_17 : decode cX7_looks 17 = .ok (.getfield 47, 3) := by decide +kernel
theorem dX7_looks_20 : decode cX7_looks 20 = .ok (.iload_n 3, 1) := by decide +kernel
theorem dX7_looks_21 : decode cX7_looks 21 = .ok (.iconst (-1), 1) := by decide +kernel
theorem dX7_looks_22 : decode cX7_looks 22 = .ok (.iastore, 1) := by decide +kernel
theorem dX7_looks_23 : decode cX7_looks 23 = .ok (.iconst 0, 1) := by decide +kernel
theorem dX7_looks_24 : decode cX7_looks 24 = .ok (.istore 5, 2) := by decide +kernel
theorem dX7_looks_26 : decode cX7_looks 26 = .ok (.iload 5, 2) := by decide +kernel
theorem dX7_looks_28 : decode cX7_looks 28 = .ok (.aload_n 0, 1) := by decide +kernel
theorem dX7_looks_29 : decode cX7_looks 29 = .ok (.getfield 7, 3) := by decide +kernel
theorem dX7_looks_32 : decode cX7_looks 32 = .ok (.iconst 1, 1) := by decide +kernel
theorem dX7_looks_33 : decode cX7_looks 33 = .ok (.iaload, 1) := by decide +kernel
theorem dX7_looks_34 : decode cX7_looks 34 = .ok (.if_icmp .ge 80, 3) := by decide +kernel
theorem dX7_looks_37 : decode cX7_looks 37 = .ok (.aload_n 0, 1) := by decide +kernel
theorem dX7_looks_38 : decode cX7_looks 38 = .ok (.iload 5, 2) := by decide +kernel
theorem dX7_looks_40 : decode cX7_looks 40 = .ok (.iconst 0, 1) := by decide +kernel
theorem dX7_looks_41 : decode cX7_looks 41 = .ok (.invokevirtual 138, 3) := by decide +kernel
theorem dX7_looks_44 : decode cX7_looks 44 = .ok (.iload 4, 2) := by decide +kernel
theorem dX7_looks_46 : decode cX7_looks 46 = .ok (.if_icmp .ne 62, 3) := by decide +kernel
theorem dX7_looks_49 : decode cX7_looks 49 = .ok (.aload_n 0, 1) := by decide +kernel
theorem dX7_looks_50 : decode cX7_looks 50 = .ok (.iload 5, 2) := by decide +kernel
theorem dX7_looks_52 : decode cX7_looks 52 = .ok (.iconst 1, 1) := by decide +kernel
theorem dX7_looks_53 : decode cX7_looks 53 = .ok (.invokevirtual 138, 3) := by decide +kernel
theorem dX7_looks_56 : decode cX7_looks 56 = .ok (.iconst 5, 1) := by decide +kernel
theorem dX7_looks_57 : decode cX7_looks 57 = .ok (.if_icmp .ne 51, 3) := by decide +kernel
theorem dX7_looks_60 : decode cX7_looks 60 = .ok (.aload_n 0, 1) := by decide +kernel
theorem dX7_looks_61 : decode cX7_looks 61 = .ok (.iload 5, 2) := by decide +kernel
theorem dX7_looks_63 : decode cX7_looks 63 = .ok (.iload_n 2, 1) := by decide +kernel
theorem dX7_looks_64 : decode cX7_looks 64 = .ok (.invokevirtual 262, 3) := by decide +kernel
theorem dX7_looks_67 : decode cX7_looks 67 = .ok (.ifCond .eq 41, 3) := by decide +kernel
theorem dX7_looks_70 : decode cX7_looks 70 = .ok (.aload_n 0, 1) := by decide +kernel
theorem dX7_looks_71 : decode cX7_looks 71 = .ok (.getfield 47, 3) := by decide +kernel
theorem dX7_looks_74 : decode cX7_looks 74 = .ok (.iload_n 3, 1) := by decide +kernel
theorem dX7_looks_75 : decode cX7_looks 75 = .ok (.aload_n 0, 1) := by decide +kernel
theorem dX7_looks_76 : decode cX7_looks 76 = .ok (.iload 5, 2) := by decide +kernel
theorem dX7_looks_78 : decode cX7_looks 78 = .ok (.iconst 2, 1) := by decide +kernel
theorem dX7_looks_79 : decode cX7_looks 79 = .ok (.invokevirtual 138, 3) := by decide +kernel
theorem dX7_looks_82 : decode cX7_looks 82 = .ok (.aload_n 0, 1) := by decide +kernel
theorem dX7_looks_83 : decode cX7_looks 83 = .ok (.getfield 47, 3) := by decide +kernel
theorem dX7_looks_86 : decode cX7_looks 86 = .ok (.iload_n 3, 1) := by decide +kernel
theorem dX7_looks_87 : decode cX7_looks 87 = .ok (.iaload, 1) := by decide +kernel
theorem dX7_looks_88 : decode cX7_looks 88 = .ok (.if_icmp .le 13, 3) := by decide +kernel
theorem dX7_looks_91 : decode cX7_looks 91 = .ok (.aload_n 0, 1) := by decide +kernel
theorem dX7_looks_92 : decode cX7_looks 92 = .ok (.iload 5, 2) := by decide +kernel
theorem dX7_looks_94 : decode cX7_looks 94 = .ok (.iconst 2, 1) := by decide +kernel
theorem dX7_looks_95 : decode cX7_looks 95 = .ok (.invokevirtual 138, 3) := by decide +kernel
theorem dX7_looks_98 : decode cX7_looks 98 = .ok (.goto 9, 3) := by decide +kernel
theorem dX7_looks_101 : decode cX7_looks 101 = .ok (.aload_n 0, 1) := by decide +kernel
theorem dX7_looks_102 : decode cX7_looks 102 = .ok (.getfield 47, 3) := by decide +kernel
theorem dX7_looks_105 : decode cX7_looks 105 = .ok (.iload_n 3, 1) := by decide +kernel
theorem dX7_looks_106 : decode cX7_looks 106 = .ok (.iaload, 1) := by decide +kernel
theorem dX7_looks_107 : decode cX7_looks 107 = .ok (.iastore, 1) := by decide +kernel
theorem dX7_looks_108 : decode cX7_looks 108 = .ok (.iinc 5 1, 3) := by decide +kernel
theorem dX7_looks_111 : decode cX7_looks 111 = .ok (.goto (-85), 3) := by decide +kernel
theorem dX7_looks_114 : decode cX7_looks 114 = .ok (.iconst 0, 1) := by decide +kernel
theorem dX7_looks_115 : decode cX7_looks 115 = .ok (.istore 5, 2) := by decide +kernel
theorem dX7_looks_117 : decode cX7_looks 117 = .ok (.iload 5, 2) := by decide +kernel
theorem dX7_looks_119 : decode cX7_looks 119 = .ok (.bipush 21, 2) := by decide +kernel
theorem dX7_looks_121 : decode cX7_looks 121 = .ok (.if_icmp .ge 81, 3) := by decide +kernel
theorem dX7_looks_124 : decode cX7_looks 124 = .ok (.aload_n 0, 1) := by decide +kernel
theorem dX7_looks_125 : decode cX7_looks 125 = .ok (.getfield 41, 3) := by decide +kernel
theorem dX7_looks_128 : decode cX7_looks 128 = .ok (.bipush 21, 2) := by decide +kernel
theorem dX7_looks_130 : decode cX7_looks 130 = .ok (.iload_n 3, 1) := by decide +kernel
theorem dX7_looks_131 : decode cX7_looks 131 = .ok (.imul, 1) := by decide +kernel
theorem dX7_looks_132 : decode cX7_looks 132 = .ok (.iload 5, 2) := by decide +kernel
theorem dX7_looks_134 : decode cX7_looks 134 = .ok (.iadd, 1) := by decide +kernel
theorem dX7_looks_135 : decode cX7_looks 135 = .ok (.aload_n 0, 1) := by decide +kernel
theorem dX7_looks_136 : decode cX7_looks 136 = .ok (.iload 4, 2) := by decide +kernel
theorem dX7_looks_138 : decode cX7_looks 138 = .ok (.iload 5, 2) := by decide +kernel
theorem dX7_looks_140 : decode cX7_looks 140 = .ok (.iload_n 2, 1) := by decide +kernel
theorem dX7_looks_141 : decode cX7_looks 141 = .ok (.invokevirtual 270, 3) := by decide +kernel
theorem dX7_looks_144 : decode cX7_looks 144 = .ok (.ifCond .eq 16, 3) := by decide +kernel
theorem dX7_looks_147 : decode cX7_looks 147 = .ok (.aload_n 0, 1) := by decide +kernel
theorem dX7_looks_148 : decode cX7_looks 148 = .ok (.getfield 7, 3) := by decide +kernel
theorem dX7_looks_151 : decode cX7_looks 151 = .ok (.bipush 10, 2) := by decide +kernel
theorem dX7_looks_153 : decode cX7_looks 153 = .ok (.iload 5, 2) := by decide +kernel
theorem dX7_looks_155 : decode cX7_looks 155 = .ok (.iadd, 1) := by decide +kernel
theorem dX7_looks_156 : decode cX7_looks 156 = .ok (.iaload, 1) := by decide +kernel
theorem dX7_looks_157 : decode cX7_looks 157 = .ok (.goto 4, 3) := by decide +kernel
theorem dX7_looks_160 : decode cX7_looks 160 = .ok (.iconst 0, 1) := by decide +kernel
theorem dX7_looks_161 : decode cX7_looks 161 = .ok (.iastore, 1) := by decide +kernel
theorem dX7_looks_162 : decode cX7_looks 162 = .ok (.aload_n 0, 1) := by decide +kernel
theorem dX7_looks_163 : decode cX7_looks 163 = .ok (.getfield 44, 3) := by decide +kernel
theorem dX7_looks_166 : decode cX7_looks 166 = .ok (.bipush 21, 2) := by decide +kernel
theorem dX7_looks_168 : decode cX7_looks 168 = .ok (.iload_n 3, 1) := by decide +kernel
theorem dX7_looks_169 : decode cX7_looks 169 = .ok (.imul, 1) := by decide +kernel
theorem dX7_looks_170 : decode cX7_looks 170 = .ok (.iload 5, 2) := by decide +kernel
theorem dX7_looks_172 : decode cX7_looks 172 = .ok (.iadd, 1) := by decide +kernel
theorem dX7_looks_173 : decode cX7_looks 173 = .ok (.aload_n 0, 1) := by decide +kernel
theorem dX7_looks_174 : decode cX7_looks 174 = .ok (.iload 5, 2) := by decide +kernel
theorem dX7_looks_176 : decode cX7_looks 176 = .ok (.invokevirtual 259, 3) := by decide +kernel
theorem dX7_looks_179 : decode cX7_looks 179 = .ok (.ifCond .eq 15, 3) := by decide +kernel
theorem dX7_looks_182 : decode cX7_looks 182 = .ok (.aload_n 0, 1) := by decide +kernel
theorem dX7_looks_183 : decode cX7_looks 183 = .ok (.iload 4, 2) := by decide +kernel
theorem dX7_looks_185 : decode cX7_looks 185 = .ok (.iload 5, 2) := by decide +kernel
theorem dX7_looks_187 : decode cX7_looks 187 = .ok (.iconst 2, 1) := by decide +kernel
theorem dX7_looks_188 : decode cX7_looks 188 = .ok (.invokevirtual 253, 3) := by decide +kernel
theorem dX7_looks_191 : decode cX7_looks 191 = .ok (.goto 4, 3) := by decide +kernel
theorem dX7_looks_194 : decode cX7_looks 194 = .ok (.iconst 0, 1) := by decide +kernel
theorem dX7_looks_195 : decode cX7_looks 195 = .ok (.iastore, 1) := by decide +kernel
theorem dX7_looks_196 : decode cX7_looks 196 = .ok (.iinc 5 1, 3) := by decide +kernel
theorem dX7_looks_199 : decode cX7_looks 199 = .ok (.goto (-82), 3) := by decide +kernel
theorem dX7_looks_202 : decode cX7_looks 202 = .ok (.iinc 3 1, 3) := by decide +kernel
theorem dX7_looks_205 : decode cX7_looks 205 = .ok (.goto (-203), 3) := by decide +kernel
theorem dX7_looks_208 : decode cX7_looks 208 = .ok (.return_, 1) := by decide +kernel
theorem dX7_goes_0 : decode cX7_goes 0 = .ok (.aload_n 0, 1) := by decide +kernel
theorem dX7_goes_1 : decode cX7_goes 1 = .ok (.getfield 47, 3) := by decide +kernel
theorem dX7_goes_4 : decode cX7_goes 4 = .ok (.iload_n 1, 1) := by decide +kernel
theorem dX7_goes_5 : decode cX7_goes 5 = .ok (.iaload, 1) := by decide +kernel
theorem dX7_goes_6 : decode cX7_goes 6 = .ok (.iconst (-1), 1) := by decide +kernel
theorem dX7_goes_7 : decode cX7_goes 7 = .ok (.if_icmp .eq 37, 3) := by decide +kernel
theorem dX7_goes_10 : decode cX7_goes 10 = .ok (.aload_n 0, 1) := by decide +kernel
theorem dX7_goes_11 : decode cX7_goes 11 = .ok (.getfield 44, 3) := by decide +kernel
theorem dX7_goes_14 : decode cX7_goes 14 = .ok (.bipush 21, 2) := by decide +kernel
theorem dX7_goes_16 : decode cX7_goes 16 = .ok (.iload_n 1, 1) := by decide +kernel
theorem dX7_goes_17 : decode cX7_goes 17 = .ok (.iconst 1, 1) := by decide +kernel
theorem dX7_goes_18 : decode cX7_goes 18 = .ok (.iadd, 1) := by decide +kernel
theorem dX7_goes_19 : decode cX7_goes 19 = .ok (.imul, 1) := by decide +kernel
theorem dX7_goes_20 : decode cX7_goes 20 = .ok (.iload_n 3, 1) := by decide +kernel
theorem dX7_goes_21 : decode cX7_goes 21 = .ok (.iadd, 1) := by decide +kernel
theorem dX7_goes_22 : decode cX7_goes 22 = .ok (.iaload, 1) := by decide +kernel
theorem dX7_goes_23 : decode cX7_goes 23 = .ok (.aload_n 0, 1) := by decide +kernel
theorem dX7_goes_24 : decode cX7_goes 24 = .ok (.getfield 44, 3) := by decide +kernel
theorem dX7_goes_27 : decode cX7_goes 27 = .ok (.bipush 21, 2) := by decide +kernel
theorem dX7_goes_29 : decode cX7_goes 29 = .ok (.iload_n 1, 1) := by decide +kernel
theorem dX7_goes_30 : decode cX7_goes 30 = .ok (.imul, 1) := by decide +kernel
theorem dX7_goes_31 : decode cX7_goes 31 = .ok (.iload_n 2, 1) := by decide +kernel
theorem dX7_goes_32 : decode cX7_goes 32 = .ok (.iadd, 1) := by decide +kernel
theorem dX7_goes_33 : decode cX7_goes 33 = .ok (.iaload, 1) := by decide +kernel
theorem dX7_goes_34 : decode cX7_goes 34 = .ok (.isub, 1) := by decide +kernel
theorem dX7_goes_35 : decode cX7_goes 35 = .ok (.aload_n 0, 1) := by decide +kernel
theorem dX7_goes_36 : decode cX7_goes 36 = .ok (.getfield 47, 3) := by decide +kernel
theorem dX7_goes_39 : decode cX7_goes 39 = .ok (.iload_n 1, 1) := by decide +kernel
theorem dX7_goes_40 : decode cX7_goes 40 = .ok (.iaload, 1) := by decide +kernel
theorem dX7_goes_41 : decode cX7_goes 41 = .ok (.if_icmp .lt 7, 3) := by decide +kernel
theorem dX7_goes_44 : decode cX7_goes 44 = .ok (.iconst 1, 1) := by decide +kernel
theorem dX7_goes_45 : decode cX7_goes 45 = .ok (.goto 4, 3) := by decide +kernel
theorem dX7_goes_48 : decode cX7_goes 48 = .ok (.iconst 0, 1) := by decide +kernel
theorem dX7_goes_49 : decode cX7_goes 49 = .ok (.istore 4, 2) := by decide +kernel
theorem dX7_goes_51 : decode cX7_goes 51 = .ok (.iload 4, 2) := by decide +kernel
theorem dX7_goes_53 : decode cX7_goes 53 = .ok (.ifCond .ne 7, 3) := by decide +kernel
theorem dX7_goes_56 : decode cX7_goes 56 = .ok (.iconst 0, 1) := by decide +kernel
theorem dX7_goes_57 : decode cX7_goes 57 = .ok (.goto 19, 3) := by decide +kernel
theorem dX7_goes_60 : decode cX7_goes 60 = .ok (.iload_n 2, 1) := by decide +kernel
theorem dX7_goes_61 : decode cX7_goes 61 = .ok (.iload_n 3, 1) := by decide +kernel
theorem dX7_goes_62 : decode cX7_goes 62 = .ok (.if_icmp .ne 13, 3) := by decide +kernel
theorem dX7_goes_65 : decode cX7_goes 65 = .ok (.aload_n 0, 1) := by decide +kernel
theorem dX7_goes_66 : decode cX7_goes 66 = .ok (.getfield 7, 3) := by decide +kernel
theorem dX7_goes_69 : decode cX7_goes 69 = .ok (.bipush 8, 2) := by decide +kernel
theorem dX7_goes_71 : decode cX7_goes 71 = .ok (.iaload, 1) := by decide +kernel
theorem dX7_goes_72 : decode cX7_goes 72 = .ok (.goto 4, 3) := by decide +kernel
theorem dX7_goes_75 : decode cX7_goes 75 = .ok (.iconst 1, 1) := by decide +kernel
theorem dX7_goes_76 : decode cX7_goes 76 = .ok (.ireturn, 1) := by decide +kernel
theorem dX7_can_0 : decode cX7_can 0 = .ok (.aload_n 0, 1) := by decide +kernel
theorem dX7_can_1 : decode cX7_can 1 = .ok (.iload_n 1, 1) := by decide +kernel
theorem dX7_can_2 : decode cX7_can 2 = .ok (.iload_n 2, 1) := by decide +kernel
theorem dX7_can_3 : decode cX7_can 3 = .ok (.invokevirtual 273, 3) := by decide +kernel
theorem dX7_can_6 : decode cX7_can 6 = .ok (.iconst 0, 1) := by decide +kernel
theorem dX7_can_7 : decode cX7_can 7 = .ok (.istore_n 3, 1) := by decide +kernel
theorem dX7_can_8 : decode cX7_can 8 = .ok (.iload_n 3, 1) := by decide +kernel
theorem dX7_can_9 : decode cX7_can 9 = .ok (.sipush 168, 3) := by decide +kernel
theorem dX7_can_12 : decode cX7_can 12 = .ok (.if_icmp .ge 123, 3) := by decide +kernel
theorem dX7_can_15 : decode cX7_can 15 = .ok (.iload_n 3, 1) := by decide +kernel
theorem dX7_can_16 : decode cX7_can 16 = .ok (.bipush 21, 2) := by decide +kernel
theorem dX7_can_18 : decode cX7_can 18 = .ok (.if_icmp .ge 16, 3) := by decide +kernel
theorem dX7_can_21 : decode cX7_can 21 = .ok (.aload_n 0, 1) := by decide +kernel
theorem dX7_can_22 : decode cX7_can 22 = .ok (.getfield 41, 3) := by decide +kernel
theorem dX7_can_25 : decode cX7_can 25 = .ok (.iload_n 3, 1) := by decide +kernel
theorem dX7_can_26 : decode cX7_can 26 = .ok (.iaload, 1) := by decide +kernel
theorem dX7_can_27 : decode cX7_can 27 = .ok (.ifCond .le 7, 3) := by decide +kernel
theorem dX7_can_30 : decode cX7_can 30 = .ok (.iconst 1, 1) := by decide +kernel
theorem dX7_can_31 : decode cX7_can 31 = .ok (.goto 4, 3) := by decide +kernel
theorem dX7_can_34 : decode cX7_can 34 = .ok (.iconst 0, 1) := by decide +kernel
theorem dX7_can_35 : decode cX7_can 35 = .ok (.istore 4, 2) := by decide +kernel
theorem dX7_can_37 : decode cX7_can 37 = .ok (.iload_n 3, 1) := by decide +kernel
theorem dX7_can_38 : decode cX7_can 38 = .ok (.bipush 21, 2) := by decide +kernel
theorem dX7_can_40 : decode cX7_can 40 = .ok (.idiv, 1) := by decide +kernel
theorem dX7_can_41 : decode cX7_can 41 = .ok (.istore 5, 2) := by decide +kernel
theorem dX7_can_43 : decode cX7_can 43 = .ok (.iconst 0, 1) := by decide +kernel
theorem dX7_can_44 : decode cX7_can 44 = .ok (.istore 6, 2) := by decide +kernel
theorem dX7_can_46 : decode cX7_can 46 = .ok (.iload 6, 2) := by decide +kernel
theorem dX7_can_48 : decode cX7_can 48 = .ok (.bipush 21, 2) := by decide +kernel
theorem dX7_can_50 : decode cX7_can 50 = .ok (.if_icmp .ge 71, 3) := by decide +kernel
theorem dX7_can_53 : decode cX7_can 53 = .ok (.iload_n 3, 1) := by decide +kernel
theorem dX7_can_54 : decode cX7_can 54 = .ok (.bipush 21, 2) := by decide +kernel
theorem dX7_can_56 : decode cX7_can 56 = .ok (.if_icmp .lt 65, 3) := by decide +kernel
theorem dX7_can_59 : decode cX7_can 59 = .ok (.aload_n 0, 1) := by decide +kernel
theorem dX7_can_60 : decode cX7_can 60 = .ok (.getfield 41, 3) := by decide +kernel
theorem dX7_can_63 : decode cX7_can 63 = .ok (.iload_n 3, 1) := by decide +kernel
theorem dX7_can_64 : decode cX7_can 64 = .ok (.iaload, 1) := by decide +kernel
theorem dX7_can_65 : decode cX7_can 65 = .ok (.ifCond .le 56, 3) := by decide +kernel
theorem dX7_can_68 : decode cX7_can 68 = .ok (.iload 4, 2) := by decide +kernel
theorem dX7_can_70 : decode cX7_can 70 = .ok (.ifCond .ne 51, 3) := by decide +kernel
theorem dX7_can_73 : decode cX7_can 73 = .ok (.aload_n 0, 1) := by decide +kernel
theorem dX7_can_74 : decode cX7_can 74 = .ok (.getfield 50, 3) := by decide +kernel
theorem dX7_can_77 : decode cX7_can 77 = .ok (.bipush 21, 2) := by decide +kernel
theorem dX7_can_79 : decode cX7_can 79 = .ok (.iload 5, 2) := by decide +kernel
theorem dX7_can_81 : decode cX7_can 81 = .ok (.iconst 1, 1) := by decide +kernel
theorem dX7_can_82 : decode cX7_can 82 = .ok (.isub, 1) := by decide +kernel
theorem dX7_can_83 : decode cX7_can 83 = .ok (.imul, 1) := by decide +kernel
theorem dX7_can_84 : decode cX7_can 84 = .ok (.iload 6, 2) := by decide +kernel
theorem dX7_can_86 : decode cX7_can 86 = .ok (.iadd, 1) := by decide +kernel
theorem dX7_can_87 : decode cX7_can 87 = .ok (.baload, 1) := by decide +kernel
theorem dX7_can_88 : decode cX7_can 88 = .ok (.ifCond .eq 24, 3) := by decide +kernel
theorem dX7_can_91 : decode cX7_can 91 = .ok (.aload_n 0, 1) := by decide +kernel
theorem dX7_can_92 : decode cX7_can 92 = .ok (.iload 5, 2) := by decide +kernel
theorem dX7_can_94 : decode cX7_can 94 = .ok (.iconst 1, 1) := by decide +kernel
theorem dX7_can_95 : decode cX7_can 95 = .ok (.isub, 1) := by decide +kernel
theorem dX7_can_96 : decode cX7_can 96 = .ok (.iload 6, 2) := by decide +kernel
theorem dX7_can_98 : decode cX7_can 98 = .ok (.iload_n 3, 1) := by decide +kernel
theorem dX7_can_99 : decode cX7_can 99 = .ok (.bipush 21, 2) := by decide +kernel
theorem dX7_can_101 : decode cX7_can 101 = .ok (.irem, 1) := by decide +kernel
theorem dX7_can_102 : decode cX7_can 102 = .ok (.invokevirtual 276, 3) := by decide +kernel
theorem dX7_can_105 : decode cX7_can 105 = .ok (.ifCond .le 7, 3) := by decide +kernel
theorem dX7_can_108 : decode cX7_can 108 = .ok (.iconst 1, 1) := by decide +kernel
theorem dX7_can_109 : decode cX7_can 109 = .ok (.goto 4, 3) := by decide +kernel
theorem dX7_can_112 : decode cX7_can 112 = .ok (.iconst 0, 1) := by decide +kernel
theorem dX7_can_113 : decode cX7_can 113 = .ok (.istore 4, 2) := by decide +kernel
theorem dX7_can_115 : decode cX7_can 115 = .ok (.iinc 6 1, 3) := by decide +kernel
theorem dX7_can_118 : decode cX7_can 118 = .ok (.goto (-72), 3) := by decide +kernel
theorem dX7_can_121 : decode cX7_can 121 = .ok (.aload_n 0, 1) := by decide +kernel
theorem dX7_can_122 : decode cX7_can 122 = .ok (.getfield 50, 3) := by decide +kernel
theorem dX7_can_125 : decode cX7_can 125 = .ok (.iload_n 3, 1) := by decide +kernel
theorem dX7_can_126 : decode cX7_can 126 = .ok (.iload 4, 2) := by decide +kernel
theorem dX7_can_128 : decode cX7_can 128 = .ok (.bastore, 1) := by decide +kernel
theorem dX7_can_129 : decode cX7_can 129 = .ok (.iinc 3 1, 3) := by decide +kernel
theorem dX7_can_132 : decode cX7_can 132 = .ok (.goto (-124), 3) := by decide +kernel
theorem dX7_can_135 : decode cX7_can 135 = .ok (.iconst 0, 1) := by decide +kernel
theorem dX7_can_136 : decode cX7_can 136 = .ok (.istore_n 3, 1) := by decide +kernel
theorem dX7_can_137 : decode cX7_can 137 = .ok (.sipush 147, 3) := by decide +kernel
theorem dX7_can_140 : decode cX7_can 140 = .ok (.istore 4, 2) := by decide +kernel
theorem dX7_can_142 : decode cX7_can 142 = .ok (.iload 4, 2) := by decide +kernel
theorem dX7_can_144 : decode cX7_can 144 = .ok (.sipush 168, 3) := by decide +kernel
theorem dX7_can_147 : decode cX7_can 147 = .ok (.if_icmp .ge 29, 3) := by decide +kernel
theorem dX7_can_150 : decode cX7_can 150 = .ok (.iload_n 3, 1) := by decide +kernel
theorem dX7_can_151 : decode cX7_can 151 = .ok (.ifCond .ne 13, 3) := by decide +kernel
theorem dX7_can_154 : decode cX7_can 154 = .ok (.aload_n 0, 1) := by decide +kernel
theorem dX7_can_155 : decode cX7_can 155 = .ok (.getfield 50, 3) := by decide +kernel
theorem dX7_can_158 : decode cX7_can 158 = .ok (.iload 4, 2) := by decide +kernel
theorem dX7_can_160 : decode cX7_can 160 = .ok (.baload, 1) := by decide +kernel
theorem dX7_can_161 : decode cX7_can 161 = .ok (.ifCond .eq 7, 3) := by decide +kernel
theorem dX7_can_164 : decode cX7_can 164 = .ok (.iconst 1, 1) := by decide +kernel
theorem dX7_can_165 : decode cX7_can 165 = .ok (.goto 4, 3) := by decide +kernel
theorem dX7_can_168 : decode cX7_can 168 = .ok (.iconst 0, 1) := by decide +kernel
theorem dX7_can_169 : decode cX7_can 169 = .ok (.istore_n 3, 1) := by decide +kernel
theorem dX7_can_170 : decode cX7_can 170 = .ok (.iinc 4 1, 3) := by decide +kernel
theorem dX7_can_173 : decode cX7_can 173 = .ok (.goto (-31), 3) := by decide +kernel
theorem dX7_can_176 : decode cX7_can 176 = .ok (.iload_n 3, 1) := by decide +kernel
theorem dX7_can_177 : decode cX7_can 177 = .ok (.ireturn, 1) := by decide +kernel
theorem dX7_forth_0 : decode cX7_forth 0 = .ok (.aload_n 0, 1) := by decide +kernel
theorem dX7_forth_1 : decode cX7_forth 1 = .ok (.iload_n 1, 1) := by decide +kernel
theorem dX7_forth_2 : decode cX7_forth 2 = .ok (.iconst 0, 1) := by decide +kernel
theorem dX7_forth_3 : decode cX7_forth 3 = .ok (.invokevirtual 273, 3) := by decide +kernel
theorem dX7_forth_6 : decode cX7_forth 6 = .ok (.iconst 0, 1) := by decide +kernel
theorem dX7_forth_7 : decode cX7_forth 7 = .ok (.istore_n 2, 1) := by decide +kernel
theorem dX7_forth_8 : decode cX7_forth 8 = .ok (.iload_n 2, 1) := by decide +kernel
theorem dX7_forth_9 : decode cX7_forth 9 = .ok (.sipush 168, 3) := by decide +kernel
theorem dX7_forth_12 : decode cX7_forth 12 = .ok (.if_icmp .ge 149, 3) := by decide +kernel
theorem dX7_forth_15 : decode cX7_forth 15 = .ok (.iload_n 2, 1) := by decide +kernel
theorem dX7_forth_16 : decode cX7_forth 16 = .ok (.bipush 21, 2) := by decide +kernel
theorem dX7_forth_18 : decode cX7_forth 18 = .ok (.idiv, 1) := by decide +kernel
theorem dX7_forth_19 : decode cX7_forth 19 = .ok (.istore_n 3, 1) := by decide +kernel
theorem dX7_forth_20 : decode cX7_forth 20 = .ok (.aload_n 0, 1) := by decide +kernel
theorem dX7_forth_21 : decode cX7_forth 21 = .ok (.bipush 20, 2) := by decide +kernel
theorem dX7_forth_23 : decode cX7_forth 23 = .ok (.iload_n 2, 1) := by decide +kernel
theorem dX7_forth_24 : decode cX7_forth 24 = .ok (.iadd, 1) := by decide +kernel
theorem dX7_forth_25 : decode cX7_forth 25 = .ok (.iload_n 3, 1) := by decide +kernel
theorem dX7_forth_26 : decode cX7_forth 26 = .ok (.ifCond .ne 13, 3) := by decide +kernel
theorem dX7_forth_29 : decode cX7_forth 29 = .ok (.aload_n 0, 1) := by decide +kernel
theorem dX7_forth_30 : decode cX7_forth 30 = .ok (.getfield 41, 3) := by decide +kernel
theorem dX7_forth_33 : decode cX7_forth 33 = .ok (.iload_n 2, 1) := by decide +kernel
theorem dX7_forth_34 : decode cX7_forth 34 = .ok (.iaload, 1) := by decide +kernel
theorem dX7_forth_35 : decode cX7_forth 35 = .ok (.i2l, 1) := by decide +kernel
theorem dX7_forth_36 : decode cX7_forth 36 = .ok (.goto 4, 3) := by decide +kernel
theorem dX7_forth_39 : decode cX7_forth 39 = .ok (.lconst 0, 1) := by decide +kernel
theorem dX7_forth_40 : decode cX7_forth 40 = .ok (.invokevirtual 56, 3) := by decide +kernel
theorem dX7_forth_43 : decode cX7_forth 43 = .ok (.iconst 0, 1) := by decide +kernel
theorem dX7_forth_44 : decode cX7_forth 44 = .ok (.istore 4, 2) := by decide +kernel
theorem dX7_forth_46 : decode cX7_forth 46 = .ok (.iload 4, 2) := by decide +kernel
theorem dX7_forth_48 : decode cX7_forth 48 = .ok (.bipush 21, 2) := by decide +kernel
theorem dX7_forth_50 : decode cX7_forth 50 = .ok (.if_icmp .ge 105, 3) := by decide +kernel
theorem dX7_forth_53 : decode cX7_forth 53 = .ok (.iload_n 3, 1) := by decide +kernel
theorem dX7_forth_54 : decode cX7_forth 54 = .ok (.ifCond .le 101, 3) := by decide +kernel
theorem dX7_forth_57 : decode cX7_forth 57 = .ok (.aload_n 0, 1) := by decide +kernel
theorem dX7_forth_58 : decode cX7_forth 58 = .ok (.getfield 41, 3) := by decide +kernel
theorem dX7_forth_61 : decode cX7_forth 61 = .ok (.iload_n 2, 1) := by decide +kernel
theorem dX7_forth_62 : decode cX7_forth 62 = .ok (.iaload, 1) := by decide +kernel
theorem dX7_forth_63 : decode cX7_forth 63 = .ok (.ifCond .le 92, 3) := by decide +kernel
theorem dX7_forth_66 : decode cX7_forth 66 = .ok (.aload_n 0, 1) := by decide +kernel
theorem dX7_forth_67 : decode cX7_forth 67 = .ok (.iload_n 3, 1) := by decide +kernel
theorem dX7_forth_68 : decode cX7_forth 68 = .ok (.iconst 1, 1) := by decide +kernel
theorem dX7_forth_69 : decode cX7_forth 69 = .ok (.isub, 1) := by decide +kernel
theorem dX7_forth_70 : decode cX7_forth 70 = .ok (.iload 4, 2) := by decide +kernel
theorem dX7_forth_72 : decode cX7_forth 72 = .ok (.iload_n 2, 1) := by decide +kernel
theorem dX7_forth_73 : decode cX7_forth 73 = .ok (.bipush 21, 2) := by decide +kernel
theorem dX7_forth_75 : decode cX7_forth 75 = .ok (.irem, 1) := by decide +kernel
theorem dX7_forth_76 : decode cX7_forth 76 = .ok (.invokevirtual 276, 3) := by decide +kernel
theorem dX7_forth_79 : decode cX7_forth 79 = .ok (.aload_n 0, 1) := by decide +kernel
theorem dX7_forth_80 : decode cX7_forth 80 = .ok (.getfield 41, 3) := by decide +kernel
theorem dX7_forth_83 : decode cX7_forth 83 = .ok (.iload_n 2, 1) := by decide +kernel
theorem dX7_forth_84 : decode cX7_forth 84 = .ok (.iaload, 1) := by decide +kernel
theorem dX7_forth_85 : decode cX7_forth 85 = .ok (.imul, 1) := by decide +kernel
theorem dX7_forth_86 : decode cX7_forth 86 = .ok (.istore 5, 2) := by decide +kernel
theorem dX7_forth_88 : decode cX7_forth 88 = .ok (.iload 5, 2) := by decide +kernel
theorem dX7_forth_90 : decode cX7_forth 90 = .ok (.ifCond .le 59, 3) := by decide +kernel
theorem dX7_forth_93 : decode cX7_forth 93 = .ok (.aload_n 0, 1) := by decide +kernel
theorem dX7_forth_94 : decode cX7_forth 94 = .ok (.getfield 29, 3) := by decide +kernel
theorem dX7_forth_97 : decode cX7_forth 97 = .ok (.bipush 20, 2) := by decide +kernel
theorem dX7_forth_99 : decode cX7_forth 99 = .ok (.bipush 21, 2) := by decide +kernel
theorem dX7_forth_101 : decode cX7_forth 101 = .ok (.iload_n 3, 1) := by decide +kernel
theorem dX7_forth_102 : decode cX7_forth 102 = .ok (.iconst 1, 1) := by decide +kernel
theorem dX7_forth_103 : decode cX7_forth 103 = .ok (.isub, 1) := by decide +kernel
theorem dX7_forth_104 : decode cX7_forth 104 = .ok (.imul, 1) := by decide +kernel
theorem dX7_forth_105 : decode cX7_forth 105 = .ok (.iadd, 1) := by decide +kernel
theorem dX7_forth_106 : decode cX7_forth 106 = .ok (.iload 4, 2) := by decide +kernel
theorem dX7_forth_108 : decode cX7_forth 108 = .ok (.iadd, 1) := by decide +kernel
theorem dX7_forth_109 : decode cX7_forth 109 = .ok (.iaload, 1) := by decide +kernel
theorem dX7_forth_110 : decode cX7_forth 110 = .ok (.ifCond .le 39, 3) := by decide +kernel
theorem dX7_forth_113 : decode cX7_forth 113 = .ok (.aload_n 0, 1) := by decide +kernel
theorem dX7_forth_114 : decode cX7_forth 114 = .ok (.bipush 6, 2) := by decide +kernel
theorem dX7_forth_116 : decode cX7_forth 116 = .ok (.bipush 20, 2) := by decide +kernel
theorem dX7_forth_118 : decode cX7_forth 118 = .ok (.bipush 21, 2) := by decide +kernel
theorem dX7_forth_120 : decode cX7_forth 120 = .ok (.iload_n 3, 1) := by decide +kernel
theorem dX7_forth_121 : decode cX7_forth 121 = .ok (.iconst 1, 1) := by decide +kernel
theorem dX7_forth_122 : decode cX7_forth 122 = .ok (.isub, 1) := by decide +kernel
theorem dX7_forth_123 : decode cX7_forth 123 = .ok (.imul, 1) := by decide +kernel
theorem dX7_forth_124 : decode cX7_forth 124 = .ok (.iadd, 1) := by decide +kernel
theorem dX7_forth_125 : decode cX7_forth 125 = .ok (.iload 4, 2) := by decide +kernel
theorem dX7_forth_127 : decode cX7_forth 127 = .ok (.iadd, 1) := by decide +kernel
theorem dX7_forth_128 : decode cX7_forth 128 = .ok (.invokevirtual 74, 3) := by decide +kernel
theorem dX7_forth_131 : decode cX7_forth 131 = .ok (.aload_n 0, 1) := by decide +kernel
theorem dX7_forth_132 : decode cX7_forth 132 = .ok (.bipush 6, 2) := by decide +kernel
theorem dX7_forth_134 : decode cX7_forth 134 = .ok (.iload 5, 2) := by decide +kernel
theorem dX7_forth_136 : decode cX7_forth 136 = .ok (.invokevirtual 279, 3) := by decide +kernel
theorem dX7_forth_139 : decode cX7_forth 139 = .ok (.aload_n 0, 1) := by decide +kernel
theorem dX7_forth_140 : decode cX7_forth 140 = .ok (.bipush 20, 2) := by decide +kernel
theorem dX7_forth_142 : decode cX7_forth 142 = .ok (.iload_n 2, 1) := by decide +kernel
theorem dX7_forth_143 : decode cX7_forth 143 = .ok (.iadd, 1) := by decide +kernel
theorem dX7_forth_144 : decode cX7_forth 144 = .ok (.bipush 6, 2) := by decide +kernel
theorem dX7_forth_146 : decode cX7_forth 146 = .ok (.invokevirtual 282, 3) := by decide +kernel
theorem dX7_forth_149 : decode cX7_forth 149 = .ok (.iinc 4 1, 3) := by decide +kernel
theorem dX7_forth_152 : decode cX7_forth 152 = .ok (.goto (-106), 3) := by decide +kernel
theorem dX7_forth_155 : decode cX7_forth 155 = .ok (.iinc 2 1, 3) := by decide +kernel
theorem dX7_forth_158 : decode cX7_forth 158 = .ok (.goto (-150), 3) := by decide +kernel
theorem dX7_forth_161 : decode cX7_forth 161 = .ok (.aload_n 0, 1) := by decide +kernel
theorem dX7_forth_162 : decode cX7_forth 162 = .ok (.iconst 5, 1) := by decide +kernel
theorem dX7_forth_163 : decode cX7_forth 163 = .ok (.lconst 0, 1) := by decide +kernel
theorem dX7_forth_164 : decode cX7_forth 164 = .ok (.invokevirtual 56, 3) := by decide +kernel
theorem dX7_forth_167 : decode cX7_forth 167 = .ok (.sipush 147, 3) := by decide +kernel
theorem dX7_forth_170 : decode cX7_forth 170 = .ok (.istore_n 2, 1) := by decide +kernel
theorem dX7_forth_171 : decode cX7_forth 171 = .ok (.iload_n 2, 1) := by decide +kernel
theorem dX7_forth_172 : decode cX7_forth 172 = .ok (.sipush 168, 3) := by decide +kernel
theorem dX7_forth_175 : decode cX7_forth 175 = .ok (.if_icmp .ge 18, 3) := by decide +kernel
theorem dX7_forth_178 : decode cX7_forth 178 = .ok (.aload_n 0, 1) := by decide +kernel
theorem dX7_forth_179 : decode cX7_forth 179 = .ok (.iconst 5, 1) := by decide +kernel
theorem dX7_forth_180 : decode cX7_forth 180 = .ok (.bipush 20, 2) := by decide +kernel
theorem dX7_forth_182 : decode cX7_forth 182 = .ok (.iload_n 2, 1) := by decide +kernel
theorem dX7_forth_183 : decode cX7_forth 183 = .ok (.iadd, 1) := by decide +kernel
theorem dX7_forth_184 : decode cX7_forth 184 = .ok (.invokevirtual 282, 3) := by decide +kernel
theorem dX7_forth_187 : decode cX7_forth 187 = .ok (.iinc 2 1, 3) := by decide +kernel
theorem dX7_forth_190 : decode cX7_forth 190 = .ok (.goto (-19), 3) := by decide +kernel
theorem dX7_forth_193 : decode cX7_forth 193 = .ok (.aload_n 0, 1) := by decide +kernel
theorem dX7_forth_194 : decode cX7_forth 194 = .ok (.getfield 29, 3) := by decide +kernel
theorem dX7_forth_197 : decode cX7_forth 197 = .ok (.iconst 5, 1) := by decide +kernel
theorem dX7_forth_198 : decode cX7_forth 198 = .ok (.iaload, 1) := by decide +kernel
theorem dX7_forth_199 : decode cX7_forth 199 = .ok (.ifCond .le 7, 3) := by decide +kernel
theorem dX7_forth_202 : decode cX7_forth 202 = .ok (.iconst 1, 1) := by decide +kernel
theorem dX7_forth_203 : decode cX7_forth 203 = .ok (.goto 4, 3) := by decide +kernel
theorem dX7_forth_206 : decode cX7_forth 206 = .ok (.iconst 0, 1) := by decide +kernel
theorem dX7_forth_207 : decode cX7_forth 207 = .ok (.ireturn, 1) := by decide +kernel
theorem dX7_back_0 : decode cX7_back 0 = .ok (.sipush 167, 3) := by decide +kernel
theorem dX7_back_3 : decode cX7_back 3 = .ok (.istore_n 2, 1) := by decide +kernel
theorem dX7_back_4 : decode cX7_back 4 = .ok (.iload_n 2, 1) := by decide +kernel
theorem dX7_back_5 : decode cX7_back 5 = .ok (.ifCond .lt 207, 3) := by decide +kernel
theorem dX7_back_8 : decode cX7_back 8 = .ok (.iload_n 2, 1) := by decide +kernel
theorem dX7_back_9 : decode cX7_back 9 = .ok (.bipush 21, 2) := by decide +kernel
theorem dX7_back_11 : decode cX7_back 11 = .ok (.idiv, 1) := by decide +kernel
theorem dX7_back_12 : decode cX7_back 12 = .ok (.istore_n 3, 1) := by decide +kernel
theorem dX7_back_13 : decode cX7_back 13 = .ok (.aload_n 0, 1) := by decide +kernel
theorem dX7_back_14 : decode cX7_back 14 = .ok (.sipush 188, 3) := by decide +kernel
theorem dX7_back_17 : decode cX7_back 17 = .ok (.iload_n 2, 1) := by decide +kernel
theorem dX7_back_18 : decode cX7_back 18 = .ok (.iadd, 1) := by decide +kernel
theorem dX7_back_19 : decode cX7_back 19 = .ok (.iload_n 3, 1) := by decide +kernel
theorem dX7_back_20 : decode cX7_back 20 = .ok (.bipush 7, 2) := by decide +kernel
theorem dX7_back_22 : decode cX7_back 22 = .ok (.if_icmp .ne 7, 3) := by decide +kernel
theorem dX7_back_25 : decode cX7_back 25 = .ok (.lconst 1, 1) := by decide +kernel
theorem dX7_back_26 : decode cX7_back 26 = .ok (.goto 4, 3) := by decide +kernel
theorem dX7_back_29 : decode cX7_back 29 = .ok (.lconst 0, 1) := by decide +kernel
theorem dX7_back_30 : decode cX7_back 30 = .ok (.invokevirtual 56, 3) := by decide +kernel
theorem dX7_back_33 : decode cX7_back 33 = .ok (.iconst 0, 1) := by decide +kernel
theorem dX7_back_34 : decode cX7_back 34 = .ok (.istore 4, 2) := by decide +kernel
theorem dX7_back_36 : decode cX7_back 36 = .ok (.iload 4, 2) := by decide +kernel
theorem dX7_back_38 : decode cX7_back 38 = .ok (.bipush 21, 2) := by decide +kernel
theorem dX7_back_40 : decode cX7_back 40 = .ok (.if_icmp .ge 147, 3) := by decide +kernel
theorem dX7_back_43 : decode cX7_back 43 = .ok (.iload_n 3, 1) := by decide +kernel
theorem dX7_back_44 : decode cX7_back 44 = .ok (.bipush 7, 2) := by decide +kernel
theorem dX7_back_46 : decode cX7_back 46 = .ok (.if_icmp .ge 141, 3) := by decide +kernel
theorem dX7_back_49 : decode cX7_back 49 = .ok (.aload_n 0, 1) := by decide +kernel
theorem dX7_back_50 : decode cX7_back 50 = .ok (.iload_n 3, 1) := by decide +kernel
theorem dX7_back_51 : decode cX7_back 51 = .ok (.iload_n 2, 1) := by decide +kernel
theorem dX7_back_52 : decode cX7_back 52 = .ok (.bipush 21, 2) := by decide +kernel
theorem dX7_back_54 : decode cX7_back 54 = .ok (.irem, 1) := by decide +kernel
theorem dX7_back_55 : decode cX7_back 55 = .ok (.iload 4, 2) := by decide +kernel
theorem dX7_back_57 : decode cX7_back 57 = .ok (.invokevirtual 276, 3) := by decide +kernel
theorem dX7_back_60 : decode cX7_back 60 = .ok (.iload_n 1, 1) := by decide +kernel
theorem dX7_back_61 : decode cX7_back 61 = .ok (.ifCond .eq 7, 3) := by decide +kernel
theorem dX7_back_64 : decode cX7_back 64 = .ok (.iconst 1, 1) := by decide +kernel
theorem dX7_back_65 : decode cX7_back 65 = .ok (.goto 17, 3) := by decide +kernel
theorem dX7_back_68 : decode cX7_back 68 = .ok (.aload_n 0, 1) := by decide +kernel
theorem dX7_back_69 : decode cX7_back 69 = .ok (.getfield 41, 3) := by decide +kernel
theorem dX7_back_72 : decode cX7_back 72 = .ok (.bipush 21, 2) := by decide +kernel
theorem dX7_back_74 : decode cX7_back 74 = .ok (.iload_n 3, 1) := by decide +kernel
theorem dX7_back_75 : decode cX7_back 75 = .ok (.iconst 1, 1) := by decide +kernel
theorem dX7_back_76 : decode cX7_back 76 = .ok (.iadd, 1) := by decide +kernel
theorem dX7_back_77 : decode cX7_back 77 = .ok (.imul, 1) := by decide +kernel
theorem dX7_back_78 : decode cX7_back 78 = .ok (.iload 4, 2) := by decide +kernel
theorem dX7_back_80 : decode cX7_back 80 = .ok (.iadd, 1) := by decide +kernel
theorem dX7_back_81 : decode cX7_back 81 = .ok (.iaload, 1) := by decide +kernel
theorem dX7_back_82 : decode cX7_back 82 = .ok (.imul, 1) := by decide +kernel
theorem dX7_back_83 : decode cX7_back 83 = .ok (.istore 5, 2) := by decide +kernel
theorem dX7_back_85 : decode cX7_back 85 = .ok (.iload 5, 2) := by decide +kernel
theorem dX7_back_87 : decode cX7_back 87 = .ok (.ifCond .le 94, 3) := by decide +kernel
theorem dX7_back_90 : decode cX7_back 90 = .ok (.aload_n 0, 1) := by decide +kernel
theorem dX7_back_91 : decode cX7_back 91 = .ok (.getfield 29, 3) := by decide +kernel
theorem dX7_back_94 : decode cX7_back 94 = .ok (.sipush 188, 3) := by decide +kernel
theorem dX7_back_97 : decode cX7_back 97 = .ok (.bipush 21, 2) := by decide +kernel
theorem dX7_back_99 : decode cX7_back 99 = .ok (.iload_n 3, 1) := by decide +kernel
theorem dX7_back_100 : decode cX7_back 100 = .ok (.iconst 1, 1) := by decide +kernel
theorem dX7_back_101 : decode cX7_back 101 = .ok (.iadd, 1) := by decide +kernel
theorem dX7_back_102 : decode cX7_back 102 = .ok (.imul, 1) := by decide +kernel
theorem dX7_back_103 : decode cX7_back 103 = .ok (.iadd, 1) := by decide +kernel
theorem dX7_back_104 : decode cX7_back 104 = .ok (.iload 4, 2) := by decide +kernel
theorem dX7_back_106 : decode cX7_back 106 = .ok (.iadd, 1) := by decide +kernel
theorem dX7_back_107 : decode cX7_back 107 = .ok (.iaload, 1) := by decide +kernel
theorem dX7_back_108 : decode cX7_back 108 = .ok (.ifCond .le 73, 3) := by decide +kernel
theorem dX7_back_111 : decode cX7_back 111 = .ok (.aload_n 0, 1) := by decide +kernel
theorem dX7_back_112 : decode cX7_back 112 = .ok (.bipush 6, 2) := by decide +kernel
theorem dX7_back_114 : decode cX7_back 114 = .ok (.sipush 188, 3) := by decide +kernel
theorem dX7_back_117 : decode cX7_back 117 = .ok (.bipush 21, 2) := by decide +kernel
theorem dX7_back_119 : decode cX7_back 119 = .ok (.iload_n 3, 1) := by decide +kernel
theorem dX7_back_120 : decode cX7_back 120 = .ok (.iconst 1, 1) := by decide +kernel
theorem dX7_back_121 : decode cX7_back 121 = .ok (.iadd, 1) := by decide +kernel
theorem dX7_back_122 : decode cX7_back 122 = .ok (.imul, 1) := by decide +kernel
theorem dX7_back_123 : decode cX7_back 123 = .ok (.iadd, 1) := by decide +kernel
theorem dX7_back_124 : decode cX7_back 124 = .ok (.iload 4, 2) := by decide +kernel
theorem dX7_back_126 : decode cX7_back 126 = .ok (.iadd, 1) := by decide +kernel
theorem dX7_back_127 : decode cX7_back 127 = .ok (.invokevirtual 74, 3) := by decide +kernel
theorem dX7_back_130 : decode cX7_back 130 = .ok (.aload_n 0, 1) := by decide +kernel
theorem dX7_back_131 : decode cX7_back 131 = .ok (.bipush 6, 2) := by decide +kernel
theorem dX7_back_133 : decode cX7_back 133 = .ok (.iload 5, 2) := by decide +kernel
theorem dX7_back_135 : decode cX7_back 135 = .ok (.invokevirtual 279, 3) := by decide +kernel
theorem dX7_back_138 : decode cX7_back 138 = .ok (.iload_n 1, 1) := by decide +kernel
theorem dX7_back_139 : decode cX7_back 139 = .ok (.ifCond .ne 17, 3) := by decide +kernel
theorem dX7_back_142 : decode cX7_back 142 = .ok (.aload_n 0, 1) := by decide +kernel
theorem dX7_back_143 : decode cX7_back 143 = .ok (.sipush 188, 3) := by decide +kernel
theorem dX7_back_146 : decode cX7_back 146 = .ok (.iload_n 2, 1) := by decide +kernel
theorem dX7_back_147 : decode cX7_back 147 = .ok (.iadd, 1) := by decide +kernel
theorem dX7_back_148 : decode cX7_back 148 = .ok (.bipush 6, 2) := by decide +kernel
theorem dX7_back_150 : decode cX7_back 150 = .ok (.invokevirtual 282, 3) := by decide +kernel
theorem dX7_back_153 : decode cX7_back 153 = .ok (.goto 28, 3) := by decide +kernel
theorem dX7_back_156 : decode cX7_back 156 = .ok (.aload_n 0, 1) := by decide +kernel
theorem dX7_back_157 : decode cX7_back 157 = .ok (.bipush 6, 2) := by decide +kernel
theorem dX7_back_159 : decode cX7_back 159 = .ok (.sipush 188, 3) := by decide +kernel
theorem dX7_back_162 : decode cX7_back 162 = .ok (.iload_n 2, 1) := by decide +kernel
theorem dX7_back_163 : decode cX7_back 163 = .ok (.iadd, 1) := by decide +kernel
theorem dX7_back_164 : decode cX7_back 164 = .ok (.invokevirtual 86, 3) := by decide +kernel
theorem dX7_back_167 : decode cX7_back 167 = .ok (.ifCond .le 14, 3) := by decide +kernel
theorem dX7_back_170 : decode cX7_back 170 = .ok (.aload_n 0, 1) := by decide +kernel
theorem dX7_back_171 : decode cX7_back 171 = .ok (.sipush 188, 3) := by decide +kernel
theorem dX7_back_174 : decode cX7_back 174 = .ok (.iload_n 2, 1) := by decide +kernel
theorem dX7_back_175 : decode cX7_back 175 = .ok (.iadd, 1) := by decide +kernel
theorem dX7_back_176 : decode cX7_back 176 = .ok (.bipush 6, 2) := by decide +kernel
theorem dX7_back_178 : decode cX7_back 178 = .ok (.invokevirtual 74, 3) := by decide +kernel
theorem dX7_back_181 : decode cX7_back 181 = .ok (.iinc 4 1, 3) := by decide +kernel
theorem dX7_back_184 : decode cX7_back 184 = .ok (.goto (-148), 3) := by decide +kernel
theorem dX7_back_187 : decode cX7_back 187 = .ok (.iload_n 1, 1) := by decide +kernel
theorem dX7_back_188 : decode cX7_back 188 = .ok (.ifCond .eq 18, 3) := by decide +kernel
theorem dX7_back_191 : decode cX7_back 191 = .ok (.aload_n 0, 1) := by decide +kernel
theorem dX7_back_192 : decode cX7_back 192 = .ok (.sipush 188, 3) := by decide +kernel
theorem dX7_back_195 : decode cX7_back 195 = .ok (.iload_n 2, 1) := by decide +kernel
theorem dX7_back_196 : decode cX7_back 196 = .ok (.iadd, 1) := by decide +kernel
theorem dX7_back_197 : decode cX7_back 197 = .ok (.aload_n 0, 1) := by decide +kernel
theorem dX7_back_198 : decode cX7_back 198 = .ok (.getfield 41, 3) := by decide +kernel
theorem dX7_back_201 : decode cX7_back 201 = .ok (.iload_n 2, 1) := by decide +kernel
theorem dX7_back_202 : decode cX7_back 202 = .ok (.iaload, 1) := by decide +kernel
theorem dX7_back_203 : decode cX7_back 203 = .ok (.invokevirtual 279, 3) := by decide +kernel
theorem dX7_back_206 : decode cX7_back 206 = .ok (.iinc 2 (-1), 3) := by decide +kernel
theorem dX7_back_209 : decode cX7_back 209 = .ok (.goto (-205), 3) := by decide +kernel
theorem dX7_back_212 : decode cX7_back 212 = .ok (.return_, 1) := by decide +kernel
theorem dX7_rows_0 : decode cX7_rows 0 = .ok (.aload_n 0, 1) := by decide +kernel
theorem dX7_rows_1 : decode cX7_rows 1 = .ok (.iload_n 1, 1) := by decide +kernel
theorem dX7_rows_2 : decode cX7_rows 2 = .ok (.invokevirtual 285, 3) := by decide +kernel
theorem dX7_rows_5 : decode cX7_rows 5 = .ok (.istore_n 2, 1) := by decide +kernel
theorem dX7_rows_6 : decode cX7_rows 6 = .ok (.iload_n 2, 1) := by decide +kernel
theorem dX7_rows_7 : decode cX7_rows 7 = .ok (.ifCond .eq 8, 3) := by decide +kernel
theorem dX7_rows_10 : decode cX7_rows 10 = .ok (.aload_n 0, 1) := by decide +kernel
theorem dX7_rows_11 : decode cX7_rows 11 = .ok (.iconst 0, 1) := by decide +kernel
theorem dX7_rows_12 : decode cX7_rows 12 = .ok (.invokevirtual 288, 3) := by decide +kernel
theorem dX7_rows_15 : decode cX7_rows 15 = .ok (.iload_n 2, 1) := by decide +kernel
theorem dX7_rows_16 : decode cX7_rows 16 = .ok (.ireturn, 1) := by decide +kernel
theorem dX7_addsRows_0 : decode cX7_addsRows 0 = .ok (.aload_n 0, 1) := by decide +kernel
theorem dX7_addsRows_1 : decode cX7_addsRows 1 = .ok (.bipush 6, 2) := by decide +kernel
theorem dX7_addsRows_3 : decode cX7_addsRows 3 = .ok (.bipush 20, 2) := by decide +kernel
theorem dX7_addsRows_5 : decode cX7_addsRows 5 = .ok (.bipush 21, 2) := by decide +kernel
theorem dX7_addsRows_7 : decode cX7_addsRows 7 = .ok (.iload_n 1, 1) := by decide +kernel
theorem dX7_addsRows_8 : decode cX7_addsRows 8 = .ok (.imul, 1) := by decide +kernel
theorem dX7_addsRows_9 : decode cX7_addsRows 9 = .ok (.iadd, 1) := by decide +kernel
theorem dX7_addsRows_10 : decode cX7_addsRows 10 = .ok (.iload_n 2, 1) := by decide +kernel
theorem dX7_addsRows_11 : decode cX7_addsRows 11 = .ok (.iadd, 1) := by decide +kernel
theorem dX7_addsRows_12 : decode cX7_addsRows 12 = .ok (.invokevirtual 74, 3) := by decide +kernel
theorem dX7_addsRows_15 : decode cX7_addsRows 15 = .ok (.aload_n 0, 1) := by decide +kernel
theorem dX7_addsRows_16 : decode cX7_addsRows 16 = .ok (.getfield 29, 3) := by decide +kernel
theorem dX7_addsRows_19 : decode cX7_addsRows 19 = .ok (.bipush 6, 2) := by decide +kernel
theorem dX7_addsRows_21 : decode cX7_addsRows 21 = .ok (.iaload, 1) := by decide +kernel
theorem dX7_addsRows_22 : decode cX7_addsRows 22 = .ok (.ifCond .le 45, 3) := by decide +kernel
theorem dX7_addsRows_25 : decode cX7_addsRows 25 = .ok (.aload_n 0, 1) := by decide +kernel
theorem dX7_addsRows_26 : decode cX7_addsRows 26 = .ok (.getfield 29, 3) := by decide +kernel
theorem dX7_addsRows_29 : decode cX7_addsRows 29 = .ok (.sipush 188, 3) := by decide +kernel
theorem dX7_addsRows_32 : decode cX7_addsRows 32 = .ok (.bipush 21, 2) := by decide +kernel
theorem dX7_addsRows_34 : decode cX7_addsRows 34 = .ok (.iload_n 1, 1) := by decide +kernel
theorem dX7_addsRows_35 : decode cX7_addsRows 35 = .ok (.imul, 1) := by decide +kernel
theorem dX7_addsRows_36 : decode cX7_addsRows 36 = .ok (.iadd, 1) := by decide +kernel
theorem dX7_addsRows_37 : decode cX7_addsRows 37 = .ok (.iload_n 2, 1) := by decide +kernel
theorem dX7_addsRows_38 : decode cX7_addsRows 38 = .ok (.iadd, 1) := by decide +kernel
theorem dX7_addsRows_39 : decode cX7_addsRows 39 = .ok (.iaload, 1) := by decide +kernel
theorem dX7_addsRows_40 : decode cX7_addsRows 40 = .ok (.ifCond .le 27, 3) := by decide +kernel
theorem dX7_addsRows_43 : decode cX7_addsRows 43 = .ok (.aload_n 0, 1) := by decide +kernel
theorem dX7_addsRows_44 : decode cX7_addsRows 44 = .ok (.bipush 6, 2) := by decide +kernel
theorem dX7_addsRows_46 : decode cX7_addsRows 46 = .ok (.sipush 188, 3) := by decide +kernel
theorem dX7_addsRows_49 : decode cX7_addsRows 49 = .ok (.bipush 21, 2) := by decide +kernel
theorem dX7_addsRows_51 : decode cX7_addsRows 51 = .ok (.iload_n 1, 1) := by decide +kernel
theorem dX7_addsRows_52 : decode cX7_addsRows 52 = .ok (.imul, 1) := by decide +kernel
theorem dX7_addsRows_53 : decode cX7_addsRows 53 = .ok (.iadd, 1) := by decide +kernel
theorem dX7_addsRows_54 : decode cX7_addsRows 54 = .ok (.iload_n 2, 1) := by decide +kernel
theorem dX7_addsRows_55 : decode cX7_addsRows 55 = .ok (.iadd, 1) := by decide +kernel
theorem dX7_addsRows_56 : decode cX7_addsRows 56 = .ok (.invokevirtual 292, 3) := by decide +kernel
theorem dX7_addsRows_59 : decode cX7_addsRows 59 = .ok (.aload_n 0, 1) := by decide +kernel
theorem dX7_addsRows_60 : decode cX7_addsRows 60 = .ok (.bipush 7, 2) := by decide +kernel
theorem dX7_addsRows_62 : decode cX7_addsRows 62 = .ok (.bipush 6, 2) := by decide +kernel
theorem dX7_addsRows_64 : decode cX7_addsRows 64 = .ok (.invokevirtual 282, 3) := by decide +kernel
theorem dX7_addsRows_67 : decode cX7_addsRows 67 = .ok (.return_, 1) := by decide +kernel
theorem dX7_tellsSum_0 : decode cX7_tellsSum 0 = .ok (.aload_n 0, 1) := by decide +kernel
theorem dX7_tellsSum_1 : decode cX7_tellsSum 1 = .ok (.iconst 0, 1) := by decide +kernel
theorem dX7_tellsSum_2 : decode cX7_tellsSum 2 = .ok (.bipush 7, 2) := by decide +kernel
theorem dX7_tellsSum_4 : decode cX7_tellsSum 4 = .ok (.invokevirtual 74, 3) := by decide +kernel
theorem dX7_tellsSum_7 : decode cX7_tellsSum 7 = .ok (.aload_n 0, 1) := by decide +kernel
theorem dX7_tellsSum_8 : decode cX7_tellsSum 8 = .ok (.iconst 1, 1) := by decide +kernel
theorem dX7_tellsSum_9 : decode cX7_tellsSum 9 = .ok (.iconst 5, 1) := by decide +kernel
theorem dX7_tellsSum_10 : decode cX7_tellsSum 10 = .ok (.invokevirtual 74, 3) := by decide +kernel
theorem dX7_tellsSum_13 : decode cX7_tellsSum 13 = .ok (.aload_n 0, 1) := by decide +kernel
theorem dX7_tellsSum_14 : decode cX7_tellsSum 14 = .ok (.invokevirtual 95, 3) := by decide +kernel
theorem dX7_tellsSum_17 : decode cX7_tellsSum 17 = .ok (.iconst 1, 1) := by decide +kernel
theorem dX7_tellsSum_18 : decode cX7_tellsSum 18 = .ok (.ireturn, 1) := by decide +kernel
theorem dX7_odds_0 : decode cX7_odds 0 = .ok (.iload_n 1, 1) := by decide +kernel
theorem dX7_odds_1 : decode cX7_odds 1 = .ok (.invokestatic 131, 3) := by decide +kernel
theorem dX7_odds_4 : decode cX7_odds 4 = .ok (.ifCond .eq 11, 3) := by decide +kernel
theorem dX7_odds_7 : decode cX7_odds 7 = .ok (.aload_n 0, 1) := by decide +kernel
theorem dX7_odds_8 : decode cX7_odds 8 = .ok (.iload_n 2, 1) := by decide +kernel
theorem dX7_odds_9 : decode cX7_odds 9 = .ok (.invokevirtual 259, 3) := by decide +kernel
theorem dX7_odds_12 : decode cX7_odds 12 = .ok (.ifCond .ne 8, 3) := by decide +kernel
theorem dX7_odds_15 : decode cX7_odds 15 = .ok (.aload_n 0, 1) := by decide +kernel
theorem dX7_odds_16 : decode cX7_odds 16 = .ok (.invokevirtual 98, 3) := by decide +kernel
theorem dX7_odds_19 : decode cX7_odds 19 = .ok (.ireturn, 1) := by decide +kernel
theorem dX7_odds_20 : decode cX7_odds 20 = .ok (.aload_n 0, 1) := by decide +kernel
theorem dX7_odds_21 : decode cX7_odds 21 = .ok (.iload_n 1, 1) := by decide +kernel
theorem dX7_odds_22 : decode cX7_odds 22 = .ok (.bipush 8, 2) := by decide +kernel
theorem dX7_odds_24 : decode cX7_odds 24 = .ok (.idiv, 1) := by decide +kernel
theorem dX7_odds_25 : decode cX7_odds 25 = .ok (.invokevirtual 295, 3) := by decide +kernel
theorem dX7_odds_28 : decode cX7_odds 28 = .ok (.ifCond .ne 8, 3) := by decide +kernel
theorem dX7_odds_31 : decode cX7_odds 31 = .ok (.aload_n 0, 1) := by decide +kernel
theorem dX7_odds_32 : decode cX7_odds 32 = .ok (.invokevirtual 141, 3) := by decide +kernel
theorem dX7_odds_35 : decode cX7_odds 35 = .ok (.ireturn, 1) := by decide +kernel
theorem dX7_odds_36 : decode cX7_odds 36 = .ok (.aload_n 0, 1) := by decide +kernel
theorem dX7_odds_37 : decode cX7_odds 37 = .ok (.bipush 7, 2) := by decide +kernel
theorem dX7_odds_39 : decode cX7_odds 39 = .ok (.lconst 0, 1) := by decide +kernel
theorem dX7_odds_40 : decode cX7_odds 40 = .ok (.invokevirtual 56, 3) := by decide +kernel
theorem dX7_odds_43 : decode cX7_odds 43 = .ok (.aload_n 0, 1) := by decide +kernel
theorem dX7_odds_44 : decode cX7_odds 44 = .ok (.iload_n 1, 1) := by decide +kernel
theorem dX7_odds_45 : decode cX7_odds 45 = .ok (.bipush 8, 2) := by decide +kernel
theorem dX7_odds_47 : decode cX7_odds 47 = .ok (.irem, 1) := by decide +kernel
theorem dX7_odds_48 : decode cX7_odds 48 = .ok (.iload_n 2, 1) := by decide +kernel
theorem dX7_odds_49 : decode cX7_odds 49 = .ok (.invokevirtual 298, 3) := by decide +kernel
theorem dX7_odds_52 : decode cX7_odds 52 = .ok (.aload_n 0, 1) := by decide +kernel
theorem dX7_odds_53 : decode cX7_odds 53 = .ok (.invokevirtual 301, 3) := by decide +kernel
theorem dX7_odds_56 : decode cX7_odds 56 = .ok (.ireturn, 1) := by decide +kernel
theorem dX7_above_0 : decode cX7_above 0 = .ok (.iload_n 1, 1) := by decide +kernel
theorem dX7_above_1 : decode cX7_above 1 = .ok (.invokestatic 131, 3) := by decide +kernel
theorem dX7_above_4 : decode cX7_above 4 = .ok (.ifCond .ne 8, 3) := by decide +kernel
theorem dX7_above_7 : decode cX7_above 7 = .ok (.aload_n 0, 1) := by decide +kernel
theorem dX7_above_8 : decode cX7_above 8 = .ok (.invokevirtual 98, 3) := by decide +kernel
theorem dX7_above_11 : decode cX7_above 11 = .ok (.ireturn, 1) := by decide +kernel
theorem dX7_above_12 : decode cX7_above 12 = .ok (.aload_n 0, 1) := by decide +kernel
theorem dX7_above_13 : decode cX7_above 13 = .ok (.iload_n 1, 1) := by decide +kernel
theorem dX7_above_14 : decode cX7_above 14 = .ok (.bipush 8, 2) := by decide +kernel
theorem dX7_above_16 : decode cX7_above 16 = .ok (.idiv, 1) := by decide +kernel
theorem dX7_above_17 : decode cX7_above 17 = .ok (.invokevirtual 295, 3) := by decide +kernel
theorem dX7_above_20 : decode cX7_above 20 = .ok (.ifCond .ne 8, 3) := by decide +kernel
theorem dX7_above_23 : decode cX7_above 23 = .ok (.aload_n 0, 1) := by decide +kernel
theorem dX7_above_24 : decode cX7_above 24 = .ok (.invokevirtual 141, 3) := by decide +kernel
theorem dX7_above_27 : decode cX7_above 27 = .ok (.ireturn, 1) := by decide +kernel
theorem dX7_above_28 : decode cX7_above 28 = .ok (.aload_n 0, 1) := by decide +kernel
theorem dX7_above_29 : decode cX7_above 29 = .ok (.bipush 7, 2) := by decide +kernel
theorem dX7_above_31 : decode cX7_above 31 = .ok (.lconst 0, 1) := by decide +kernel
theorem dX7_above_32 : decode cX7_above 32 = .ok (.invokevirtual 56, 3) := by decide +kernel
theorem dX7_above_35 : decode cX7_above 35 = .ok (.iconst 5, 1) := by decide +kernel
theorem dX7_above_36 : decode cX7_above 36 = .ok (.istore_n 2, 1) := by decide +kernel
theorem dX7_above_37 : decode cX7_above 37 = .ok (.iload_n 2, 1) := by decide +kernel
theorem dX7_above_38 : decode cX7_above 38 = .ok (.bipush 21, 2) := by decide +kernel
theorem dX7_above_40 : decode cX7_above 40 = .ok (.if_icmp .ge 18, 3) := by decide +kernel
theorem dX7_above_43 : decode cX7_above 43 = .ok (.aload_n 0, 1) := by decide +kernel
theorem dX7_above_44 : decode cX7_above 44 = .ok (.iload_n 1, 1) := by decide +kernel
theorem dX7_above_45 : decode cX7_above 45 = .ok (.bipush 8, 2) := by decide +kernel
theorem dX7_above_47 : decode cX7_above 47 = .ok (.irem, 1) := by decide +kernel
theorem dX7_above_48 : decode cX7_above 48 = .ok (.iload_n 2, 1) := by decide +kernel
theorem dX7_above_49 : decode cX7_above 49 = .ok (.invokevirtual 298, 3) := by decide +kernel
theorem dX7_above_52 : decode cX7_above 52 = .ok (.iinc 2 1, 3) := by decide +kernel
theorem dX7_above_55 : decode cX7_above 55 = .ok (.goto (-18), 3) := by decide +kernel
theorem dX7_above_58 : decode cX7_above 58 = .ok (.aload_n 0, 1) := by decide +kernel
theorem dX7_above_59 : decode cX7_above 59 = .ok (.invokevirtual 301, 3) := by decide +kernel
theorem dX7_above_62 : decode cX7_above 62 = .ok (.ireturn, 1) := by decide +kernel
theorem dX7_likeliest_0 : decode cX7_likeliest 0 = .ok (.iload_n 1, 1) := by decide +kernel
theorem dX7_likeliest_1 : decode cX7_likeliest 1 = .ok (.i2l, 1) := by decide +kernel
theorem dX7_likeliest_2 : decode cX7_likeliest 2 = .ok (.lconst 0, 1) := by decide +kernel
theorem dX7_likeliest_3 : decode cX7_likeliest 3 = .ok (.ldc2_w 119, 3) := by decide +kernel
theorem dX7_likeliest_6 : decode cX7_likeliest 6 = .ok (.invokestatic 102, 3) := by decide +kernel
theorem dX7_likeliest_9 : decode cX7_likeliest 9 = .ok (.ifCond .eq 15, 3) := by decide +kernel
theorem dX7_likeliest_12 : decode cX7_likeliest 12 = .ok (.iload_n 2, 1) := by decide +kernel
theorem dX7_likeliest_13 : decode cX7_likeliest 13 = .ok (.i2l, 1) := by decide +kernel
theorem dX7_likeliest_14 : decode cX7_likeliest 14 = .ok (.lconst 0, 1) := by decide +kernel
theorem dX7_likeliest_15 : decode cX7_likeliest 15 = .ok (.ldc2_w 304, 3) := by decide +kernel
theorem dX7_likeliest_18 : decode cX7_likeliest 18 = .ok (.invokestatic 102, 3) := by decide +kernel
theorem dX7_likeliest_21 : decode cX7_likeliest 21 = .ok (.ifCond .ne 8, 3) := by decide +kernel
theorem dX7_likeliest_24 : decode cX7_likeliest 24 = .ok (.aload_n 0, 1) := by decide +kernel
theorem dX7_likeliest_25 : decode cX7_likeliest 25 = .ok (.invokevirtual 98, 3) := by decide +kernel
theorem dX7_likeliest_28 : decode cX7_likeliest 28 = .ok (.ireturn, 1) := by decide +kernel
theorem dX7_likeliest_29 : decode cX7_likeliest 29 = .ok (.aload_n 0, 1) := by decide +kernel
theorem dX7_likeliest_30 : decode cX7_likeliest 30 = .ok (.iload_n 1, 1) := by decide +kernel
theorem dX7_likeliest_31 : decode cX7_likeliest 31 = .ok (.invokevirtual 285, 3) := by decide +kernel
theorem dX7_likeliest_34 : decode cX7_likeliest 34 = .ok (.ifCond .ne 8, 3) := by decide +kernel
theorem dX7_likeliest_37 : decode cX7_likeliest 37 = .ok (.aload_n 0, 1) := by decide +kernel
theorem dX7_likeliest_38 : decode cX7_likeliest 38 = .ok (.invokevirtual 141, 3) := by decide +kernel
theorem dX7_likeliest_41 : decode cX7_likeliest 41 = .ok (.ireturn, 1) := by decide +kernel
theorem dX7_likeliest_42 : decode cX7_likeliest 42 = .ok (.aload_n 0, 1) := by decide +kernel
theorem dX7_likeliest_43 : decode cX7_likeliest 43 = .ok (.iconst 1, 1) := by decide +kernel
theorem dX7_likeliest_44 : decode cX7_likeliest 44 = .ok (.invokevirtual 288, 3) := by decide +kernel
theorem dX7_likeliest_47 : decode cX7_likeliest 47 = .ok (.iconst (-1), 1) := by decide +kernel
theorem dX7_likeliest_48 : decode cX7_likeliest 48 = .ok (.istore_n 3, 1) := by decide +kernel
theorem dX7_likeliest_49 : decode cX7_likeliest 49 = .ok (.iconst 0, 1) := by decide +kernel
theorem dX7_likeliest_50 : decode cX7_likeliest 50 = .ok (.istore 4, 2) := by decide +kernel
theorem dX7_likeliest_52 : decode cX7_likeliest 52 = .ok (.iload 4, 2) := by decide +kernel
theorem dX7_likeliest_54 : decode cX7_likeliest 54 = .ok (.iload_n 2, 1) := by decide +kernel
theorem dX7_likeliest_55 : decode cX7_likeliest 55 = .ok (.if_icmp .gt 118, 3) := by decide +kernel
theorem dX7_likeliest_58 : decode cX7_likeliest 58 = .ok (.iconst (-1), 1) := by decide +kernel
theorem dX7_likeliest_59 : decode cX7_likeliest 59 = .ok (.istore 5, 2) := by decide +kernel
theorem dX7_likeliest_61 : decode cX7_likeliest 61 = .ok (.iconst 0, 1) := by decide +kernel
theorem dX7_likeliest_62 : decode cX7_likeliest 62 = .ok (.istore 6, 2) := by decide +kernel
theorem dX7_likeliest_64 : decode cX7_likeliest 64 = .ok (.iload 6, 2) := by decide +kernel
theorem dX7_likeliest_66 : decode cX7_likeliest 66 = .ok (.bipush 21, 2) := by decide +kernel
theorem dX7_likeliest_68 : decode cX7_likeliest 68 = .ok (.if_icmp .ge 96, 3) := by decide +kernel
theorem dX7_likeliest_71 : decode cX7_likeliest 71 = .ok (.iload 4, 2) := by decide +kernel
theorem dX7_likeliest_73 : decode cX7_likeliest 73 = .ok (.ifCond .ne 7, 3) := by decide +kernel
theorem dX7_likeliest_76 : decode cX7_likeliest 76 = .ok (.iconst 1, 1) := by decide +kernel
theorem dX7_likeliest_77 : decode cX7_likeliest 77 = .ok (.goto 14, 3) := by decide +kernel
theorem dX7_likeliest_80 : decode cX7_likeliest 80 = .ok (.aload_n 0, 1) := by decide +kernel
theorem dX7_likeliest_81 : decode cX7_likeliest 81 = .ok (.iload 4, 2) := by decide +kernel
theorem dX7_likeliest_83 : decode cX7_likeliest 83 = .ok (.iconst 1, 1) := by decide +kernel
theorem dX7_likeliest_84 : decode cX7_likeliest 84 = .ok (.isub, 1) := by decide +kernel
theorem dX7_likeliest_85 : decode cX7_likeliest 85 = .ok (.iload_n 3, 1) := by decide +kernel
theorem dX7_likeliest_86 : decode cX7_likeliest 86 = .ok (.iload 6, 2) := by decide +kernel
theorem dX7_likeliest_88 : decode cX7_likeliest 88 = .ok (.invokevirtual 276, 3) := by decide +kernel
theorem dX7_likeliest_91 : decode cX7_likeliest 91 = .ok (.istore 7, 2) := by decide +kernel
theorem dX7_likeliest_93 : decode cX7_likeliest 93 = .ok (.aload_n 0, 1) := by decide +kernel
theorem dX7_likeliest_94 : decode cX7_likeliest 94 = .ok (.bipush 6, 2) := by decide +kernel
theorem dX7_likeliest_96 : decode cX7_likeliest 96 = .ok (.sipush 188, 3) := by decide +kernel
theorem dX7_likeliest_99 : decode cX7_likeliest 99 = .ok (.bipush 21, 2) := by decide +kernel
theorem dX7_likeliest_101 : decode cX7_likeliest 101 = .ok (.iload 4, 2) := by decide +kernel
theorem dX7_likeliest_103 : decode cX7_likeliest 103 = .ok (.imul, 1) := by decide +kernel
theorem dX7_likeliest_104 : decode cX7_likeliest 104 = .ok (.iadd, 1) := by decide +kernel
theorem dX7_likeliest_105 : decode cX7_likeliest 105 = .ok (.iload 6, 2) := by decide +kernel
theorem dX7_likeliest_107 : decode cX7_likeliest 107 = .ok (.iadd, 1) := by decide +kernel
theorem dX7_likeliest_108 : decode cX7_likeliest 108 = .ok (.invokevirtual 74, 3) := by decide +kernel
theorem dX7_likeliest_111 : decode cX7_likeliest 111 = .ok (.aload_n 0, 1) := by decide +kernel
theorem dX7_likeliest_112 : decode cX7_likeliest 112 = .ok (.bipush 6, 2) := by decide +kernel
theorem dX7_likeliest_114 : decode cX7_likeliest 114 = .ok (.iload 7, 2) := by decide +kernel
theorem dX7_likeliest_116 : decode cX7_likeliest 116 = .ok (.invokevirtual 279, 3) := by decide +kernel
theorem dX7_likeliest_119 : decode cX7_likeliest 119 = .ok (.aload_n 0, 1) := by decide +kernel
theorem dX7_likeliest_120 : decode cX7_likeliest 120 = .ok (.getfield 29, 3) := by decide +kernel
theorem dX7_likeliest_123 : decode cX7_likeliest 123 = .ok (.bipush 6, 2) := by decide +kernel
theorem dX7_likeliest_125 : decode cX7_likeliest 125 = .ok (.iaload, 1) := by decide +kernel
theorem dX7_likeliest_126 : decode cX7_likeliest 126 = .ok (.ifCond .le 32, 3) := by decide +kernel
theorem dX7_likeliest_129 : decode cX7_likeliest 129 = .ok (.iload 5, 2) := by decide +kernel
theorem dX7_likeliest_131 : decode cX7_likeliest 131 = .ok (.iconst (-1), 1) := by decide +kernel
theorem dX7_likeliest_132 : decode cX7_likeliest 132 = .ok (.if_icmp .eq 14, 3) := by decide +kernel
theorem dX7_likeliest_135 : decode cX7_likeliest 135 = .ok (.aload_n 0, 1) := by decide +kernel
theorem dX7_likeliest_136 : decode cX7_likeliest 136 = .ok (.bipush 6, 2) := by decide +kernel
theorem dX7_likeliest_138 : decode cX7_likeliest 138 = .ok (.bipush 7, 2) := by decide +kernel
theorem dX7_likeliest_140 : decode cX7_likeliest 140 = .ok (.invokevirtual 86, 3) := by decide +kernel
theorem dX7_likeliest_143 : decode cX7_likeliest 143 = .ok (.ifCond .le 15, 3) := by decide +kernel
theorem dX7_likeliest_146 : decode cX7_likeliest 146 = .ok (.iload 6, 2) := by decide +kernel
theorem dX7_likeliest_148 : decode cX7_likeliest 148 = .ok (.istore 5, 2) := by decide +kernel
theorem dX7_likeliest_150 : decode cX7_likeliest 150 = .ok (.aload_n 0, 1) := by decide +kernel
theorem dX7_likeliest_151 : decode cX7_likeliest 151 = .ok (.bipush 7, 2) := by decide +kernel
theorem dX7_likeliest_153 : decode cX7_likeliest 153 = .ok (.bipush 6, 2) := by decide +kernel
theorem dX7_likeliest_155 : decode cX7_likeliest 155 = .ok (.invokevirtual 74, 3) := by decide +kernel
theorem dX7_likeliest_158 : decode cX7_likeliest 158 = .ok (.iinc 6 1, 3) := by decide +kernel
theorem dX7_likeliest_161 : decode cX7_likeliest 161 = .ok (.goto (-97), 3) := by decide +kernel
theorem dX7_likeliest_164 : decode cX7_likeliest 164 = .ok (.iload 5, 2) := by decide +kernel
theorem dX7_likeliest_166 : decode cX7_likeliest 166 = .ok (.istore_n 3, 1) := by decide +kernel
theorem dX7_likeliest_167 : decode cX7_likeliest 167 = .ok (.iinc 4 1, 3) := by decide +kernel
theorem dX7_likeliest_170 : decode cX7_likeliest 170 = .ok (.goto (-118), 3) := by decide +kernel
theorem dX7_likeliest_173 : decode cX7_likeliest 173 = .ok (.iload_n 3, 1) := by decide +kernel
theorem dX7_likeliest_174 : decode cX7_likeliest 174 = .ok (.ireturn, 1) := by decide +kernel
theorem dX7_stood_0 : decode cX7_stood 0 = .ok (.iload_n 1, 1) := by decide +kernel
theorem dX7_stood_1 : decode cX7_stood 1 = .ok (.i2l, 1) := by decide +kernel
theorem dX7_stood_2 : decode cX7_stood 2 = .ok (.lconst 0, 1) := by decide +kernel
theorem dX7_stood_3 : decode cX7_stood 3 = .ok (.ldc2_w 117, 3) := by decide +kernel
theorem dX7_stood_6 : decode cX7_stood 6 = .ok (.invokestatic 102, 3) := by decide +kernel
theorem dX7_stood_9 : decode cX7_stood 9 = .ok (.ifCond .ne 8, 3) := by decide +kernel
theorem dX7_stood_12 : decode cX7_stood 12 = .ok (.aload_n 0, 1) := by decide +kernel
theorem dX7_stood_13 : decode cX7_stood 13 = .ok (.invokevirtual 98, 3) := by decide +kernel
theorem dX7_stood_16 : decode cX7_stood 16 = .ok (.ireturn, 1) := by decide +kernel
theorem dX7_stood_17 : decode cX7_stood 17 = .ok (.aload_n 0, 1) := by decide +kernel
theorem dX7_stood_18 : decode cX7_stood 18 = .ok (.getfield 7, 3) := by decide +kernel
theorem dX7_stood_21 : decode cX7_stood 21 = .ok (.bipush 7, 2) := by decide +kernel
theorem dX7_stood_23 : decode cX7_stood 23 = .ok (.iaload, 1) := by decide +kernel
theorem dX7_stood_24 : decode cX7_stood 24 = .ok (.istore_n 2, 1) := by decide +kernel
theorem dX7_stood_25 : decode cX7_stood 25 = .ok (.iconst 0, 1) := by decide +kernel
theorem dX7_stood_26 : decode cX7_stood 26 = .ok (.istore_n 3, 1) := by decide +kernel
theorem dX7_stood_27 : decode cX7_stood 27 = .ok (.iload_n 3, 1) := by decide +kernel
theorem dX7_stood_28 : decode cX7_stood 28 = .ok (.iconst 4, 1) := by decide +kernel
theorem dX7_stood_29 : decode cX7_stood 29 = .ok (.if_icmp .ge 70, 3) := by decide +kernel
theorem dX7_stood_32 : decode cX7_stood 32 = .ok (.aload_n 0, 1) := by decide +kernel
theorem dX7_stood_33 : decode cX7_stood 33 = .ok (.getfield 7, 3) := by decide +kernel
theorem dX7_stood_36 : decode cX7_stood 36 = .ok (.bipush 7, 2) := by decide +kernel
theorem dX7_stood_38 : decode cX7_stood 38 = .ok (.iload_n 3, 1) := by decide +kernel
theorem dX7_stood_39 : decode cX7_stood 39 = .ok (.iastore, 1) := by decide +kernel
theorem dX7_stood_40 : decode cX7_stood 40 = .ok (.aload_n 0, 1) := by decide +kernel
theorem dX7_stood_41 : decode cX7_stood 41 = .ok (.bipush 8, 2) := by decide +kernel
theorem dX7_stood_43 : decode cX7_stood 43 = .ok (.iload_n 3, 1) := by decide +kernel
theorem dX7_stood_44 : decode cX7_stood 44 = .ok (.iadd, 1) := by decide +kernel
theorem dX7_stood_45 : decode cX7_stood 45 = .ok (.lconst 1, 1) := by decide +kernel
theorem dX7_stood_46 : decode cX7_stood 46 = .ok (.invokevirtual 56, 3) := by decide +kernel
theorem dX7_stood_49 : decode cX7_stood 49 = .ok (.iconst 0, 1) := by decide +kernel
theorem dX7_stood_50 : decode cX7_stood 50 = .ok (.istore 4, 2) := by decide +kernel
theorem dX7_stood_52 : decode cX7_stood 52 = .ok (.iload 4, 2) := by decide +kernel
theorem dX7_stood_54 : decode cX7_stood 54 = .ok (.bipush 6, 2) := by decide +kernel
theorem dX7_stood_56 : decode cX7_stood 56 = .ok (.if_icmp .ge 37, 3) := by decide +kernel
theorem dX7_stood_59 : decode cX7_stood 59 = .ok (.aload_n 0, 1) := by decide +kernel
theorem dX7_stood_60 : decode cX7_stood 60 = .ok (.getfield 29, 3) := by decide +kernel
theorem dX7_stood_63 : decode cX7_stood 63 = .ok (.bipush 8, 2) := by decide +kernel
theorem dX7_stood_65 : decode cX7_stood 65 = .ok (.iload_n 3, 1) := by decide +kernel
theorem dX7_stood_66 : decode cX7_stood 66 = .ok (.iadd, 1) := by decide +kernel
theorem dX7_stood_67 : decode cX7_stood 67 = .ok (.iaload, 1) := by decide +kernel
theorem dX7_stood_68 : decode cX7_stood 68 = .ok (.ifCond .le 25, 3) := by decide +kernel
theorem dX7_stood_71 : decode cX7_stood 71 = .ok (.aload_n 0, 1) := by decide +kernel
theorem dX7_stood_72 : decode cX7_stood 72 = .ok (.iload 4, 2) := by decide +kernel
theorem dX7_stood_74 : decode cX7_stood 74 = .ok (.invokevirtual 285, 3) := by decide +kernel
theorem dX7_stood_77 : decode cX7_stood 77 = .ok (.pop, 1) := by decide +kernel
theorem dX7_stood_78 : decode cX7_stood 78 = .ok (.aload_n 0, 1) := by decide +kernel
theorem dX7_stood_79 : decode cX7_stood 79 = .ok (.bipush 8, 2) := by decide +kernel
theorem dX7_stood_81 : decode cX7_stood 81 = .ok (.iload_n 3, 1) := by decide +kernel
theorem dX7_stood_82 : decode cX7_stood 82 = .ok (.iadd, 1) := by decide +kernel
theorem dX7_stood_83 : decode cX7_stood 83 = .ok (.iconst 5, 1) := by decide +kernel
theorem dX7_stood_84 : decode cX7_stood 84 = .ok (.invokevirtual 292, 3) := by decide +kernel
theorem dX7_stood_87 : decode cX7_stood 87 = .ok (.iinc 4 1, 3) := by decide +kernel
theorem dX7_stood_90 : decode cX7_stood 90 = .ok (.goto (-38), 3) := by decide +kernel
theorem dX7_stood_93 : decode cX7_stood 93 = .ok (.iinc 3 1, 3) := by decide +kernel
theorem dX7_stood_96 : decode cX7_stood 96 = .ok (.goto (-69), 3) := by decide +kernel
theorem dX7_stood_99 : decode cX7_stood 99 = .ok (.aload_n 0, 1) := by decide +kernel
theorem dX7_stood_100 : decode cX7_stood 100 = .ok (.getfield 7, 3) := by decide +kernel
theorem dX7_stood_103 : decode cX7_stood 103 = .ok (.bipush 7, 2) := by decide +kernel
theorem dX7_stood_105 : decode cX7_stood 105 = .ok (.iload_n 2, 1) := by decide +kernel
theorem dX7_stood_106 : decode cX7_stood 106 = .ok (.iastore, 1) := by decide +kernel
theorem dX7_stood_107 : decode cX7_stood 107 = .ok (.aload_n 0, 1) := by decide +kernel
theorem dX7_stood_108 : decode cX7_stood 108 = .ok (.iconst 5, 1) := by decide +kernel
theorem dX7_stood_109 : decode cX7_stood 109 = .ok (.lconst 0, 1) := by decide +kernel
theorem dX7_stood_110 : decode cX7_stood 110 = .ok (.invokevirtual 56, 3) := by decide +kernel
theorem dX7_stood_113 : decode cX7_stood 113 = .ok (.iconst 0, 1) := by decide +kernel
theorem dX7_stood_114 : decode cX7_stood 114 = .ok (.istore_n 3, 1) := by decide +kernel
theorem dX7_stood_115 : decode cX7_stood 115 = .ok (.iload_n 3, 1) := by decide +kernel
theorem dX7_stood_116 : decode cX7_stood 116 = .ok (.iconst 4, 1) := by decide +kernel
theorem dX7_stood_117 : decode cX7_stood 117 = .ok (.if_icmp .ge 18, 3) := by decide +kernel
theorem dX7_stood_120 : decode cX7_stood 120 = .ok (.aload_n 0, 1) := by decide +kernel
theorem dX7_stood_121 : decode cX7_stood 121 = .ok (.iconst 5, 1) := by decide +kernel
theorem dX7_stood_122 : decode cX7_stood 122 = .ok (.bipush 8, 2) := by decide +kernel
theorem dX7_stood_124 : decode cX7_stood 124 = .ok (.iload_n 3, 1) := by decide +kernel
theorem dX7_stood_125 : decode cX7_stood 125 = .ok (.iadd, 1) := by decide +kernel
theorem dX7_stood_126 : decode cX7_stood 126 = .ok (.invokevirtual 282, 3) := by decide +kernel
theorem dX7_stood_129 : decode cX7_stood 129 = .ok (.iinc 3 1, 3) := by decide +kernel
theorem dX7_stood_132 : decode cX7_stood 132 = .ok (.goto (-17), 3) := by decide +kernel
theorem dX7_stood_135 : decode cX7_stood 135 = .ok (.aload_n 0, 1) := by decide +kernel
theorem dX7_stood_136 : decode cX7_stood 136 = .ok (.getfield 29, 3) := by decide +kernel
theorem dX7_stood_139 : decode cX7_stood 139 = .ok (.iconst 5, 1) := by decide +kernel
theorem dX7_stood_140 : decode cX7_stood 140 = .ok (.iaload, 1) := by decide +kernel
theorem dX7_stood_141 : decode cX7_stood 141 = .ok (.ifCond .ne 8, 3) := by decide +kernel
theorem dX7_stood_144 : decode cX7_stood 144 = .ok (.aload_n 0, 1) := by decide +kernel
theorem dX7_stood_145 : decode cX7_stood 145 = .ok (.invokevirtual 141, 3) := by decide +kernel
theorem dX7_stood_148 : decode cX7_stood 148 = .ok (.ireturn, 1) := by decide +kernel
theorem dX7_stood_149 : decode cX7_stood 149 = .ok (.aload_n 0, 1) := by decide +kernel
theorem dX7_stood_150 : decode cX7_stood 150 = .ok (.bipush 7, 2) := by decide +kernel
theorem dX7_stood_152 : decode cX7_stood 152 = .ok (.bipush 8, 2) := by decide +kernel
theorem dX7_stood_154 : decode cX7_stood 154 = .ok (.iload_n 1, 1) := by decide +kernel
theorem dX7_stood_155 : decode cX7_stood 155 = .ok (.iadd, 1) := by decide +kernel
theorem dX7_stood_156 : decode cX7_stood 156 = .ok (.invokevirtual 74, 3) := by decide +kernel
theorem dX7_stood_159 : decode cX7_stood 159 = .ok (.aload_n 0, 1) := by decide +kernel
theorem dX7_stood_160 : decode cX7_stood 160 = .ok (.invokevirtual 301, 3) := by decide +kernel
theorem dX7_stood_163 : decode cX7_stood 163 = .ok (.ireturn, 1) := by decide +kernel
theorem dX7_span_0 : decode cX7_span 0 = .ok (.aload_n 0, 1) := by decide +kernel
theorem dX7_span_1 : decode cX7_span 1 = .ok (.iload_n 1, 1) := by decide +kernel
theorem dX7_span_2 : decode cX7_span 2 = .ok (.invokevirtual 126, 3) := by decide +kernel
theorem dX7_span_5 : decode cX7_span 5 = .ok (.ifCond .eq 13, 3) := by decide +kernel
theorem dX7_span_8 : decode cX7_span 8 = .ok (.iload_n 2, 1) := by decide +kernel
theorem dX7_span_9 : decode cX7_span 9 = .ok (.i2l, 1) := by decide +kernel
theorem dX7_span_10 : decode cX7_span 10 = .ok (.lconst 0, 1) := by decide +kernel
theorem dX7_span_11 : decode cX7_span 11 = .ok (.lconst 1, 1) := by decide +kernel
theorem dX7_span_12 : decode cX7_span 12 = .ok (.invokestatic 102, 3) := by decide +kernel
theorem dX7_span_15 : decode cX7_span 15 = .ok (.ifCond .ne 8, 3) := by decide +kernel
theorem dX7_span_18 : decode cX7_span 18 = .ok (.aload_n 0, 1) := by decide +kernel
theorem dX7_span_19 : decode cX7_span 19 = .ok (.invokevirtual 98, 3) := by decide +kernel
theorem dX7_span_22 : decode cX7_span 22 = .ok (.ireturn, 1) := by decide +kernel
theorem dX7_span_23 : decode cX7_span 23 = .ok (.aload_n 0, 1) := by decide +kernel
theorem dX7_span_24 : decode cX7_span 24 = .ok (.iload_n 1, 1) := by decide +kernel
theorem dX7_span_25 : decode cX7_span 25 = .ok (.iconst 0, 1) := by decide +kernel
theorem dX7_span_26 : decode cX7_span 26 = .ok (.invokevirtual 244, 3) := by decide +kernel
theorem dX7_span_29 : decode cX7_span 29 = .ok (.istore_n 3, 1) := by decide +kernel
theorem dX7_span_30 : decode cX7_span 30 = .ok (.iconst (-1), 1) := by decide +kernel
theorem dX7_span_31 : decode cX7_span 31 = .ok (.istore 4, 2) := by decide +kernel
theorem dX7_span_33 : decode cX7_span 33 = .ok (.iconst 1, 1) := by decide +kernel
theorem dX7_span_34 : decode cX7_span 34 = .ok (.istore 5, 2) := by decide +kernel
theorem dX7_span_36 : decode cX7_span 36 = .ok (.iload 5, 2) := by decide +kernel
theorem dX7_span_38 : decode cX7_span 38 = .ok (.bipush 61, 2) := by decide +kernel
theorem dX7_span_40 : decode cX7_span 40 = .ok (.if_icmp .ge 80, 3) := by decide +kernel
theorem dX7_span_43 : decode cX7_span 43 = .ok (.aload_n 0, 1) := by decide +kernel
theorem dX7_span_44 : decode cX7_span 44 = .ok (.getfield 7, 3) := by decide +kernel
theorem dX7_span_47 : decode cX7_span 47 = .ok (.bipush 40, 2) := by decide +kernel
theorem dX7_span_49 : decode cX7_span 49 = .ok (.iconst 4, 1) := by decide +kernel
theorem dX7_span_50 : decode cX7_span 50 = .ok (.iload_n 1, 1) := by decide +kernel
theorem dX7_span_51 : decode cX7_span 51 = .ok (.imul, 1) := by decide +kernel
theorem dX7_span_52 : decode cX7_span 52 = .ok (.iadd, 1) := by decide +kernel
theorem dX7_span_53 : decode cX7_span 53 = .ok (.iload 5, 2) := by decide +kernel
theorem dX7_span_55 : decode cX7_span 55 = .ok (.iastore, 1) := by decide +kernel
theorem dX7_span_56 : decode cX7_span 56 = .ok (.iconst 1, 1) := by decide +kernel
theorem dX7_span_57 : decode cX7_span 57 = .ok (.istore 6, 2) := by decide +kernel
theorem dX7_span_59 : decode cX7_span 59 = .ok (.iconst 0, 1) := by decide +kernel
theorem dX7_span_60 : decode cX7_span 60 = .ok (.istore 7, 2) := by decide +kernel
theorem dX7_span_62 : decode cX7_span 62 = .ok (.iload 7, 2) := by decide +kernel
theorem dX7_span_64 : decode cX7_span 64 = .ok (.bipush 6, 2) := by decide +kernel
theorem dX7_span_66 : decode cX7_span 66 = .ok (.if_icmp .ge 23, 3) := by decide +kernel
theorem dX7_span_69 : decode cX7_span 69 = .ok (.iload 6, 2) := by decide +kernel
theorem dX7_span_71 : decode cX7_span 71 = .ok (.ifCond .eq 18, 3) := by decide +kernel
theorem dX7_span_74 : decode cX7_span 74 = .ok (.aload_n 0, 1) := by decide +kernel
theorem dX7_span_75 : decode cX7_span 75 = .ok (.iload 7, 2) := by decide +kernel
theorem dX7_span_77 : decode cX7_span 77 = .ok (.iconst 0, 1) := by decide +kernel
theorem dX7_span_78 : decode cX7_span 78 = .ok (.invokevirtual 306, 3) := by decide +kernel
theorem dX7_span_81 : decode cX7_span 81 = .ok (.istore 6, 2) := by decide +kernel
theorem dX7_span_83 : decode cX7_span 83 = .ok (.iinc 7 1, 3) := by decide +kernel
theorem dX7_span_86 : decode cX7_span 86 = .ok (.goto (-24), 3) := by decide +kernel
theorem dX7_span_89 : decode cX7_span 89 = .ok (.iload 6, 2) := by decide +kernel
theorem dX7_span_91 : decode cX7_span 91 = .ok (.ifCond .eq 19, 3) := by decide +kernel
theorem dX7_span_94 : decode cX7_span 94 = .ok (.iload_n 2, 1) := by decide +kernel
theorem dX7_span_95 : decode cX7_span 95 = .ok (.iconst 1, 1) := by decide +kernel
theorem dX7_span_96 : decode cX7_span 96 = .ok (.if_icmp .eq 9, 3) := by decide +kernel
theorem dX7_span_99 : decode cX7_span 99 = .ok (.iload 4, 2) := by decide +kernel
theorem dX7_span_101 : decode cX7_span 101 = .ok (.iconst (-1), 1) := by decide +kernel
theorem dX7_span_102 : decode cX7_span 102 = .ok (.if_icmp .ne 8, 3) := by decide +kernel
theorem dX7_span_105 : decode cX7_span 105 = .ok (.iload 5, 2) := by decide +kernel
theorem dX7_span_107 : decode cX7_span 107 = .ok (.goto 5, 3) := by decide +kernel
theorem dX7_span_110 : decode cX7_span 110 = .ok (.iload 4, 2) := by decide +kernel
theorem dX7_span_112 : decode cX7_span 112 = .ok (.istore 4, 2) := by decide +kernel
theorem dX7_span_114 : decode cX7_span 114 = .ok (.iinc 5 1, 3) := by decide +kernel
theorem dX7_span_117 : decode cX7_span 117 = .ok (.goto (-81), 3) := by decide +kernel
theorem dX7_span_120 : decode cX7_span 120 = .ok (.aload_n 0, 1) := by decide +kernel
theorem dX7_span_121 : decode cX7_span 121 = .ok (.getfield 7, 3) := by decide +kernel
theorem dX7_span_124 : decode cX7_span 124 = .ok (.bipush 40, 2) := by decide +kernel
theorem dX7_span_126 : decode cX7_span 126 = .ok (.iconst 4, 1) := by decide +kernel
theorem dX7_span_127 : decode cX7_span 127 = .ok (.iload_n 1, 1) := by decide +kernel
theorem dX7_span_128 : decode cX7_span 128 = .ok (.imul, 1) := by decide +kernel
theorem dX7_span_129 : decode cX7_span 129 = .ok (.iadd, 1) := by decide +kernel
theorem dX7_span_130 : decode cX7_span 130 = .ok (.iload_n 3, 1) := by decide +kernel
theorem dX7_span_131 : decode cX7_span 131 = .ok (.iastore, 1) := by decide +kernel
theorem dX7_span_132 : decode cX7_span 132 = .ok (.iload 4, 2) := by decide +kernel
theorem dX7_span_134 : decode cX7_span 134 = .ok (.ireturn, 1) := by decide +kernel
theorem dX7_sizeOf_0 : decode cX7_sizeOf 0 = .ok (.iconst 0, 1) := by decide +kernel
theorem dX7_sizeOf_1 : decode cX7_sizeOf 1 = .ok (.istore_n 1, 1) := by decide +kernel
theorem dX7_sizeOf_2 : decode cX7_sizeOf 2 = .ok (.iload_n 0, 1) := by decide +kernel
theorem dX7_sizeOf_3 : decode cX7_sizeOf 3 = .ok (.istore_n 2, 1) := by decide +kernel
theorem dX7_sizeOf_4 : decode cX7_sizeOf 4 = .ok (.iload_n 2, 1) := by decide +kernel
theorem dX7_sizeOf_5 : decode cX7_sizeOf 5 = .ok (.ifCond .le 16, 3) := by decide +kernel
theorem dX7_sizeOf_8 : decode cX7_sizeOf 8 = .ok (.iload_n 1, 1) := by decide +kernel
theorem dX7_sizeOf_9 : decode cX7_sizeOf 9 = .ok (.iload_n 2, 1) := by decide +kernel
theorem dX7_sizeOf_10 : decode cX7_sizeOf 10 = .ok (.iconst 1, 1) := by decide +kernel
theorem dX7_sizeOf_11 : decode cX7_sizeOf 11 = .ok (.iand, 1) := by decide +kernel
theorem dX7_sizeOf_12 : decode cX7_sizeOf 12 = .ok (.iadd, 1) := by decide +kernel
theorem dX7_sizeOf_13 : decode cX7_sizeOf 13 = .ok (.istore_n 1, 1) := by decide +kernel
theorem dX7_sizeOf_14 : decode cX7_sizeOf 14 = .ok (.iload_n 2, 1) := by decide +kernel
theorem dX7_sizeOf_15 : decode cX7_sizeOf 15 = .ok (.iconst 1, 1) := by decide +kernel
theorem dX7_sizeOf_16 : decode cX7_sizeOf 16 = .ok (.ishr, 1) := by decide +kernel
theorem dX7_sizeOf_17 : decode cX7_sizeOf 17 = .ok (.istore_n 2, 1) := by decide +kernel
theorem dX7_sizeOf_18 : decode cX7_sizeOf 18 = .ok (.goto (-14), 3) := by decide +kernel
theorem dX7_sizeOf_21 : decode cX7_sizeOf 21 = .ok (.iload_n 1, 1) := by decide +kernel
theorem dX7_sizeOf_22 : decode cX7_sizeOf 22 = .ok (.ireturn, 1) := by decide +kernel
theorem dX7_tracesOf_0 : decode cX7_tracesOf 0 = .ok (.iconst 0, 1) := by decide +kernel
theorem dX7_tracesOf_1 : decode cX7_tracesOf 1 = .ok (.istore_n 2, 1) := by decide +kernel
theorem dX7_tracesOf_2 : decode cX7_tracesOf 2 = .ok (.iconst 0, 1) := by decide +kernel
theorem dX7_tracesOf_3 : decode cX7_tracesOf 3 = .ok (.istore_n 3, 1) := by decide +kernel
theorem dX7_tracesOf_4 : decode cX7_tracesOf 4 = .ok (.iload_n 3, 1) := by decide +kernel
theorem dX7_tracesOf_5 : decode cX7_tracesOf 5 = .ok (.aload_n 0, 1) := by decide +kernel
theorem dX7_tracesOf_6 : decode cX7_tracesOf 6 = .ok (.getfield 7, 3) := by decide +kernel
theorem dX7_tracesOf_9 : decode cX7_tracesOf 9 = .ok (.iconst 1, 1) := by decide +kernel
theorem dX7_tracesOf_10 : decode cX7_tracesOf 10 = .ok (.iaload, 1) := by decide +kernel
theorem dX7_tracesOf_11 : decode cX7_tracesOf 11 = .ok (.if_icmp .ge 41, 3) := by decide +kernel
theorem dX7_tracesOf_14 : decode cX7_tracesOf 14 = .ok (.iload_n 2, 1) := by decide +kernel
theorem dX7_tracesOf_15 : decode cX7_tracesOf 15 = .ok (.aload_n 0, 1) := by decide +kernel
theorem dX7_tracesOf_16 : decode cX7_tracesOf 16 = .ok (.iload_n 3, 1) := by decide +kernel
theorem dX7_tracesOf_17 : decode cX7_tracesOf 17 = .ok (.iconst 0, 1) := by decide +kernel
theorem dX7_tracesOf_18 : decode cX7_tracesOf 18 = .ok (.invokevirtual 138, 3) := by decide +kernel
theorem dX7_tracesOf_21 : decode cX7_tracesOf 21 = .ok (.bipush 8, 2) := by decide +kernel
theorem dX7_tracesOf_23 : decode cX7_tracesOf 23 = .ok (.idiv, 1) := by decide +kernel
theorem dX7_tracesOf_24 : decode cX7_tracesOf 24 = .ok (.iload_n 1, 1) := by decide +kernel
theorem dX7_tracesOf_25 : decode cX7_tracesOf 25 = .ok (.if_icmp .ne 18, 3) := by decide +kernel
theorem dX7_tracesOf_28 : decode cX7_tracesOf 28 = .ok (.aload_n 0, 1) := by decide +kernel
theorem dX7_tracesOf_29 : decode cX7_tracesOf 29 = .ok (.iload_n 3, 1) := by decide +kernel
theorem dX7_tracesOf_30 : decode cX7_tracesOf 30 = .ok (.iconst 3, 1) := by decide +kernel
theorem dX7_tracesOf_31 : decode cX7_tracesOf 31 = .ok (.invokevirtual 138, 3) := by decide +kernel
theorem dX7_tracesOf_34 : decode cX7_tracesOf 34 = .ok (.ifCond .ne 9, 3) := by decide +kernel
theorem dX7_tracesOf_37 : decode cX7_tracesOf 37 = .ok (.iconst 1, 1) := by decide +kernel
theorem dX7_tracesOf_38 : decode cX7_tracesOf 38 = .ok (.iload_n 3, 1) := by decide +kernel
theorem dX7_tracesOf_39 : decode cX7_tracesOf 39 = .ok (.ishl, 1) := by decide +kernel
theorem dX7_tracesOf_40 : decode cX7_tracesOf 40 = .ok (.goto 4, 3) := by decide +kernel
theorem dX7_tracesOf_43 : decode cX7_tracesOf 43 = .ok (.iconst 0, 1) := by decide +kernel
theorem dX7_tracesOf_44 : decode cX7_tracesOf 44 = .ok (.ior, 1) := by decide +kernel
theorem dX7_tracesOf_45 : decode cX7_tracesOf 45 = .ok (.istore_n 2, 1) := by decide +kernel
theorem dX7_tracesOf_46 : decode cX7_tracesOf 46 = .ok (.iinc 3 1, 3) := by decide +kernel
theorem dX7_tracesOf_49 : decode cX7_tracesOf 49 = .ok (.goto (-45), 3) := by decide +kernel
theorem dX7_tracesOf_52 : decode cX7_tracesOf 52 = .ok (.iload_n 2, 1) := by decide +kernel
theorem dX7_tracesOf_53 : decode cX7_tracesOf 53 = .ok (.ireturn, 1) := by decide +kernel
theorem dX7_later_0 : decode cX7_later 0 = .ok (.iload_n 1, 1) := by decide +kernel
theorem dX7_later_1 : decode cX7_later 1 = .ok (.i2l, 1) := by decide +kernel
theorem dX7_later_2 : decode cX7_later 2 = .ok (.lconst 0, 1) := by decide +kernel
theorem dX7_later_3 : decode cX7_later 3 = .ok (.ldc2_w 119, 3) := by decide +kernel
theorem dX7_later_6 : decode cX7_later 6 = .ok (.invokestatic 102, 3) := by decide +kernel
theorem dX7_later_9 : decode cX7_later 9 = .ok (.ifCond .ne 8, 3) := by decide +kernel
theorem dX7_later_12 : decode cX7_later 12 = .ok (.aload_n 0, 1) := by decide +kernel
theorem dX7_later_13 : decode cX7_later 13 = .ok (.invokevirtual 98, 3) := by decide +kernel
theorem dX7_later_16 : decode cX7_later 16 = .ok (.ireturn, 1) := by decide +kernel
theorem dX7_later_17 : decode cX7_later 17 = .ok (.aload_n 0, 1) := by decide +kernel
theorem dX7_later_18 : decode cX7_later 18 = .ok (.iload_n 1, 1) := by decide +kernel
theorem dX7_later_19 : decode cX7_later 19 = .ok (.iconst 0, 1) := by decide +kernel
theorem dX7_later_20 : decode cX7_later 20 = .ok (.invokevirtual 306, 3) := by decide +kernel
theorem dX7_later_23 : decode cX7_later 23 = .ok (.ifCond .eq 5, 3) := by decide +kernel
theorem dX7_later_26 : decode cX7_later 26 = .ok (.iconst 0, 1) := by decide +kernel
theorem dX7_later_27 : decode cX7_later 27 = .ok (.ireturn, 1) := by decide +kernel
theorem dX7_later_28 : decode cX7_later 28 = .ok (.aload_n 0, 1) := by decide +kernel
theorem dX7_later_29 : decode cX7_later 29 = .ok (.iload_n 1, 1) := by decide +kernel
theorem dX7_later_30 : decode cX7_later 30 = .ok (.invokevirtual 309, 3) := by decide +kernel
theorem dX7_later_33 : decode cX7_later 33 = .ok (.istore_n 2, 1) := by decide +kernel
theorem dX7_later_34 : decode cX7_later 34 = .ok (.iconst 1, 1) := by decide +kernel
theorem dX7_later_35 : decode cX7_later 35 = .ok (.istore_n 3, 1) := by decide +kernel
theorem dX7_later_36 : decode cX7_later 36 = .ok (.iload_n 3, 1) := by decide +kernel
theorem dX7_later_37 : decode cX7_later 37 = .ok (.iconst 4, 1) := by decide +kernel
theorem dX7_later_38 : decode cX7_later 38 = .ok (.if_icmp .ge 152, 3) := by decide +kernel
theorem dX7_later_41 : decode cX7_later 41 = .ok (.ldc_w 312, 3) := by decide +kernel
theorem dX7_later_44 : decode cX7_later 44 = .ok (.istore 4, 2) := by decide +kernel
theorem dX7_later_46 : decode cX7_later 46 = .ok (.iconst 0, 1) := by decide +kernel
theorem dX7_later_47 : decode cX7_later 47 = .ok (.istore 5, 2) := by decide +kernel
theorem dX7_later_49 : decode cX7_later 49 = .ok (.iconst 0, 1) := by decide +kernel
theorem dX7_later_50 : decode cX7_later 50 = .ok (.istore 6, 2) := by decide +kernel
theorem dX7_later_52 : decode cX7_later 52 = .ok (.iload 6, 2) := by decide +kernel
theorem dX7_later_54 : decode cX7_later 54 = .ok (.aload_n 0, 1) := by decide +kernel
theorem dX7_later_55 : decode cX7_later 55 = .ok (.getfield 7, 3) := by decide +kernel
theorem dX7_later_58 : decode cX7_later 58 = .ok (.iconst 1, 1) := by decide +kernel
theorem dX7_later_59 : decode cX7_later 59 = .ok (.iaload, 1) := by decide +kernel
theorem dX7_later_60 : decode cX7_later 60 = .ok (.if_icmp .ge 116, 3) := by decide +kernel
theorem dX7_later_63 : decode cX7_later 63 = .ok (.iconst 0, 1) := by decide +kernel
theorem dX7_later_64 : decode cX7_later 64 = .ok (.istore 7, 2) := by decide +kernel
theorem dX7_later_66 : decode cX7_later 66 = .ok (.iload 7, 2) := by decide +kernel
theorem dX7_later_68 : decode cX7_later 68 = .ok (.iload 6, 2) := by decide +kernel
theorem dX7_later_70 : decode cX7_later 70 = .ok (.if_icmp .gt 100, 3) := by decide +kernel
theorem dX7_later_73 : decode cX7_later 73 = .ok (.iconst 0, 1) := by decide +kernel
theorem dX7_later_74 : decode cX7_later 74 = .ok (.istore 8, 2) := by decide +kernel
theorem dX7_later_76 : decode cX7_later 76 = .ok (.iload 8, 2) := by decide +kernel
theorem dX7_later_78 : decode cX7_later 78 = .ok (.iload 7, 2) := by decide +kernel
theorem dX7_later_80 : decode cX7_later 80 = .ok (.if_icmp .gt 84, 3) := by decide +kernel
theorem dX7_later_83 : decode cX7_later 83 = .ok (.iconst 1, 1) := by decide +kernel
theorem dX7_later_84 : decode cX7_later 84 = .ok (.iload 6, 2) := by decide +kernel
theorem dX7_later_86 : decode cX7_later 86 = .ok (.ishl, 1) := by decide +kernel
theorem dX7_later_87 : decode cX7_later 87 = .ok (.iconst 1, 1) := by decide +kernel
theorem dX7_later_88 : decode cX7_later 88 = .ok (.iload 7, 2) := by decide +kernel
theorem dX7_later_90 : decode cX7_later 90 = .ok (.ishl, 1) := by decide +kernel
theorem dX7_later_91 : decode cX7_later 91 = .ok (.ior, 1) := by decide +kernel
theorem dX7_later_92 : decode cX7_later 92 = .ok (.iconst 1, 1) := by decide +kernel
theorem dX7_later_93 : decode cX7_later 93 = .ok (.iload 8, 2) := by decide +kernel
theorem dX7_later_95 : decode cX7_later 95 = .ok (.ishl, 1) := by decide +kernel
theorem dX7_later_96 : decode cX7_later 96 = .ok (.ior, 1) := by decide +kernel
theorem dX7_later_97 : decode cX7_later 97 = .ok (.istore 9, 2) := by decide +kernel
theorem dX7_later_99 : decode cX7_later 99 = .ok (.iload 9, 2) := by decide +kernel
theorem dX7_later_101 : decode cX7_later 101 = .ok (.invokestatic 313, 3) := by decide +kernel
theorem dX7_later_104 : decode cX7_later 104 = .ok (.iload_n 3, 1) := by decide +kernel
theorem dX7_later_105 : decode cX7_later 105 = .ok (.if_icmp .ne 28, 3) := by decide +kernel
theorem dX7_later_108 : decode cX7_later 108 = .ok (.iload 9, 2) := by decide +kernel
theorem dX7_later_110 : decode cX7_later 110 = .ok (.iload_n 2, 1) := by decide +kernel
theorem dX7_later_111 : decode cX7_later 111 = .ok (.iconst (-1), 1) := by decide +kernel
theorem dX7_later_112 : decode cX7_later 112 = .ok (.ixor, 1) := by decide +kernel
theorem dX7_later_113 : decode cX7_later 113 = .ok (.iand, 1) := by decide +kernel
theorem dX7_later_114 : decode cX7_later 114 = .ok (.ifCond .ne 19, 3) := by decide +kernel
theorem dX7_later_117 : decode cX7_later 117 = .ok (.iload 5, 2) := by decide +kernel
theorem dX7_later_119 : decode cX7_later 119 = .ok (.ifCond .eq 10, 3) := by decide +kernel
theorem dX7_later_122 : decode cX7_later 122 = .ok (.iload 9, 2) := by decide +kernel
theorem dX7_later_124 : decode cX7_later 124 = .ok (.iload 4, 2) := by decide +kernel
theorem dX7_later_126 : decode cX7_later 126 = .ok (.if_icmp .ge 7, 3) := by decide +kernel
theorem dX7_later_129 : decode cX7_later 129 = .ok (.iconst 1, 1) := by decide +kernel
theorem dX7_later_130 : decode cX7_later 130 = .ok (.goto 4, 3) := by decide +kernel
theorem dX7_later_133 : decode cX7_later 133 = .ok (.iconst 0, 1) := by decide +kernel
theorem dX7_later_134 : decode cX7_later 134 = .ok (.istore 10, 2) := by decide +kernel
theorem dX7_later_136 : decode cX7_later 136 = .ok (.iload 10, 2) := by decide +kernel
theorem dX7_later_138 : decode cX7_later 138 = .ok (.ifCond .eq 20, 3) := by decide +kernel
theorem dX7_later_141 : decode cX7_later 141 = .ok (.aload_n 0, 1) := by decide +kernel
theorem dX7_later_142 : decode cX7_later 142 = .ok (.iload_n 1, 1) := by decide +kernel
theorem dX7_later_143 : decode cX7_later 143 = .ok (.iload 9, 2) := by decide +kernel
theorem dX7_later_145 : decode cX7_later 145 = .ok (.invokevirtual 306, 3) := by decide +kernel
theorem dX7_later_148 : decode cX7_later 148 = .ok (.ifCond .eq 10, 3) := by decide +kernel
theorem dX7_later_151 : decode cX7_later 151 = .ok (.iload 9, 2) := by decide +kernel
theorem dX7_later_153 : decode cX7_later 153 = .ok (.istore 4, 2) := by decide +kernel
theorem dX7_later_155 : decode cX7_later 155 = .ok (.iconst 1, 1) := by decide +kernel
theorem dX7_later_156 : decode cX7_later 156 = .ok (.istore 5, 2) := by decide +kernel
theorem dX7_later_158 : decode cX7_later 158 = .ok (.iinc 8 1, 3) := by decide +kernel
theorem dX7_later_161 : decode cX7_later 161 = .ok (.goto (-85), 3) := by decide +kernel
theorem dX7_later_164 : decode cX7_later 164 = .ok (.iinc 7 1, 3) := by decide +kernel
theorem dX7_later_167 : decode cX7_later 167 = .ok (.goto (-101), 3) := by decide +kernel
theorem dX7_later_170 : decode cX7_later 170 = .ok (.iinc 6 1, 3) := by decide +kernel
theorem dX7_later_173 : decode cX7_later 173 = .ok (.goto (-121), 3) := by decide +kernel
theorem dX7_later_176 : decode cX7_later 176 = .ok (.iload 5, 2) := by decide +kernel
theorem dX7_later_178 : decode cX7_later 178 = .ok (.ifCond .eq 6, 3) := by decide +kernel
theorem dX7_later_181 : decode cX7_later 181 = .ok (.iload 4, 2) := by decide +kernel
theorem dX7_later_183 : decode cX7_later 183 = .ok (.ireturn, 1) := by decide +kernel
theorem dX7_later_184 : decode cX7_later 184 = .ok (.iinc 3 1, 3) := by decide +kernel
theorem dX7_later_187 : decode cX7_later 187 = .ok (.goto (-151), 3) := by decide +kernel
theorem dX7_later_190 : decode cX7_later 190 = .ok (.bipush (-5), 2) := by decide +kernel
theorem dX7_later_192 : decode cX7_later 192 = .ok (.ireturn, 1) := by decide +kernel
theorem dX7_next_0 : decode cX7_next 0 = .ok (.iconst (-1), 1) := by decide +kernel
theorem dX7_next_1 : decode cX7_next 1 = .ok (.istore_n 1, 1) := by decide +kernel
theorem dX7_next_2 : decode cX7_next 2 = .ok (.iconst 0, 1) := by decide +kernel
theorem dX7_next_3 : decode cX7_next 3 = .ok (.istore_n 2, 1) := by decide +kernel
theorem dX7_next_4 : decode cX7_next 4 = .ok (.iload_n 2, 1) := by decide +kernel
theorem dX7_next_5 : decode cX7_next 5 = .ok (.bipush 6, 2) := by decide +kernel
theorem dX7_next_7 : decode cX7_next 7 = .ok (.if_icmp .ge 237, 3) := by decide +kernel
theorem dX7_next_10 : decode cX7_next 10 = .ok (.aload_n 0, 1) := by decide +kernel
theorem dX7_next_11 : decode cX7_next 11 = .ok (.iload_n 2, 1) := by decide +kernel
theorem dX7_next_12 : decode cX7_next 12 = .ok (.invokevirtual 295, 3) := by decide +kernel
theorem dX7_next_15 : decode cX7_next 15 = .ok (.ifCond .eq 223, 3) := by decide +kernel
theorem dX7_next_18 : decode cX7_next 18 = .ok (.iconst 0, 1) := by decide +kernel
theorem dX7_next_19 : decode cX7_next 19 = .ok (.istore_n 3, 1) := by decide +kernel
theorem dX7_next_20 : decode cX7_next 20 = .ok (.iload_n 3, 1) := by decide +kernel
theorem dX7_next_21 : decode cX7_next 21 = .ok (.bipush 32, 2) := by decide +kernel
theorem dX7_next_23 : decode cX7_next 23 = .ok (.if_icmp .ge 215, 3) := by decide +kernel
theorem dX7_next_26 : decode cX7_next 26 = .ok (.bipush 8, 2) := by decide +kernel
theorem dX7_next_28 : decode cX7_next 28 = .ok (.iload_n 2, 1) := by decide +kernel
theorem dX7_next_29 : decode cX7_next 29 = .ok (.imul, 1) := by decide +kernel
theorem dX7_next_30 : decode cX7_next 30 = .ok (.iload_n 3, 1) := by decide +kernel
theorem dX7_next_31 : decode cX7_next 31 = .ok (.iconst 4, 1) := by decide +kernel
theorem dX7_next_32 : decode cX7_next 32 = .ok (.idiv, 1) := by decide +kernel
theorem dX7_next_33 : decode cX7_next 33 = .ok (.iadd, 1) := by decide +kernel
theorem dX7_next_34 : decode cX7_next 34 = .ok (.istore 4, 2) := by decide +kernel
theorem dX7_next_36 : decode cX7_next 36 = .ok (.aload_n 0, 1) := by decide +kernel
theorem dX7_next_37 : decode cX7_next 37 = .ok (.bipush 7, 2) := by decide +kernel
theorem dX7_next_39 : decode cX7_next 39 = .ok (.lconst 0, 1) := by decide +kernel
theorem dX7_next_40 : decode cX7_next 40 = .ok (.invokevirtual 56, 3) := by decide +kernel
theorem dX7_next_43 : decode cX7_next 43 = .ok (.iconst 0, 1) := by decide +kernel
theorem dX7_next_44 : decode cX7_next 44 = .ok (.istore 5, 2) := by decide +kernel
theorem dX7_next_46 : decode cX7_next 46 = .ok (.iload 5, 2) := by decide +kernel
theorem dX7_next_48 : decode cX7_next 48 = .ok (.bipush 21, 2) := by decide +kernel
theorem dX7_next_50 : decode cX7_next 50 = .ok (.if_icmp .ge 41, 3) := by decide +kernel
theorem dX7_next_53 : decode cX7_next 53 = .ok (.aload_n 0, 1) := by decide +kernel
theorem dX7_next_54 : decode cX7_next 54 = .ok (.iload 5, 2) := by decide +kernel
theorem dX7_next_56 : decode cX7_next 56 = .ok (.invokevirtual 259, 3) := by decide +kernel
theorem dX7_next_59 : decode cX7_next 59 = .ok (.ifCond .eq 26, 3) := by decide +kernel
theorem dX7_next_62 : decode cX7_next 62 = .ok (.aload_n 0, 1) := by decide +kernel
theorem dX7_next_63 : decode cX7_next 63 = .ok (.iload 4, 2) := by decide +kernel
theorem dX7_next_65 : decode cX7_next 65 = .ok (.iload 5, 2) := by decide +kernel
theorem dX7_next_67 : decode cX7_next 67 = .ok (.iload_n 3, 1) := by decide +kernel
theorem dX7_next_68 : decode cX7_next 68 = .ok (.iconst 4, 1) := by decide +kernel
theorem dX7_next_69 : decode cX7_next 69 = .ok (.irem, 1) := by decide +kernel
theorem dX7_next_70 : decode cX7_next 70 = .ok (.invokevirtual 256, 3) := by decide +kernel
theorem dX7_next_73 : decode cX7_next 73 = .ok (.ifCond .eq 12, 3) := by decide +kernel
theorem dX7_next_76 : decode cX7_next 76 = .ok (.aload_n 0, 1) := by decide +kernel
theorem dX7_next_77 : decode cX7_next 77 = .ok (.iload_n 3, 1) := by decide +kernel
theorem dX7_next_78 : decode cX7_next 78 = .ok (.iconst 4, 1) := by decide +kernel
theorem dX7_next_79 : decode cX7_next 79 = .ok (.idiv, 1) := by decide +kernel
theorem dX7_next_80 : decode cX7_next 80 = .ok (.iload 5, 2) := by decide +kernel
theorem dX7_next_82 : decode cX7_next 82 = .ok (.invokevirtual 298, 3) := by decide +kernel
theorem dX7_next_85 : decode cX7_next 85 = .ok (.iinc 5 1, 3) := by decide +kernel
theorem dX7_next_88 : decode cX7_next 88 = .ok (.goto (-42), 3) := by decide +kernel
theorem dX7_next_91 : decode cX7_next 91 = .ok (.aload_n 0, 1) := by decide +kernel
theorem dX7_next_92 : decode cX7_next 92 = .ok (.bipush 7, 2) := by decide +kernel
theorem dX7_next_94 : decode cX7_next 94 = .ok (.iconst 2, 1) := by decide +kernel
theorem dX7_next_95 : decode cX7_next 95 = .ok (.invokevirtual 279, 3) := by decide +kernel
theorem dX7_next_98 : decode cX7_next 98 = .ok (.aload_n 0, 1) := by decide +kernel
theorem dX7_next_99 : decode cX7_next 99 = .ok (.bipush 14, 2) := by decide +kernel
theorem dX7_next_101 : decode cX7_next 101 = .ok (.aload_n 0, 1) := by decide +kernel
theorem dX7_next_102 : decode cX7_next 102 = .ok (.bipush 7, 2) := by decide +kernel
theorem dX7_next_104 : decode cX7_next 104 = .ok (.iconst 5, 1) := by decide +kernel
theorem dX7_next_105 : decode cX7_next 105 = .ok (.invokevirtual 86, 3) := by decide +kernel
theorem dX7_next_108 : decode cX7_next 108 = .ok (.ifCond .ge 7, 3) := by decide +kernel
theorem dX7_next_111 : decode cX7_next 111 = .ok (.iconst 5, 1) := by decide +kernel
theorem dX7_next_112 : decode cX7_next 112 = .ok (.goto 5, 3) := by decide +kernel
theorem dX7_next_115 : decode cX7_next 115 = .ok (.bipush 7, 2) := by decide +kernel
theorem dX7_next_117 : decode cX7_next 117 = .ok (.invokevirtual 74, 3) := by decide +kernel
theorem dX7_next_120 : decode cX7_next 120 = .ok (.aload_n 0, 1) := by decide +kernel
theorem dX7_next_121 : decode cX7_next 121 = .ok (.bipush 14, 2) := by decide +kernel
theorem dX7_next_123 : decode cX7_next 123 = .ok (.aload_n 0, 1) := by decide +kernel
theorem dX7_next_124 : decode cX7_next 124 = .ok (.bipush 7, 2) := by decide +kernel
theorem dX7_next_126 : decode cX7_next 126 = .ok (.iconst 5, 1) := by decide +kernel
theorem dX7_next_127 : decode cX7_next 127 = .ok (.invokevirtual 86, 3) := by decide +kernel
theorem dX7_next_130 : decode cX7_next 130 = .ok (.ifCond .ge 8, 3) := by decide +kernel
theorem dX7_next_133 : decode cX7_next 133 = .ok (.bipush 7, 2) := by decide +kernel
theorem dX7_next_135 : decode cX7_next 135 = .ok (.goto 4, 3) := by decide +kernel
theorem dX7_next_138 : decode cX7_next 138 = .ok (.iconst 5, 1) := by decide +kernel
theorem dX7_next_139 : decode cX7_next 139 = .ok (.invokevirtual 89, 3) := by decide +kernel
theorem dX7_next_142 : decode cX7_next 142 = .ok (.iload_n 1, 1) := by decide +kernel
theorem dX7_next_143 : decode cX7_next 143 = .ok (.iconst (-1), 1) := by decide +kernel
theorem dX7_next_144 : decode cX7_next 144 = .ok (.if_icmp .ne 7, 3) := by decide +kernel
theorem dX7_next_147 : decode cX7_next 147 = .ok (.iconst 1, 1) := by decide +kernel
theorem dX7_next_148 : decode cX7_next 148 = .ok (.goto 4, 3) := by decide +kernel
theorem dX7_next_151 : decode cX7_next 151 = .ok (.iconst 0, 1) := by decide +kernel
theorem dX7_next_152 : decode cX7_next 152 = .ok (.istore 5, 2) := by decide +kernel
theorem dX7_next_154 : decode cX7_next 154 = .ok (.iload 5, 2) := by decide +kernel
theorem dX7_next_156 : decode cX7_next 156 = .ok (.ifCond .ne 46, 3) := by decide +kernel
theorem dX7_next_159 : decode cX7_next 159 = .ok (.aload_n 0, 1) := by decide +kernel
theorem dX7_next_160 : decode cX7_next 160 = .ok (.iconst 2, 1) := by decide +kernel
theorem dX7_next_161 : decode cX7_next 161 = .ok (.bipush 14, 2) := by decide +kernel
theorem dX7_next_163 : decode cX7_next 163 = .ok (.invokevirtual 74, 3) := by decide +kernel
theorem dX7_next_166 : decode cX7_next 166 = .ok (.aload_n 0, 1) := by decide +kernel
theorem dX7_next_167 : decode cX7_next 167 = .ok (.iconst 2, 1) := by decide +kernel
theorem dX7_next_168 : decode cX7_next 168 = .ok (.bipush 13, 2) := by decide +kernel
theorem dX7_next_170 : decode cX7_next 170 = .ok (.invokevirtual 292, 3) := by decide +kernel
theorem dX7_next_173 : decode cX7_next 173 = .ok (.aload_n 0, 1) := by decide +kernel
theorem dX7_next_174 : decode cX7_next 174 = .ok (.iconst 3, 1) := by decide +kernel
theorem dX7_next_175 : decode cX7_next 175 = .ok (.bipush 12, 2) := by decide +kernel
theorem dX7_next_177 : decode cX7_next 177 = .ok (.invokevirtual 74, 3) := by decide +kernel
theorem dX7_next_180 : decode cX7_next 180 = .ok (.aload_n 0, 1) := by decide +kernel
theorem dX7_next_181 : decode cX7_next 181 = .ok (.iconst 3, 1) := by decide +kernel
theorem dX7_next_182 : decode cX7_next 182 = .ok (.iconst 5, 1) := by decide +kernel
theorem dX7_next_183 : decode cX7_next 183 = .ok (.invokevirtual 292, 3) := by decide +kernel
theorem dX7_next_186 : decode cX7_next 186 = .ok (.aload_n 0, 1) := by decide +kernel
theorem dX7_next_187 : decode cX7_next 187 = .ok (.iconst 2, 1) := by decide +kernel
theorem dX7_next_188 : decode cX7_next 188 = .ok (.iconst 3, 1) := by decide +kernel
theorem dX7_next_189 : decode cX7_next 189 = .ok (.invokevirtual 86, 3) := by decide +kernel
theorem dX7_next_192 : decode cX7_next 192 = .ok (.ifCond .ge 7, 3) := by decide +kernel
theorem dX7_next_195 : decode cX7_next 195 = .ok (.iconst 1, 1) := by decide +kernel
theorem dX7_next_196 : decode cX7_next 196 = .ok (.goto 4, 3) := by decide +kernel
theorem dX7_next_199 : decode cX7_next 199 = .ok (.iconst 0, 1) := by decide +kernel
theorem dX7_next_200 : decode cX7_next 200 = .ok (.istore 5, 2) := by decide +kernel
theorem dX7_next_202 : decode cX7_next 202 = .ok (.iload 5, 2) := by decide +kernel
theorem dX7_next_204 : decode cX7_next 204 = .ok (.ifCond .eq 28, 3) := by decide +kernel
theorem dX7_next_207 : decode cX7_next 207 = .ok (.bipush 10, 2) := by decide +kernel
theorem dX7_next_209 : decode cX7_next 209 = .ok (.iload 4, 2) := by decide +kernel
theorem dX7_next_211 : decode cX7_next 211 = .ok (.imul, 1) := by decide +kernel
theorem dX7_next_212 : decode cX7_next 212 = .ok (.iload_n 3, 1) := by decide +kernel
theorem dX7_next_213 : decode cX7_next 213 = .ok (.iconst 4, 1) := by decide +kernel
theorem dX7_next_214 : decode cX7_next 214 = .ok (.irem, 1) := by decide +kernel
theorem dX7_next_215 : decode cX7_next 215 = .ok (.iadd, 1) := by decide +kernel
theorem dX7_next_216 : decode cX7_next 216 = .ok (.istore_n 1, 1) := by decide +kernel
theorem dX7_next_217 : decode cX7_next 217 = .ok (.aload_n 0, 1) := by decide +kernel
theorem dX7_next_218 : decode cX7_next 218 = .ok (.bipush 12, 2) := by decide +kernel
theorem dX7_next_220 : decode cX7_next 220 = .ok (.bipush 14, 2) := by decide +kernel
theorem dX7_next_222 : decode cX7_next 222 = .ok (.invokevirtual 74, 3) := by decide +kernel
theorem dX7_next_225 : decode cX7_next 225 = .ok (.aload_n 0, 1) := by decide +kernel
theorem dX7_next_226 : decode cX7_next 226 = .ok (.bipush 13, 2) := by decide +kernel
theorem dX7_next_228 : decode cX7_next 228 = .ok (.iconst 5, 1) := by decide +kernel
theorem dX7_next_229 : decode cX7_next 229 = .ok (.invokevirtual 74, 3) := by decide +kernel
theorem dX7_next_232 : decode cX7_next 232 = .ok (.iinc 3 1, 3) := by decide +kernel
theorem dX7_next_235 : decode cX7_next 235 = .ok (.goto (-215), 3) := by decide +kernel
theorem dX7_next_238 : decode cX7_next 238 = .ok (.iinc 2 1, 3) := by decide +kernel
theorem dX7_next_241 : decode cX7_next 241 = .ok (.goto (-237), 3) := by decide +kernel
theorem dX7_next_244 : decode cX7_next 244 = .ok (.iload_n 1, 1) := by decide +kernel
theorem dX7_next_245 : decode cX7_next 245 = .ok (.iconst (-1), 1) := by decide +kernel
theorem dX7_next_246 : decode cX7_next 246 = .ok (.if_icmp .ne 10, 3) := by decide +kernel
theorem dX7_next_249 : decode cX7_next 249 = .ok (.aload_n 0, 1) := by decide +kernel
theorem dX7_next_250 : decode cX7_next 250 = .ok (.invokevirtual 141, 3) := by decide +kernel
theorem dX7_next_253 : decode cX7_next 253 = .ok (.goto 4, 3) := by decide +kernel
theorem dX7_next_256 : decode cX7_next 256 = .ok (.iload_n 1, 1) := by decide +kernel
theorem dX7_next_257 : decode cX7_next 257 = .ok (.ireturn, 1) := by decide +kernel
theorem dX7_topOf_0 : decode cX7_topOf 0 = .ok (.iload_n 0, 1) := by decide +kernel
theorem dX7_topOf_1 : decode cX7_topOf 1 = .ok (.iconst 5, 1) := by decide +kernel
theorem dX7_topOf_2 : decode cX7_topOf 2 = .ok (.if_icmp .ge 10, 3) := by decide +kernel
theorem dX7_topOf_5 : decode cX7_topOf 5 = .ok (.iload_n 0, 1) := by decide +kernel
theorem dX7_topOf_6 : decode cX7_topOf 6 = .ok (.invokestatic 238, 3) := by decide +kernel
theorem dX7_topOf_9 : decode cX7_topOf 9 = .ok (.goto 7, 3) := by decide +kernel
theorem dX7_topOf_12 : decode cX7_topOf 12 = .ok (.iload_n 0, 1) := by decide +kernel
theorem dX7_topOf_13 : decode cX7_topOf 13 = .ok (.invokestatic 241, 3) := by decide +kernel
theorem dX7_topOf_16 : decode cX7_topOf 16 = .ok (.ireturn, 1) := by decide +kernel
theorem dX7_restsAt_0 : decode cX7_restsAt 0 = .ok (.aload_n 0, 1) := by decide +kernel
theorem dX7_restsAt_1 : decode cX7_restsAt 1 = .ok (.bipush 7, 2) := by decide +kernel
theorem dX7_restsAt_3 : decode cX7_restsAt 3 = .ok (.lconst 0, 1) := by decide +kernel
theorem dX7_restsAt_4 : decode cX7_restsAt 4 = .ok (.invokevirtual 56, 3) := by decide +kernel
theorem dX7_restsAt_7 : decode cX7_restsAt 7 = .ok (.iconst 0, 1) := by decide +kernel
theorem dX7_restsAt_8 : decode cX7_restsAt 8 = .ok (.istore_n 2, 1) := by decide +kernel
theorem dX7_restsAt_9 : decode cX7_restsAt 9 = .ok (.iload_n 2, 1) := by decide +kernel
theorem dX7_restsAt_10 : decode cX7_restsAt 10 = .ok (.bipush 21, 2) := by decide +kernel
theorem dX7_restsAt_12 : decode cX7_restsAt 12 = .ok (.if_icmp .ge 43, 3) := by decide +kernel
theorem dX7_restsAt_15 : decode cX7_restsAt 15 = .ok (.aload_n 0, 1) := by decide +kernel
theorem dX7_restsAt_16 : decode cX7_restsAt 16 = .ok (.iload_n 2, 1) := by decide +kernel
theorem dX7_restsAt_17 : decode cX7_restsAt 17 = .ok (.invokevirtual 259, 3) := by decide +kernel
theorem dX7_restsAt_20 : decode cX7_restsAt 20 = .ok (.ifCond .eq 29, 3) := by decide +kernel
theorem dX7_restsAt_23 : decode cX7_restsAt 23 = .ok (.iload_n 2, 1) := by decide +kernel
theorem dX7_restsAt_24 : decode cX7_restsAt 24 = .ok (.invokestatic 316, 3) := by decide +kernel
theorem dX7_restsAt_27 : decode cX7_restsAt 27 = .ok (.aload_n 0, 1) := by decide +kernel
theorem dX7_restsAt_28 : decode cX7_restsAt 28 = .ok (.getfield 7, 3) := by decide +kernel
theorem dX7_restsAt_31 : decode cX7_restsAt 31 = .ok (.sipush 150, 3) := by decide +kernel
theorem dX7_restsAt_34 : decode cX7_restsAt 34 = .ok (.iload_n 1, 1) := by decide +kernel
theorem dX7_restsAt_35 : decode cX7_restsAt 35 = .ok (.iadd, 1) := by decide +kernel
theorem dX7_restsAt_36 : decode cX7_restsAt 36 = .ok (.iaload, 1) := by decide +kernel
theorem dX7_restsAt_37 : decode cX7_restsAt 37 = .ok (.if_icmp .ne 12, 3) := by decide +kernel
theorem dX7_restsAt_40 : decode cX7_restsAt 40 = .ok (.aload_n 0, 1) := by decide +kernel
theorem dX7_restsAt_41 : decode cX7_restsAt 41 = .ok (.iload_n 1, 1) := by decide +kernel
theorem dX7_restsAt_42 : decode cX7_restsAt 42 = .ok (.bipush 8, 2) := by decide +kernel
theorem dX7_restsAt_44 : decode cX7_restsAt 44 = .ok (.irem, 1) := by decide +kernel
theorem dX7_restsAt_45 : decode cX7_restsAt 45 = .ok (.iload_n 2, 1) := by decide +kernel
theorem dX7_restsAt_46 : decode cX7_restsAt 46 = .ok (.invokevirtual 298, 3) := by decide +kernel
theorem dX7_restsAt_49 : decode cX7_restsAt 49 = .ok (.iinc 2 1, 3) := by decide +kernel
theorem dX7_restsAt_52 : decode cX7_restsAt 52 = .ok (.goto (-43), 3) := by decide +kernel
theorem dX7_restsAt_55 : decode cX7_restsAt 55 = .ok (.aload_n 0, 1) := by decide +kernel
theorem dX7_restsAt_56 : decode cX7_restsAt 56 = .ok (.bipush 7, 2) := by decide +kernel
theorem dX7_restsAt_58 : decode cX7_restsAt 58 = .ok (.iconst 5, 1) := by decide +kernel
theorem dX7_restsAt_59 : decode cX7_restsAt 59 = .ok (.invokevirtual 86, 3) := by decide +kernel
theorem dX7_restsAt_62 : decode cX7_restsAt 62 = .ok (.ifCond .ne 5, 3) := by decide +kernel
theorem dX7_restsAt_65 : decode cX7_restsAt 65 = .ok (.iconst 0, 1) := by decide +kernel
theorem dX7_restsAt_66 : decode cX7_restsAt 66 = .ok (.ireturn, 1) := by decide +kernel
theorem dX7_restsAt_67 : decode cX7_restsAt 67 = .ok (.aload_n 0, 1) := by decide +kernel
theorem dX7_restsAt_68 : decode cX7_restsAt 68 = .ok (.getfield 29, 3) := by decide +kernel
theorem dX7_restsAt_71 : decode cX7_restsAt 71 = .ok (.bipush 7, 2) := by decide +kernel
theorem dX7_restsAt_73 : decode cX7_restsAt 73 = .ok (.iaload, 1) := by decide +kernel
theorem dX7_restsAt_74 : decode cX7_restsAt 74 = .ok (.ifCond .ne 5, 3) := by decide +kernel
theorem dX7_restsAt_77 : decode cX7_restsAt 77 = .ok (.iconst 3, 1) := by decide +kernel
theorem dX7_restsAt_78 : decode cX7_restsAt 78 = .ok (.ireturn, 1) := by decide +kernel
theorem dX7_restsAt_79 : decode cX7_restsAt 79 = .ok (.aload_n 0, 1) := by decide +kernel
theorem dX7_restsAt_80 : decode cX7_restsAt 80 = .ok (.bipush 7, 2) := by decide +kernel
theorem dX7_restsAt_82 : decode cX7_restsAt 82 = .ok (.iconst 2, 1) := by decide +kernel
theorem dX7_restsAt_83 : decode cX7_restsAt 83 = .ok (.invokevirtual 279, 3) := by decide +kernel
theorem dX7_restsAt_86 : decode cX7_restsAt 86 = .ok (.aload_n 0, 1) := by decide +kernel
theorem dX7_restsAt_87 : decode cX7_restsAt 87 = .ok (.bipush 7, 2) := by decide +kernel
theorem dX7_restsAt_89 : decode cX7_restsAt 89 = .ok (.iconst 5, 1) := by decide +kernel
theorem dX7_restsAt_90 : decode cX7_restsAt 90 = .ok (.invokevirtual 86, 3) := by decide +kernel
theorem dX7_restsAt_93 : decode cX7_restsAt 93 = .ok (.ifCond .le 7, 3) := by decide +kernel
theorem dX7_restsAt_96 : decode cX7_restsAt 96 = .ok (.iconst 1, 1) := by decide +kernel
theorem dX7_restsAt_97 : decode cX7_restsAt 97 = .ok (.goto 4, 3) := by decide +kernel
theorem dX7_restsAt_100 : decode cX7_restsAt 100 = .ok (.iconst 2, 1) := by decide +kernel
theorem dX7_restsAt_101 : decode cX7_restsAt 101 = .ok (.ireturn, 1) := by decide +kernel
theorem dX7_rests_0 : decode cX7_rests 0 = .ok (.iload_n 1, 1) := by decide +kernel
theorem dX7_rests_1 : decode cX7_rests 1 = .ok (.invokestatic 131, 3) := by decide +kernel
theorem dX7_rests_4 : decode cX7_rests 4 = .ok (.ifCond .ne 8, 3) := by decide +kernel
theorem dX7_rests_7 : decode cX7_rests 7 = .ok (.aload_n 0, 1) := by decide +kernel
theorem dX7_rests_8 : decode cX7_rests 8 = .ok (.invokevirtual 98, 3) := by decide +kernel
theorem dX7_rests_11 : decode cX7_rests 11 = .ok (.ireturn, 1) := by decide +kernel
theorem dX7_rests_12 : decode cX7_rests 12 = .ok (.aload_n 0, 1) := by decide +kernel
theorem dX7_rests_13 : decode cX7_rests 13 = .ok (.iload_n 1, 1) := by decide +kernel
theorem dX7_rests_14 : decode cX7_rests 14 = .ok (.bipush 8, 2) := by decide +kernel
theorem dX7_rests_16 : decode cX7_rests 16 = .ok (.idiv, 1) := by decide +kernel
theorem dX7_rests_17 : decode cX7_rests 17 = .ok (.invokevirtual 295, 3) := by decide +kernel
theorem dX7_rests_20 : decode cX7_rests 20 = .ok (.ifCond .eq 11, 3) := by decide +kernel
theorem dX7_rests_23 : decode cX7_rests 23 = .ok (.aload_n 0, 1) := by decide +kernel
theorem dX7_rests_24 : decode cX7_rests 24 = .ok (.iload_n 1, 1) := by decide +kernel
theorem dX7_rests_25 : decode cX7_rests 25 = .ok (.invokevirtual 319, 3) := by decide +kernel
theorem dX7_rests_28 : decode cX7_rests 28 = .ok (.goto 7, 3) := by decide +kernel
theorem dX7_rests_31 : decode cX7_rests 31 = .ok (.aload_n 0, 1) := by decide +kernel
theorem dX7_rests_32 : decode cX7_rests 32 = .ok (.invokevirtual 141, 3) := by decide +kernel
theorem dX7_rests_35 : decode cX7_rests 35 = .ok (.ireturn, 1) := by decide +kernel
theorem dX7_resting_0 : decode cX7_resting 0 = .ok (.iload_n 1, 1) := by decide +kernel
theorem dX7_resting_1 : decode cX7_resting 1 = .ok (.i2l, 1) := by decide +kernel
theorem dX7_resting_2 : decode cX7_resting 2 = .ok (.lconst 0, 1) := by decide +kernel
theorem dX7_resting_3 : decode cX7_resting 3 = .ok (.ldc2_w 119, 3) := by decide +kernel
theorem dX7_resting_6 : decode cX7_resting 6 = .ok (.invokestatic 102, 3) := by decide +kernel
theorem dX7_resting_9 : decode cX7_resting 9 = .ok (.ifCond .eq 15, 3) := by decide +kernel
theorem dX7_resting_12 : decode cX7_resting 12 = .ok (.iload_n 2, 1) := by decide +kernel
theorem dX7_resting_13 : decode cX7_resting 13 = .ok (.i2l, 1) := by decide +kernel
theorem dX7_resting_14 : decode cX7_resting 14 = .ok (.lconst 0, 1) := by decide +kernel
theorem dX7_resting_15 : decode cX7_resting 15 = .ok (.ldc2_w 117, 3) := by decide +kernel
theorem dX7_resting_18 : decode cX7_resting 18 = .ok (.invokestatic 102, 3) := by decide +kernel
theorem dX7_resting_21 : decode cX7_resting 21 = .ok (.ifCond .ne 8, 3) := by decide +kernel
theorem dX7_resting_24 : decode cX7_resting 24 = .ok (.aload_n 0, 1) := by decide +kernel
theorem dX7_resting_25 : decode cX7_resting 25 = .ok (.invokevirtual 98, 3) := by decide +kernel
theorem dX7_resting_28 : decode cX7_resting 28 = .ok (.ireturn, 1) := by decide +kernel
theorem dX7_resting_29 : decode cX7_resting 29 = .ok (.aload_n 0, 1) := by decide +kernel
theorem dX7_resting_30 : decode cX7_resting 30 = .ok (.iload_n 1, 1) := by decide +kernel
theorem dX7_resting_31 : decode cX7_resting 31 = .ok (.invokevirtual 295, 3) := by decide +kernel
theorem dX7_resting_34 : decode cX7_resting 34 = .ok (.ifCond .ne 8, 3) := by decide +kernel
theorem dX7_resting_37 : decode cX7_resting 37 = .ok (.aload_n 0, 1) := by decide +kernel
theorem dX7_resting_38 : decode cX7_resting 38 = .ok (.invokevirtual 141, 3) := by decide +kernel
theorem dX7_resting_41 : decode cX7_resting 41 = .ok (.ireturn, 1) := by decide +kernel
theorem dX7_resting_42 : decode cX7_resting 42 = .ok (.iconst 0, 1) := by decide +kernel
theorem dX7_resting_43 : decode cX7_resting 43 = .ok (.istore_n 3, 1) := by decide +kernel
theorem dX7_resting_44 : decode cX7_resting 44 = .ok (.iconst 0, 1) := by decide +kernel
theorem dX7_resting_45 : decode cX7_resting 45 = .ok (.istore 4, 2) := by decide +kernel
theorem dX7_resting_47 : decode cX7_resting 47 = .ok (.iload 4, 2) := by decide +kernel
theorem dX7_resting_49 : decode cX7_resting 49 = .ok (.bipush 8, 2) := by decide +kernel
theorem dX7_resting_51 : decode cX7_resting 51 = .ok (.if_icmp .ge 32, 3) := by decide +kernel
theorem dX7_resting_54 : decode cX7_resting 54 = .ok (.iload_n 3, 1) := by decide +kernel
theorem dX7_resting_55 : decode cX7_resting 55 = .ok (.aload_n 0, 1) := by decide +kernel
theorem dX7_resting_56 : decode cX7_resting 56 = .ok (.bipush 8, 2) := by decide +kernel
theorem dX7_resting_58 : decode cX7_resting 58 = .ok (.iload_n 1, 1) := by decide +kernel
theorem dX7_resting_59 : decode cX7_resting 59 = .ok (.imul, 1) := by decide +kernel
theorem dX7_resting_60 : decode cX7_resting 60 = .ok (.iload 4, 2) := by decide +kernel
theorem dX7_resting_62 : decode cX7_resting 62 = .ok (.iadd, 1) := by decide +kernel
theorem dX7_resting_63 : decode cX7_resting 63 = .ok (.invokevirtual 319, 3) := by decide +kernel
theorem dX7_resting_66 : decode cX7_resting 66 = .ok (.iload_n 2, 1) := by decide +kernel
theorem dX7_resting_67 : decode cX7_resting 67 = .ok (.if_icmp .ne 7, 3) := by decide +kernel
theorem dX7_resting_70 : decode cX7_resting 70 = .ok (.iconst 1, 1) := by decide +kernel
theorem dX7_resting_71 : decode cX7_resting 71 = .ok (.goto 4, 3) := by decide +kernel
theorem dX7_resting_74 : decode cX7_resting 74 = .ok (.iconst 0, 1) := by decide +kernel
theorem dX7_resting_75 : decode cX7_resting 75 = .ok (.iadd, 1) := by decide +kernel
theorem dX7_resting_76 : decode cX7_resting 76 = .ok (.istore_n 3, 1) := by decide +kernel
theorem dX7_resting_77 : decode cX7_resting 77 = .ok (.iinc 4 1, 3) := by decide +kernel
theorem dX7_resting_80 : decode cX7_resting 80 = .ok (.goto (-33), 3) := by decide +kernel
theorem dX7_resting_83 : decode cX7_resting 83 = .ok (.iload_n 3, 1) := by decide +kernel
theorem dX7_resting_84 : decode cX7_resting 84 = .ok (.ireturn, 1) := by decide +kernel
theorem dX7_bright_0 : decode cX7_bright 0 = .ok (.iload_n 1, 1) := by decide +kernel
theorem dX7_bright_1 : decode cX7_bright 1 = .ok (.invokestatic 131, 3) := by decide +kernel
theorem dX7_bright_4 : decode cX7_bright 4 = .ok (.ifCond .eq 15, 3) := by decide +kernel
theorem dX7_bright_7 : decode cX7_bright 7 = .ok (.iload_n 2, 1) := by decide +kernel
theorem dX7_bright_8 : decode cX7_bright 8 = .ok (.i2l, 1) := by decide +kernel
theorem dX7_bright_9 : decode cX7_bright 9 = .ok (.lconst 0, 1) := by decide +kernel
theorem dX7_bright_10 : decode cX7_bright 10 = .ok (.ldc2_w 268, 3) := by decide +kernel
theorem dX7_bright_13 : decode cX7_bright 13 = .ok (.invokestatic 102, 3) := by decide +kernel
theorem dX7_bright_16 : decode cX7_bright 16 = .ok (.ifCond .ne 8, 3) := by decide +kernel
theorem dX7_bright_19 : decode cX7_bright 19 = .ok (.aload_n 0, 1) := by decide +kernel
theorem dX7_bright_20 : decode cX7_bright 20 = .ok (.invokevirtual 98, 3) := by decide +kernel
theorem dX7_bright_23 : decode cX7_bright 23 = .ok (.ireturn, 1) := by decide +kernel
theorem dX7_bright_24 : decode cX7_bright 24 = .ok (.aload_n 0, 1) := by decide +kernel
theorem dX7_bright_25 : decode cX7_bright 25 = .ok (.iload_n 1, 1) := by decide +kernel
theorem dX7_bright_26 : decode cX7_bright 26 = .ok (.bipush 8, 2) := by decide +kernel
theorem dX7_bright_28 : decode cX7_bright 28 = .ok (.idiv, 1) := by decide +kernel
theorem dX7_bright_29 : decode cX7_bright 29 = .ok (.invokevirtual 295, 3) := by decide +kernel
theorem dX7_bright_32 : decode cX7_bright 32 = .ok (.ifCond .ne 8, 3) := by decide +kernel
theorem dX7_bright_35 : decode cX7_bright 35 = .ok (.aload_n 0, 1) := by decide +kernel
theorem dX7_bright_36 : decode cX7_bright 36 = .ok (.invokevirtual 141, 3) := by decide +kernel
theorem dX7_bright_39 : decode cX7_bright 39 = .ok (.ireturn, 1) := by decide +kernel
theorem dX7_bright_40 : decode cX7_bright 40 = .ok (.ldc_w 312, 3) := by decide +kernel
theorem dX7_bright_43 : decode cX7_bright 43 = .ok (.istore_n 3, 1) := by decide +kernel
theorem dX7_bright_44 : decode cX7_bright 44 = .ok (.iconst (-1), 1) := by decide +kernel
theorem dX7_bright_45 : decode cX7_bright 45 = .ok (.istore 4, 2) := by decide +kernel
theorem dX7_bright_47 : decode cX7_bright 47 = .ok (.aload_n 0, 1) := by decide +kernel
theorem dX7_bright_48 : decode cX7_bright 48 = .ok (.bipush 14, 2) := by decide +kernel
theorem dX7_bright_50 : decode cX7_bright 50 = .ok (.lconst 0, 1) := by decide +kernel
theorem dX7_bright_51 : decode cX7_bright 51 = .ok (.invokevirtual 56, 3) := by decide +kernel
theorem dX7_bright_54 : decode cX7_bright 54 = .ok (.iconst 0, 1) := by decide +kernel
theorem dX7_bright_55 : decode cX7_bright 55 = .ok (.istore 5, 2) := by decide +kernel
theorem dX7_bright_57 : decode cX7_bright 57 = .ok (.iload 5, 2) := by decide +kernel
theorem dX7_bright_59 : decode cX7_bright 59 = .ok (.bipush 21, 2) := by decide +kernel
theorem dX7_bright_61 : decode cX7_bright 61 = .ok (.if_icmp .ge 103, 3) := by decide +kernel
theorem dX7_bright_64 : decode cX7_bright 64 = .ok (.aload_n 0, 1) := by decide +kernel
theorem dX7_bright_65 : decode cX7_bright 65 = .ok (.bipush 7, 2) := by decide +kernel
theorem dX7_bright_67 : decode cX7_bright 67 = .ok (.lconst 0, 1) := by decide +kernel
theorem dX7_bright_68 : decode cX7_bright 68 = .ok (.invokevirtual 56, 3) := by decide +kernel
theorem dX7_bright_71 : decode cX7_bright 71 = .ok (.aload_n 0, 1) := by decide +kernel
theorem dX7_bright_72 : decode cX7_bright 72 = .ok (.iload_n 1, 1) := by decide +kernel
theorem dX7_bright_73 : decode cX7_bright 73 = .ok (.bipush 8, 2) := by decide +kernel
theorem dX7_bright_75 : decode cX7_bright 75 = .ok (.irem, 1) := by decide +kernel
theorem dX7_bright_76 : decode cX7_bright 76 = .ok (.iload 5, 2) := by decide +kernel
theorem dX7_bright_78 : decode cX7_bright 78 = .ok (.invokevirtual 298, 3) := by decide +kernel
theorem dX7_bright_81 : decode cX7_bright 81 = .ok (.aload_n 0, 1) := by decide +kernel
theorem dX7_bright_82 : decode cX7_bright 82 = .ok (.getfield 29, 3) := by decide +kernel
theorem dX7_bright_85 : decode cX7_bright 85 = .ok (.bipush 7, 2) := by decide +kernel
theorem dX7_bright_87 : decode cX7_bright 87 = .ok (.iaload, 1) := by decide +kernel
theorem dX7_bright_88 : decode cX7_bright 88 = .ok (.ifCond .le 70, 3) := by decide +kernel
theorem dX7_bright_91 : decode cX7_bright 91 = .ok (.iload 5, 2) := by decide +kernel
theorem dX7_bright_93 : decode cX7_bright 93 = .ok (.ifCond .ne 8, 3) := by decide +kernel
theorem dX7_bright_96 : decode cX7_bright 96 = .ok (.bipush 9, 2) := by decide +kernel
theorem dX7_bright_98 : decode cX7_bright 98 = .ok (.goto 13, 3) := by decide +kernel
theorem dX7_bright_101 : decode cX7_bright 101 = .ok (.aload_n 0, 1) := by decide +kernel
theorem dX7_bright_102 : decode cX7_bright 102 = .ok (.iload 5, 2) := by decide +kernel
theorem dX7_bright_104 : decode cX7_bright 104 = .ok (.invokestatic 316, 3) := by decide +kernel
theorem dX7_bright_107 : decode cX7_bright 107 = .ok (.iconst 1, 1) := by decide +kernel
theorem dX7_bright_108 : decode cX7_bright 108 = .ok (.invokevirtual 244, 3) := by decide +kernel
theorem dX7_bright_111 : decode cX7_bright 111 = .ok (.istore 6, 2) := by decide +kernel
theorem dX7_bright_113 : decode cX7_bright 113 = .ok (.iload 6, 2) := by decide +kernel
theorem dX7_bright_115 : decode cX7_bright 115 = .ok (.iload_n 3, 1) := by decide +kernel
theorem dX7_bright_116 : decode cX7_bright 116 = .ok (.if_icmp .ge 8, 3) := by decide +kernel
theorem dX7_bright_119 : decode cX7_bright 119 = .ok (.iload 6, 2) := by decide +kernel
theorem dX7_bright_121 : decode cX7_bright 121 = .ok (.goto 4, 3) := by decide +kernel
theorem dX7_bright_124 : decode cX7_bright 124 = .ok (.iload_n 3, 1) := by decide +kernel
theorem dX7_bright_125 : decode cX7_bright 125 = .ok (.istore_n 3, 1) := by decide +kernel
theorem dX7_bright_126 : decode cX7_bright 126 = .ok (.iload 6, 2) := by decide +kernel
theorem dX7_bright_128 : decode cX7_bright 128 = .ok (.iload 4, 2) := by decide +kernel
theorem dX7_bright_130 : decode cX7_bright 130 = .ok (.if_icmp .le 8, 3) := by decide +kernel
theorem dX7_bright_133 : decode cX7_bright 133 = .ok (.iload 6, 2) := by decide +kernel
theorem dX7_bright_135 : decode cX7_bright 135 = .ok (.goto 5, 3) := by decide +kernel
theorem dX7_bright_138 : decode cX7_bright 138 = .ok (.iload 4, 2) := by decide +kernel
theorem dX7_bright_140 : decode cX7_bright 140 = .ok (.istore 4, 2) := by decide +kernel
theorem dX7_bright_142 : decode cX7_bright 142 = .ok (.aload_n 0, 1) := by decide +kernel
theorem dX7_bright_143 : decode cX7_bright 143 = .ok (.bipush 7, 2) := by decide +kernel
theorem dX7_bright_145 : decode cX7_bright 145 = .ok (.iload 6, 2) := by decide +kernel
theorem dX7_bright_147 : decode cX7_bright 147 = .ok (.invokevirtual 279, 3) := by decide +kernel
theorem dX7_bright_150 : decode cX7_bright 150 = .ok (.aload_n 0, 1) := by decide +kernel
theorem dX7_bright_151 : decode cX7_bright 151 = .ok (.bipush 14, 2) := by decide +kernel
theorem dX7_bright_153 : decode cX7_bright 153 = .ok (.bipush 7, 2) := by decide +kernel
theorem dX7_bright_155 : decode cX7_bright 155 = .ok (.invokevirtual 282, 3) := by decide +kernel
theorem dX7_bright_158 : decode cX7_bright 158 = .ok (.iinc 5 1, 3) := by decide +kernel
theorem dX7_bright_161 : decode cX7_bright 161 = .ok (.goto (-104), 3) := by decide +kernel
theorem dX7_bright_164 : decode cX7_bright 164 = .ok (.aload_n 0, 1) := by decide +kernel
theorem dX7_bright_165 : decode cX7_bright 165 = .ok (.bipush 7, 2) := by decide +kernel
theorem dX7_bright_167 : decode cX7_bright 167 = .ok (.bipush 14, 2) := by decide +kernel
theorem dX7_bright_169 : decode cX7_bright 169 = .ok (.invokevirtual 74, 3) := by decide +kernel
theorem dX7_bright_172 : decode cX7_bright 172 = .ok (.iload_n 2, 1) := by decide +kernel
theorem dX7_bright_173 : decode cX7_bright 173 = .ok (.ifCond .ne 7, 3) := by decide +kernel
theorem dX7_bright_176 : decode cX7_bright 176 = .ok (.iload_n 3, 1) := by decide +kernel
theorem dX7_bright_177 : decode cX7_bright 177 = .ok (.goto 17, 3) := by decide +kernel
theorem dX7_bright_180 : decode cX7_bright 180 = .ok (.iload_n 2, 1) := by decide +kernel
theorem dX7_bright_181 : decode cX7_bright 181 = .ok (.iconst 1, 1) := by decide +kernel
theorem dX7_bright_182 : decode cX7_bright 182 = .ok (.if_icmp .ne 8, 3) := by decide +kernel
theorem dX7_bright_185 : decode cX7_bright 185 = .ok (.iload 4, 2) := by decide +kernel
theorem dX7_bright_187 : decode cX7_bright 187 = .ok (.goto 7, 3) := by decide +kernel
theorem dX7_bright_190 : decode cX7_bright 190 = .ok (.aload_n 0, 1) := by decide +kernel
theorem dX7_bright_191 : decode cX7_bright 191 = .ok (.invokevirtual 301, 3) := by decide +kernel
theorem dX7_bright_194 : decode cX7_bright 194 = .ok (.ireturn, 1) := by decide +kernel
theorem dX7_image_0 : decode cX7_image 0 = .ok (.iload_n 1, 1) := by decide +kernel
theorem dX7_image_1 : decode cX7_image 1 = .ok (.i2l, 1) := by decide +kernel
theorem dX7_image_2 : decode cX7_image 2 = .ok (.lconst 0, 1) := by decide +kernel
theorem dX7_image_3 : decode cX7_image 3 = .ok (.lconst 1, 1) := by decide +kernel
theorem dX7_image_4 : decode cX7_image 4 = .ok (.invokestatic 102, 3) := by decide +kernel
theorem dX7_image_7 : decode cX7_image 7 = .ok (.ifCond .ne 8, 3) := by decide +kernel
theorem dX7_image_10 : decode cX7_image 10 = .ok (.aload_n 0, 1) := by decide +kernel
theorem dX7_image_11 : decode cX7_image 11 = .ok (.invokevirtual 98, 3) := by decide +kernel
theorem dX7_image_14 : decode cX7_image 14 = .ok (.ireturn, 1) := by decide +kernel
theorem dX7_image_15 : decode cX7_image 15 = .ok (.iconst 0, 1) := by decide +kernel
theorem dX7_image_16 : decode cX7_image 16 = .ok (.istore_n 2, 1) := by decide +kernel
theorem dX7_image_17 : decode cX7_image 17 = .ok (.iload_n 2, 1) := by decide +kernel
theorem dX7_image_18 : decode cX7_image 18 = .ok (.sipush 210, 3) := by decide +kernel
theorem dX7_image_21 : decode cX7_image 21 = .ok (.if_icmp .ge 27, 3) := by decide +kernel
theorem dX7_image_24 : decode cX7_image 24 = .ok (.aload_n 0, 1) := by decide +kernel
theorem dX7_image_25 : decode cX7_image 25 = .ok (.getfield 13, 3) := by decide +kernel
theorem dX7_image_28 : decode cX7_image 28 = .ok (.sipush 210, 3) := by decide +kernel
theorem dX7_image_31 : decode cX7_image 31 = .ok (.iload_n 1, 1) := by decide +kernel
theorem dX7_image_32 : decode cX7_image 32 = .ok (.imul, 1) := by decide +kernel
theorem dX7_image_33 : decode cX7_image 33 = .ok (.iload_n 2, 1) := by decide +kernel
theorem dX7_image_34 : decode cX7_image 34 = .ok (.iadd, 1) := by decide +kernel
theorem dX7_image_35 : decode cX7_image 35 = .ok (.aload_n 0, 1) := by decide +kernel
theorem dX7_image_36 : decode cX7_image 36 = .ok (.getfield 7, 3) := by decide +kernel
theorem dX7_image_39 : decode cX7_image 39 = .ok (.iload_n 2, 1) := by decide +kernel
theorem dX7_image_40 : decode cX7_image 40 = .ok (.iaload, 1) := by decide +kernel
theorem dX7_image_41 : decode cX7_image 41 = .ok (.iastore, 1) := by decide +kernel
theorem dX7_image_42 : decode cX7_image 42 = .ok (.iinc 2 1, 3) := by decide +kernel
theorem dX7_image_45 : decode cX7_image 45 = .ok (.goto (-28), 3) := by decide +kernel
theorem dX7_image_48 : decode cX7_image 48 = .ok (.aload_n 0, 1) := by decide +kernel
theorem dX7_image_49 : decode cX7_image 49 = .ok (.getfield 16, 3) := by decide +kernel
theorem dX7_image_52 : decode cX7_image 52 = .ok (.iload_n 1, 1) := by decide +kernel
theorem dX7_image_53 : decode cX7_image 53 = .ok (.iconst 1, 1) := by decide +kernel
theorem dX7_image_54 : decode cX7_image 54 = .ok (.bastore, 1) := by decide +kernel
theorem dX7_image_55 : decode cX7_image 55 = .ok (.iconst 1, 1) := by decide +kernel
theorem dX7_image_56 : decode cX7_image 56 = .ok (.ireturn, 1) := by decide +kernel
theorem dX7_from_0 : decode cX7_from 0 = .ok (.iload_n 1, 1) := by decide +kernel
theorem dX7_from_1 : decode cX7_from 1 = .ok (.i2l, 1) := by decide +kernel
theorem dX7_from_2 : decode cX7_from 2 = .ok (.lconst 0, 1) := by decide +kernel
theorem dX7_from_3 : decode cX7_from 3 = .ok (.lconst 1, 1) := by decide +kernel
theorem dX7_from_4 : decode cX7_from 4 = .ok (.invokestatic 102, 3) := by decide +kernel
theorem dX7_from_7 : decode cX7_from 7 = .ok (.ifCond .ne 8, 3) := by decide +kernel
theorem dX7_from_10 : decode cX7_from 10 = .ok (.aload_n 0, 1) := by decide +kernel
theorem dX7_from_11 : decode cX7_from 11 = .ok (.invokevirtual 98, 3) := by decide +kernel
theorem dX7_from_14 : decode cX7_from 14 = .ok (.ireturn, 1) := by decide +kernel
theorem dX7_from_15 : decode cX7_from 15 = .ok (.aload_n 0, 1) := by decide +kernel
theorem dX7_from_16 : decode cX7_from 16 = .ok (.getfield 16, 3) := by decide +kernel
theorem dX7_from_19 : decode cX7_from 19 = .ok (.iload_n 1, 1) := by decide +kernel
theorem dX7_from_20 : decode cX7_from 20 = .ok (.baload, 1) := by decide +kernel
theorem dX7_from_21 : decode cX7_from 21 = .ok (.ifCond .ne 8, 3) := by decide +kernel
theorem dX7_from_24 : decode cX7_from 24 = .ok (.aload_n 0, 1) := by decide +kernel
theorem dX7_from_25 : decode cX7_from 25 = .ok (.invokevirtual 141, 3) := by decide +kernel
theorem dX7_from_28 : decode cX7_from 28 = .ok (.ireturn, 1) := by decide +kernel
theorem dX7_from_29 : decode cX7_from 29 = .ok (.iconst 0, 1) := by decide +kernel
theorem dX7_from_30 : decode cX7_from 30 = .ok (.istore_n 2, 1) := by decide +kernel
theorem dX7_from_31 : decode cX7_from 31 = .ok (.iload_n 2, 1) := by decide +kernel
theorem dX7_from_32 : decode cX7_from 32 = .ok (.sipush 210, 3) := by decide +kernel
theorem dX7_from_35 : decode cX7_from 35 = .ok (.if_icmp .ge 27, 3) := by decide +kernel
theorem dX7_from_38 : decode cX7_from 38 = .ok (.aload_n 0, 1) := by decide +kernel
theorem dX7_from_39 : decode cX7_from 39 = .ok (.getfield 7, 3) := by decide +kernel
theorem dX7_from_42 : decode cX7_from 42 = .ok (.iload_n 2, 1) := by decide +kernel
theorem dX7_from_43 : decode cX7_from 43 = .ok (.aload_n 0, 1) := by decide +kernel
theorem dX7_from_44 : decode cX7_from 44 = .ok (.getfield 13, 3) := by decide +kernel
theorem dX7_from_47 : decode cX7_from 47 = .ok (.sipush 210, 3) := by decide +kernel
theorem dX7_from_50 : decode cX7_from 50 = .ok (.iload_n 1, 1) := by decide +kernel
theorem dX7_from_51 : decode cX7_from 51 = .ok (.imul, 1) := by decide +kernel
theorem dX7_from_52 : decode cX7_from 52 = .ok (.iload_n 2, 1) := by decide +kernel
theorem dX7_from_53 : decode cX7_from 53 = .ok (.iadd, 1) := by decide +kernel
theorem dX7_from_54 : decode cX7_from 54 = .ok (.iaload, 1) := by decide +kernel
theorem dX7_from_55 : decode cX7_from 55 = .ok (.iastore, 1) := by decide +kernel
theorem dX7_from_56 : decode cX7_from 56 = .ok (.iinc 2 1, 3) := by decide +kernel
theorem dX7_from_59 : decode cX7_from 59 = .ok (.goto (-28), 3) := by decide +kernel
theorem dX7_from_62 : decode cX7_from 62 = .ok (.iconst 1, 1) := by decide +kernel
theorem dX7_from_63 : decode cX7_from 63 = .ok (.ireturn, 1) := by decide +kernel
theorem dX7_status_0 : decode cX7_status 0 = .ok (.iload_n 1, 1) := by decide +kernel
theorem dX7_status_1 : decode cX7_status 1 = .ok (.i2l, 1) := by decide +kernel
theorem dX7_status_2 : decode cX7_status 2 = .ok (.lconst 0, 1) := by decide +kernel
theorem dX7_status_3 : decode cX7_status 3 = .ok (.ldc2_w 268, 3) := by decide +kernel
theorem dX7_status_6 : decode cX7_status 6 = .ok (.invokestatic 102, 3) := by decide +kernel
theorem dX7_status_9 : decode cX7_status 9 = .ok (.ifCond .eq 12, 3) := by decide +kernel
theorem dX7_status_12 : decode cX7_status 12 = .ok (.aload_n 0, 1) := by decide +kernel
theorem dX7_status_13 : decode cX7_status 13 = .ok (.getfield 23, 3) := by decide +kernel
theorem dX7_status_16 : decode cX7_status 16 = .ok (.iload_n 1, 1) := by decide +kernel
theorem dX7_status_17 : decode cX7_status 17 = .ok (.iaload, 1) := by decide +kernel
theorem dX7_status_18 : decode cX7_status 18 = .ok (.goto 9, 3) := by decide +kernel
theorem dX7_status_21 : decode cX7_status 21 = .ok (.aload_n 0, 1) := by decide +kernel
theorem dX7_status_22 : decode cX7_status 22 = .ok (.iconst 0, 1) := by decide +kernel
theorem dX7_status_23 : decode cX7_status 23 = .ok (.iconst (-1), 1) := by decide +kernel
theorem dX7_status_24 : decode cX7_status 24 = .ok (.invokevirtual 64, 3) := by decide +kernel
theorem dX7_status_27 : decode cX7_status 27 = .ok (.ireturn, 1) := by decide +kernel
theorem dX7_countOf_0 : decode cX7_countOf 0 = .ok (.iconst 0, 1) := by decide +kernel
theorem dX7_countOf_1 : decode cX7_countOf 1 = .ok (.istore_n 2, 1) := by decide +kernel
theorem dX7_countOf_2 : decode cX7_countOf 2 = .ok (.iconst 0, 1) := by decide +kernel
theorem dX7_countOf_3 : decode cX7_countOf 3 = .ok (.istore_n 3, 1) := by decide +kernel
theorem dX7_countOf_4 : decode cX7_countOf 4 = .ok (.iload_n 3, 1) := by decide +kernel
theorem dX7_countOf_5 : decode cX7_countOf 5 = .ok (.aload_n 0, 1) := by decide +kernel
theorem dX7_countOf_6 : decode cX7_countOf 6 = .ok (.getfield 7, 3) := by decide +kernel
theorem dX7_countOf_9 : decode cX7_countOf 9 = .ok (.iconst 1, 1) := by decide +kernel
theorem dX7_countOf_10 : decode cX7_countOf 10 = .ok (.iaload, 1) := by decide +kernel
theorem dX7_countOf_11 : decode cX7_countOf 11 = .ok (.if_icmp .ge 18, 3) := by decide +kernel
theorem dX7_countOf_14 : decode cX7_countOf 14 = .ok (.iload_n 2, 1) := by decide +kernel
theorem dX7_countOf_15 : decode cX7_countOf 15 = .ok (.aload_n 0, 1) := by decide +kernel
theorem dX7_countOf_16 : decode cX7_countOf 16 = .ok (.iload_n 3, 1) := by decide +kernel
theorem dX7_countOf_17 : decode cX7_countOf 17 = .ok (.iconst 3, 1) := by decide +kernel
theorem dX7_countOf_18 : decode cX7_countOf 18 = .ok (.invokevirtual 138, 3) := by decide +kernel
theorem dX7_countOf_21 : decode cX7_countOf 21 = .ok (.iadd, 1) := by decide +kernel
theorem dX7_countOf_22 : decode cX7_countOf 22 = .ok (.istore_n 2, 1) := by decide +kernel
theorem dX7_countOf_23 : decode cX7_countOf 23 = .ok (.iinc 3 1, 3) := by decide +kernel
theorem dX7_countOf_26 : decode cX7_countOf 26 = .ok (.goto (-22), 3) := by decide +kernel
theorem dX7_countOf_29 : decode cX7_countOf 29 = .ok (.iload_n 1, 1) := by decide +kernel
theorem dX7_countOf_30 : decode cX7_countOf 30 = .ok (.iconst 2, 1) := by decide +kernel
theorem dX7_countOf_31 : decode cX7_countOf 31 = .ok (.if_icmp .ge 12, 3) := by decide +kernel
theorem dX7_countOf_34 : decode cX7_countOf 34 = .ok (.aload_n 0, 1) := by decide +kernel
theorem dX7_countOf_35 : decode cX7_countOf 35 = .ok (.getfield 7, 3) := by decide +kernel
theorem dX7_countOf_38 : decode cX7_countOf 38 = .ok (.iload_n 1, 1) := by decide +kernel
theorem dX7_countOf_39 : decode cX7_countOf 39 = .ok (.iaload, 1) := by decide +kernel
theorem dX7_countOf_40 : decode cX7_countOf 40 = .ok (.goto 16, 3) := by decide +kernel
theorem dX7_countOf_43 : decode cX7_countOf 43 = .ok (.iload_n 1, 1) := by decide +kernel
theorem dX7_countOf_44 : decode cX7_countOf 44 = .ok (.iconst 2, 1) := by decide +kernel
theorem dX7_countOf_45 : decode cX7_countOf 45 = .ok (.if_icmp .ne 7, 3) := by decide +kernel
theorem dX7_countOf_48 : decode cX7_countOf 48 = .ok (.iload_n 2, 1) := by decide +kernel
theorem dX7_countOf_49 : decode cX7_countOf 49 = .ok (.goto 7, 3) := by decide +kernel
theorem dX7_countOf_52 : decode cX7_countOf 52 = .ok (.aload_n 0, 1) := by decide +kernel
theorem dX7_countOf_53 : decode cX7_countOf 53 = .ok (.getfield 146, 3) := by decide +kernel
theorem dX7_countOf_56 : decode cX7_countOf 56 = .ok (.ireturn, 1) := by decide +kernel
theorem dX7_count_0 : decode cX7_count 0 = .ok (.iload_n 1, 1) := by decide +kernel
theorem dX7_count_1 : decode cX7_count 1 = .ok (.i2l, 1) := by decide +kernel
theorem dX7_count_2 : decode cX7_count 2 = .ok (.lconst 0, 1) := by decide +kernel
theorem dX7_count_3 : decode cX7_count 3 = .ok (.ldc2_w 117, 3) := by decide +kernel
theorem dX7_count_6 : decode cX7_count 6 = .ok (.invokestatic 102, 3) := by decide +kernel
theorem dX7_count_9 : decode cX7_count 9 = .ok (.ifCond .eq 11, 3) := by decide +kernel
theorem dX7_count_12 : decode cX7_count 12 = .ok (.aload_n 0, 1) := by decide +kernel
theorem dX7_count_13 : decode cX7_count 13 = .ok (.iload_n 1, 1) := by decide +kernel
theorem dX7_count_14 : decode cX7_count 14 = .ok (.invokevirtual 322, 3) := by decide +kernel
theorem dX7_count_17 : decode cX7_count 17 = .ok (.goto 7, 3) := by decide +kernel
theorem dX7_count_20 : decode cX7_count 20 = .ok (.aload_n 0, 1) := by decide +kernel
theorem dX7_count_21 : decode cX7_count 21 = .ok (.invokevirtual 98, 3) := by decide +kernel
theorem dX7_count_24 : decode cX7_count 24 = .ok (.ireturn, 1) := by decide +kernel
theorem dX7_mixed_0 : decode cX7_mixed 0 = .ok (.lload_n 0, 1) := by decide +kernel
theorem dX7_mixed_1 : decode cX7_mixed 1 = .ok (.lstore 5, 2) := by decide +kernel
theorem dX7_mixed_3 : decode cX7_mixed 3 = .ok (.iconst 0, 1) := by decide +kernel
theorem dX7_mixed_4 : decode cX7_mixed 4 = .ok (.istore 7, 2) := by decide +kernel
theorem dX7_mixed_6 : decode cX7_mixed 6 = .ok (.iload 7, 2) := by decide +kernel
theorem dX7_mixed_8 : decode cX7_mixed 8 = .ok (.iload 4, 2) := by decide +kernel
theorem dX7_mixed_10 : decode cX7_mixed 10 = .ok (.if_icmp .ge 25, 3) := by decide +kernel
theorem dX7_mixed_13 : decode cX7_mixed 13 = .ok (.ldc2_w 325, 3) := by decide +kernel
theorem dX7_mixed_16 : decode cX7_mixed 16 = .ok (.lload 5, 2) := by decide +kernel
theorem dX7_mixed_18 : decode cX7_mixed 18 = .ok (.lmul, 1) := by decide +kernel
theorem dX7_mixed_19 : decode cX7_mixed 19 = .ok (.aload_n 2, 1) := by decide +kernel
theorem dX7_mixed_20 : decode cX7_mixed 20 = .ok (.iload_n 3, 1) := by decide +kernel
theorem dX7_mixed_21 : decode cX7_mixed 21 = .ok (.iload 7, 2) := by decide +kernel
theorem dX7_mixed_23 : decode cX7_mixed 23 = .ok (.iadd, 1) := by decide +kernel
theorem dX7_mixed_24 : decode cX7_mixed 24 = .ok (.iaload, 1) := by decide +kernel
theorem dX7_mixed_25 : decode cX7_mixed 25 = .ok (.i2l, 1) := by decide +kernel
theorem dX7_mixed_26 : decode cX7_mixed 26 = .ok (.ladd, 1) := by decide +kernel
theorem dX7_mixed_27 : decode cX7_mixed 27 = .ok (.lstore 5, 2) := by decide +kernel
theorem dX7_mixed_29 : decode cX7_mixed 29 = .ok (.iinc 7 1, 3) := by decide +kernel
theorem dX7_mixed_32 : decode cX7_mixed 32 = .ok (.goto (-26), 3) := by decide +kernel
theorem dX7_mixed_35 : decode cX7_mixed 35 = .ok (.lload 5, 2) := by decide +kernel
theorem dX7_mixed_37 : decode cX7_mixed 37 = .ok (.lreturn, 1) := by decide +kernel
theorem dX7_digest_0 : decode cX7_digest 0 = .ok (.ldc2_w 327, 3) := by decide +kernel
theorem dX7_digest_3 : decode cX7_digest 3 = .ok (.lstore_n 1, 1) := by decide +kernel
theorem dX7_digest_4 : decode cX7_digest 4 = .ok (.iconst 0, 1) := by decide +kernel
theorem dX7_digest_5 : decode cX7_digest 5 = .ok (.istore_n 3, 1) := by decide +kernel
theorem dX7_digest_6 : decode cX7_digest 6 = .ok (.iload_n 3, 1) := by decide +kernel
theorem dX7_digest_7 : decode cX7_digest 7 = .ok (.iconst 4, 1) := by decide +kernel
theorem dX7_digest_8 : decode cX7_digest 8 = .ok (.if_icmp .ge 22, 3) := by decide +kernel
theorem dX7_digest_11 : decode cX7_digest 11 = .ok (.ldc2_w 325, 3) := by decide +kernel
theorem dX7_digest_14 : decode cX7_digest 14 = .ok (.lload_n 1, 1) := by decide +kernel
theorem dX7_digest_15 : decode cX7_digest 15 = .ok (.lmul, 1) := by decide +kernel
theorem dX7_digest_16 : decode cX7_digest 16 = .ok (.aload_n 0, 1) := by decide +kernel
theorem dX7_digest_17 : decode cX7_digest 17 = .ok (.iload_n 3, 1) := by decide +kernel
theorem dX7_digest_18 : decode cX7_digest 18 = .ok (.invokevirtual 322, 3) := by decide +kernel
theorem dX7_digest_21 : decode cX7_digest 21 = .ok (.i2l, 1) := by decide +kernel
theorem dX7_digest_22 : decode cX7_digest 22 = .ok (.ladd, 1) := by decide +kernel
theorem dX7_digest_23 : decode cX7_digest 23 = .ok (.lstore_n 1, 1) := by decide +kernel
theorem dX7_digest_24 : decode cX7_digest 24 = .ok (.iinc 3 1, 3) := by decide +kernel
theorem dX7_digest_27 : decode cX7_digest 27 = .ok (.goto (-21), 3) := by decide +kernel
theorem dX7_digest_30 : decode cX7_digest 30 = .ok (.lload_n 1, 1) := by decide +kernel
theorem dX7_digest_31 : decode cX7_digest 31 = .ok (.aload_n 0, 1) := by decide +kernel
theorem dX7_digest_32 : decode cX7_digest 32 = .ok (.getfield 7, 3) := by decide +kernel
theorem dX7_digest_35 : decode cX7_digest 35 = .ok (.bipush 40, 2) := by decide +kernel
theorem dX7_digest_37 : decode cX7_digest 37 = .ok (.iconst 4, 1) := by decide +kernel
theorem dX7_digest_38 : decode cX7_digest 38 = .ok (.aload_n 0, 1) := by decide +kernel
theorem dX7_digest_39 : decode cX7_digest 39 = .ok (.getfield 7, 3) := by decide +kernel
theorem dX7_digest_42 : decode cX7_digest 42 = .ok (.iconst 0, 1) := by decide +kernel
theorem dX7_digest_43 : decode cX7_digest 43 = .ok (.iaload, 1) := by decide +kernel
theorem dX7_digest_44 : decode cX7_digest 44 = .ok (.imul, 1) := by decide +kernel
theorem dX7_digest_45 : decode cX7_digest 45 = .ok (.invokestatic 329, 3) := by decide +kernel
theorem dX7_digest_48 : decode cX7_digest 48 = .ok (.lstore_n 1, 1) := by decide +kernel
theorem dX7_digest_49 : decode cX7_digest 49 = .ok (.lload_n 1, 1) := by decide +kernel
theorem dX7_digest_50 : decode cX7_digest 50 = .ok (.aload_n 0, 1) := by decide +kernel
theorem dX7_digest_51 : decode cX7_digest 51 = .ok (.getfield 7, 3) := by decide +kernel
theorem dX7_digest_54 : decode cX7_digest 54 = .ok (.iconst 2, 1) := by decide +kernel
theorem dX7_digest_55 : decode cX7_digest 55 = .ok (.bipush 7, 2) := by decide +kernel
theorem dX7_digest_57 : decode cX7_digest 57 = .ok (.invokestatic 329, 3) := by decide +kernel
theorem dX7_digest_60 : decode cX7_digest 60 = .ok (.lstore_n 1, 1) := by decide +kernel
theorem dX7_digest_61 : decode cX7_digest 61 = .ok (.lload_n 1, 1) := by decide +kernel
theorem dX7_digest_62 : decode cX7_digest 62 = .ok (.aload_n 0, 1) := by decide +kernel
theorem dX7_digest_63 : decode cX7_digest 63 = .ok (.getfield 7, 3) := by decide +kernel
theorem dX7_digest_66 : decode cX7_digest 66 = .ok (.bipush 10, 2) := by decide +kernel
theorem dX7_digest_68 : decode cX7_digest 68 = .ok (.bipush 21, 2) := by decide +kernel
theorem dX7_digest_70 : decode cX7_digest 70 = .ok (.invokestatic 329, 3) := by decide +kernel
theorem dX7_digest_73 : decode cX7_digest 73 = .ok (.lstore_n 1, 1) := by decide +kernel
theorem dX7_digest_74 : decode cX7_digest 74 = .ok (.lload_n 1, 1) := by decide +kernel
theorem dX7_digest_75 : decode cX7_digest 75 = .ok (.aload_n 0, 1) := by decide +kernel
theorem dX7_digest_76 : decode cX7_digest 76 = .ok (.getfield 7, 3) := by decide +kernel
theorem dX7_digest_79 : decode cX7_digest 79 = .ok (.bipush 60, 2) := by decide +kernel
theorem dX7_digest_81 : decode cX7_digest 81 = .ok (.iconst 4, 1) := by decide +kernel
theorem dX7_digest_82 : decode cX7_digest 82 = .ok (.aload_n 0, 1) := by decide +kernel
theorem dX7_digest_83 : decode cX7_digest 83 = .ok (.getfield 7, 3) := by decide +kernel
theorem dX7_digest_86 : decode cX7_digest 86 = .ok (.iconst 1, 1) := by decide +kernel
theorem dX7_digest_87 : decode cX7_digest 87 = .ok (.iaload, 1) := by decide +kernel
theorem dX7_digest_88 : decode cX7_digest 88 = .ok (.imul, 1) := by decide +kernel
theorem dX7_digest_89 : decode cX7_digest 89 = .ok (.invokestatic 329, 3) := by decide +kernel
theorem dX7_digest_92 : decode cX7_digest 92 = .ok (.lstore_n 1, 1) := by decide +kernel
theorem dX7_digest_93 : decode cX7_digest 93 = .ok (.lload_n 1, 1) := by decide +kernel
theorem dX7_digest_94 : decode cX7_digest 94 = .ok (.aload_n 0, 1) := by decide +kernel
theorem dX7_digest_95 : decode cX7_digest 95 = .ok (.getfield 7, 3) := by decide +kernel
theorem dX7_digest_98 : decode cX7_digest 98 = .ok (.sipush 150, 3) := by decide +kernel
theorem dX7_digest_101 : decode cX7_digest 101 = .ok (.bipush 48, 2) := by decide +kernel
theorem dX7_digest_103 : decode cX7_digest 103 = .ok (.invokestatic 329, 3) := by decide +kernel
theorem dX7_digest_106 : decode cX7_digest 106 = .ok (.lstore_n 1, 1) := by decide +kernel
theorem dX7_digest_107 : decode cX7_digest 107 = .ok (.ldc2_w 325, 3) := by decide +kernel
theorem dX7_digest_110 : decode cX7_digest 110 = .ok (.lload_n 1, 1) := by decide +kernel
theorem dX7_digest_111 : decode cX7_digest 111 = .ok (.lmul, 1) := by decide +kernel
theorem dX7_digest_112 : decode cX7_digest 112 = .ok (.aload_n 0, 1) := by decide +kernel
theorem dX7_digest_113 : decode cX7_digest 113 = .ok (.getfield 29, 3) := by decide +kernel
theorem dX7_digest_116 : decode cX7_digest 116 = .ok (.iconst 0, 1) := by decide +kernel
theorem dX7_digest_117 : decode cX7_digest 117 = .ok (.iaload, 1) := by decide +kernel
theorem dX7_digest_118 : decode cX7_digest 118 = .ok (.ifCond .le 7, 3) := by decide +kernel
theorem dX7_digest_121 : decode cX7_digest 121 = .ok (.iconst 1, 1) := by decide +kernel
theorem dX7_digest_122 : decode cX7_digest 122 = .ok (.goto 4, 3) := by decide +kernel
theorem dX7_digest_125 : decode cX7_digest 125 = .ok (.iconst 0, 1) := by decide +kernel
theorem dX7_digest_126 : decode cX7_digest 126 = .ok (.i2l, 1) := by decide +kernel
theorem dX7_digest_127 : decode cX7_digest 127 = .ok (.ladd, 1) := by decide +kernel
theorem dX7_digest_128 : decode cX7_digest 128 = .ok (.lstore_n 1, 1) := by decide +kernel
theorem dX7_digest_129 : decode cX7_digest 129 = .ok (.ldc2_w 325, 3) := by decide +kernel
theorem dX7_digest_132 : decode cX7_digest 132 = .ok (.ldc2_w 325, 3) := by decide +kernel
theorem dX7_digest_135 : decode cX7_digest 135 = .ok (.lload_n 1, 1) := by decide +kernel
theorem dX7_digest_136 : decode cX7_digest 136 = .ok (.lmul, 1) := by decide +kernel
theorem dX7_digest_137 : decode cX7_digest 137 = .ok (.aload_n 0, 1) := by decide +kernel
theorem dX7_digest_138 : decode cX7_digest 138 = .ok (.getfield 29, 3) := by decide +kernel
theorem dX7_digest_141 : decode cX7_digest 141 = .ok (.iconst 0, 1) := by decide +kernel
theorem dX7_digest_142 : decode cX7_digest 142 = .ok (.iaload, 1) := by decide +kernel
theorem dX7_digest_143 : decode cX7_digest 143 = .ok (.i2l, 1) := by decide +kernel
theorem dX7_digest_144 : decode cX7_digest 144 = .ok (.ladd, 1) := by decide +kernel
theorem dX7_digest_145 : decode cX7_digest 145 = .ok (.lmul, 1) := by decide +kernel
theorem dX7_digest_146 : decode cX7_digest 146 = .ok (.aload_n 0, 1) := by decide +kernel
theorem dX7_digest_147 : decode cX7_digest 147 = .ok (.getfield 29, 3) := by decide +kernel
theorem dX7_digest_150 : decode cX7_digest 150 = .ok (.iconst 1, 1) := by decide +kernel
theorem dX7_digest_151 : decode cX7_digest 151 = .ok (.iaload, 1) := by decide +kernel
theorem dX7_digest_152 : decode cX7_digest 152 = .ok (.i2l, 1) := by decide +kernel
theorem dX7_digest_153 : decode cX7_digest 153 = .ok (.ladd, 1) := by decide +kernel
theorem dX7_digest_154 : decode cX7_digest 154 = .ok (.lstore_n 1, 1) := by decide +kernel
theorem dX7_digest_155 : decode cX7_digest 155 = .ok (.lload_n 1, 1) := by decide +kernel
theorem dX7_digest_156 : decode cX7_digest 156 = .ok (.aload_n 0, 1) := by decide +kernel
theorem dX7_digest_157 : decode cX7_digest 157 = .ok (.getfield 26, 3) := by decide +kernel
theorem dX7_digest_160 : decode cX7_digest 160 = .ok (.iconst 0, 1) := by decide +kernel
theorem dX7_digest_161 : decode cX7_digest 161 = .ok (.aload_n 0, 1) := by decide +kernel
theorem dX7_digest_162 : decode cX7_digest 162 = .ok (.getfield 29, 3) := by decide +kernel
theorem dX7_digest_165 : decode cX7_digest 165 = .ok (.iconst 0, 1) := by decide +kernel
theorem dX7_digest_166 : decode cX7_digest 166 = .ok (.iaload, 1) := by decide +kernel
theorem dX7_digest_167 : decode cX7_digest 167 = .ok (.invokestatic 329, 3) := by decide +kernel
theorem dX7_digest_170 : decode cX7_digest 170 = .ok (.lstore_n 1, 1) := by decide +kernel
theorem dX7_digest_171 : decode cX7_digest 171 = .ok (.lload_n 1, 1) := by decide +kernel
theorem dX7_digest_172 : decode cX7_digest 172 = .ok (.aload_n 0, 1) := by decide +kernel
theorem dX7_digest_173 : decode cX7_digest 173 = .ok (.getfield 26, 3) := by decide +kernel
theorem dX7_digest_176 : decode cX7_digest 176 = .ok (.bipush 40, 2) := by decide +kernel
theorem dX7_digest_178 : decode cX7_digest 178 = .ok (.aload_n 0, 1) := by decide +kernel
theorem dX7_digest_179 : decode cX7_digest 179 = .ok (.getfield 29, 3) := by decide +kernel
theorem dX7_digest_182 : decode cX7_digest 182 = .ok (.iconst 1, 1) := by decide +kernel
theorem dX7_digest_183 : decode cX7_digest 183 = .ok (.iaload, 1) := by decide +kernel
theorem dX7_digest_184 : decode cX7_digest 184 = .ok (.invokestatic 329, 3) := by decide +kernel
theorem dX7_digest_187 : decode cX7_digest 187 = .ok (.lreturn, 1) := by decide +kernel
theorem dJ6_bitCount_0f7a4_0 : decode cJ6_bitCount_0f7a4 0 = .ok (.iload_n 0, 1) := by decide +kernel
theorem dJ6_bitCount_0f7a4_1 : decode cJ6_bitCount_0f7a4 1 = .ok (.iload_n 0, 1) := by decide +kernel
theorem dJ6_bitCount_0f7a4_2 : decode cJ6_bitCount_0f7a4 2 = .ok (.iconst 1, 1) := by decide +kernel
theorem dJ6_bitCount_0f7a4_3 : decode cJ6_bitCount_0f7a4 3 = .ok (.iushr, 1) := by decide +kernel
theorem dJ6_bitCount_0f7a4_4 : decode cJ6_bitCount_0f7a4 4 = .ok (.ldc_w 265, 3) := by decide +kernel
theorem dJ6_bitCount_0f7a4_7 : decode cJ6_bitCount_0f7a4 7 = .ok (.iand, 1) := by decide +kernel
theorem dJ6_bitCount_0f7a4_8 : decode cJ6_bitCount_0f7a4 8 = .ok (.isub, 1) := by decide +kernel
theorem dJ6_bitCount_0f7a4_9 : decode cJ6_bitCount_0f7a4 9 = .ok (.istore_n 0, 1) := by decide +kernel
theorem dJ6_bitCount_0f7a4_10 : decode cJ6_bitCount_0f7a4 10 = .ok (.iload_n 0, 1) := by decide +kernel
theorem dJ6_bitCount_0f7a4_11 : decode cJ6_bitCount_0f7a4 11 = .ok (.ldc_w 266, 3) := by decide +kernel
theorem dJ6_bitCount_0f7a4_14 : decode cJ6_bitCount_0f7a4 14 = .ok (.iand, 1) := by decide +kernel
theorem dJ6_bitCount_0f7a4_15 : decode cJ6_bitCount_0f7a4 15 = .ok (.iload_n 0, 1) := by decide +kernel
theorem dJ6_bitCount_0f7a4_16 : decode cJ6_bitCount_0f7a4 16 = .ok (.iconst 2, 1) := by decide +kernel
theorem dJ6_bitCount_0f7a4_17 : decode cJ6_bitCount_0f7a4 17 = .ok (.iushr, 1) := by decide +kernel
theorem dJ6_bitCount_0f7a4_18 : decode cJ6_bitCount_0f7a4 18 = .ok (.ldc_w 266, 3) := by decide +kernel
theorem dJ6_bitCount_0f7a4_21 : decode cJ6_bitCount_0f7a4 21 = .ok (.iand, 1) := by decide +kernel
theorem dJ6_bitCount_0f7a4_22 : decode cJ6_bitCount_0f7a4 22 = .ok (.iadd, 1) := by decide +kernel
theorem dJ6_bitCount_0f7a4_23 : decode cJ6_bitCount_0f7a4 23 = .ok (.istore_n 0, 1) := by decide +kernel
theorem dJ6_bitCount_0f7a4_24 : decode cJ6_bitCount_0f7a4 24 = .ok (.iload_n 0, 1) := by decide +kernel
theorem dJ6_bitCount_0f7a4_25 : decode cJ6_bitCount_0f7a4 25 = .ok (.iload_n 0, 1) := by decide +kernel
theorem dJ6_bitCount_0f7a4_26 : decode cJ6_bitCount_0f7a4 26 = .ok (.iconst 4, 1) := by decide +kernel
theorem dJ6_bitCount_0f7a4_27 : decode cJ6_bitCount_0f7a4 27 = .ok (.iushr, 1) := by decide +kernel
theorem dJ6_bitCount_0f7a4_28 : decode cJ6_bitCount_0f7a4 28 = .ok (.iadd, 1) := by decide +kernel
theorem dJ6_bitCount_0f7a4_29 : decode cJ6_bitCount_0f7a4 29 = .ok (.ldc_w 267, 3) := by decide +kernel
theorem dJ6_bitCount_0f7a4_32 : decode cJ6_bitCount_0f7a4 32 = .ok (.iand, 1) := by decide +kernel
theorem dJ6_bitCount_0f7a4_33 : decode cJ6_bitCount_0f7a4 33 = .ok (.istore_n 0, 1) := by decide +kernel
theorem dJ6_bitCount_0f7a4_34 : decode cJ6_bitCount_0f7a4 34 = .ok (.iload_n 0, 1) := by decide +kernel
theorem dJ6_bitCount_0f7a4_35 : decode cJ6_bitCount_0f7a4 35 = .ok (.iload_n 0, 1) := by decide +kernel
theorem dJ6_bitCount_0f7a4_36 : decode cJ6_bitCount_0f7a4 36 = .ok (.bipush 8, 2) := by decide +kernel
theorem dJ6_bitCount_0f7a4_38 : decode cJ6_bitCount_0f7a4 38 = .ok (.iushr, 1) := by decide +kernel
theorem dJ6_bitCount_0f7a4_39 : decode cJ6_bitCount_0f7a4 39 = .ok (.iadd, 1) := by decide +kernel
theorem dJ6_bitCount_0f7a4_40 : decode cJ6_bitCount_0f7a4 40 = .ok (.istore_n 0, 1) := by decide +kernel
theorem dJ6_bitCount_0f7a4_41 : decode cJ6_bitCount_0f7a4 41 = .ok (.iload_n 0, 1) := by decide +kernel
theorem dJ6_bitCount_0f7a4_42 : decode cJ6_bitCount_0f7a4 42 = .ok (.iload_n 0, 1) := by decide +kernel
theorem dJ6_bitCount_0f7a4_43 : decode cJ6_bitCount_0f7a4 43 = .ok (.bipush 16, 2) := by decide +kernel
theorem dJ6_bitCount_0f7a4_45 : decode cJ6_bitCount_0f7a4 45 = .ok (.iushr, 1) := by decide +kernel
theorem dJ6_bitCount_0f7a4_46 : decode cJ6_bitCount_0f7a4 46 = .ok (.iadd, 1) := by decide +kernel
theorem dJ6_bitCount_0f7a4_47 : decode cJ6_bitCount_0f7a4 47 = .ok (.istore_n 0, 1) := by decide +kernel
theorem dJ6_bitCount_0f7a4_48 : decode cJ6_bitCount_0f7a4 48 = .ok (.iload_n 0, 1) := by decide +kernel
theorem dJ6_bitCount_0f7a4_49 : decode cJ6_bitCount_0f7a4 49 = .ok (.bipush 63, 2) := by decide +kernel
theorem dJ6_bitCount_0f7a4_51 : decode cJ6_bitCount_0f7a4 51 = .ok (.iand, 1) := by decide +kernel
theorem dJ6_bitCount_0f7a4_52 : decode cJ6_bitCount_0f7a4 52 = .ok (.ireturn, 1) := by decide +kernel
theorem dL_law_0 : decode cL_law 0 = .ok (.new 7, 3) := by decide +kernel
theorem dL_law_3 : decode cL_law 3 = .ok (.dup, 1) := by decide +kernel
theorem dL_law_4 : decode cL_law 4 = .ok (.invokespecial 9, 3) := by decide +kernel
theorem dL_law_7 : decode cL_law 7 = .ok (.astore_n 1, 1) := by decide +kernel
theorem dL_law_8 : decode cL_law 8 = .ok (.new 10, 3) := by decide +kernel
theorem dL_law_11 : decode cL_law 11 = .ok (.dup, 1) := by decide +kernel
theorem dL_law_12 : decode cL_law 12 = .ok (.invokespecial 12, 3) := by decide +kernel
theorem dL_law_15 : decode cL_law 15 = .ok (.astore_n 2, 1) := by decide +kernel
theorem dL_law_16 : decode cL_law 16 = .ok (.iconst 0, 1) := by decide +kernel
theorem dL_law_17 : decode cL_law 17 = .ok (.istore_n 3, 1) := by decide +kernel
theorem dL_law_18 : decode cL_law 18 = .ok (.iload_n 3, 1) := by decide +kernel
theorem dL_law_19 : decode cL_law 19 = .ok (.aload_n 0, 1) := by decide +kernel
theorem dL_law_20 : decode cL_law 20 = .ok (.arraylength, 1) := by decide +kernel
theorem dL_law_21 : decode cL_law 21 = .ok (.iconst 5, 1) := by decide +kernel
theorem dL_law_22 : decode cL_law 22 = .ok (.isub, 1) := by decide +kernel
theorem dL_law_23 : decode cL_law 23 = .ok (.if_icmp .gt 1031, 3) := by decide +kernel
theorem dL_law_26 : decode cL_law 26 = .ok (.aload_n 0, 1) := by decide +kernel
theorem dL_law_27 : decode cL_law 27 = .ok (.iload_n 3, 1) := by decide +kernel
theorem dL_law_28 : decode cL_law 28 = .ok (.iaload, 1) := by decide +kernel
theorem dL_law_29 : decode cL_law 29 = .ok (.bipush 31, 2) := by decide +kernel
theorem dL_law_31 : decode cL_law 31 = .ok (.iand, 1) := by decide +kernel
theorem dL_law_32 : decode cL_law 32 = .ok (.tableswitch 1016 0 28 #[132, 185, 218, 251, 294, 343, 376, 439, 452, 465, 508, 551, 584, 617, 640, 673, 696, 729, 752, 765, 788, 821, 854, 877, 910, 933, 956, 979, 1002], 132) := by decide +kernel
theorem dL_law_164 : decode cL_law 164 = .ok (.aload_n 1, 1) := by decide +kernel
theorem dL_law_165 : decode cL_law 165 = .ok (.aload_n 0, 1) := by decide +kernel
theorem dL_law_166 : decode cL_law 166 = .ok (.iload_n 3, 1) := by decide +kernel
theorem dL_law_167 : decode cL_law 167 = .ok (.iconst 1, 1) := by decide +kernel
theorem dL_law_168 : decode cL_law 168 = .ok (.iadd, 1) := by decide +kernel
theorem dL_law_169 : decode cL_law 169 = .ok (.iaload, 1) := by decide +kernel
theorem dL_law_170 : decode cL_law 170 = .ok (.aload_n 0, 1) := by decide +kernel
theorem dL_law_171 : decode cL_law 171 = .ok (.iload_n 3, 1) := by decide +kernel
theorem dL_law_172 : decode cL_law 172 = .ok (.iconst 2, 1) := by decide +kernel
theorem dL_law_173 : decode cL_law 173 = .ok (.iadd, 1) := by decide +kernel
theorem dL_law_174 : decode cL_law 174 = .ok (.iaload, 1) := by decide +kernel
theorem dL_law_175 : decode cL_law 175 = .ok (.aload_n 0, 1) := by decide +kernel
theorem dL_law_176 : decode cL_law 176 = .ok (.iload_n 3, 1) := by decide +kernel
theorem dL_law_177 : decode cL_law 177 = .ok (.iconst 3, 1) := by decide +kernel
theorem dL_law_178 : decode cL_law 178 = .ok (.iadd, 1) := by decide +kernel
theorem dL_law_179 : decode cL_law 179 = .ok (.iaload, 1) := by decide +kernel
theorem dL_law_180 : decode cL_law 180 = .ok (.aload_n 0, 1) := by decide +kernel
theorem dL_law_181 : decode cL_law 181 = .ok (.iload_n 3, 1) := by decide +kernel
theorem dL_law_182 : decode cL_law 182 = .ok (.iconst 4, 1) := by decide +kernel
theorem dL_law_183 : decode cL_law 183 = .ok (.iadd, 1) := by decide +kernel
theorem dL_law_184 : decode cL_law 184 = .ok (.iaload, 1) := by decide +kernel
theorem dL_law_185 : decode cL_law 185 = .ok (.invokevirtual 13, 3) := by decide +kernel
theorem dL_law_188 : decode cL_law 188 = .ok (.aload_n 2, 1) := by decide +kernel
theorem dL_law_189 : decode cL_law 189 = .ok (.aload_n 0, 1) := by decide +kernel
theorem dL_law_190 : decode cL_law 190 = .ok (.iload_n 3, 1) := by decide +kernel
theorem dL_law_191 : decode cL_law 191 = .ok (.iconst 1, 1) := by decide +kernel
theorem dL_law_192 : decode cL_law 192 = .ok (.iadd, 1) := by decide +kernel
theorem dL_law_193 : decode cL_law 193 = .ok (.iaload, 1) := by decide +kernel
theorem dL_law_194 : decode cL_law 194 = .ok (.aload_n 0, 1) := by decide +kernel
theorem dL_law_195 : decode cL_law 195 = .ok (.iload_n 3, 1) := by decide +kernel
theorem dL_law_196 : decode cL_law 196 = .ok (.iconst 2, 1) := by decide +kernel
theorem dL_law_197 : decode cL_law 197 = .ok (.iadd, 1) := by decide +kernel
theorem dL_law_198 : decode cL_law 198 = .ok (.iaload, 1) := by decide +kernel
theorem dL_law_199 : decode cL_law 199 = .ok (.aload_n 0, 1) := by decide +kernel
theorem dL_law_200 : decode cL_law 200 = .ok (.iload_n 3, 1) := by decide +kernel
theorem dL_law_201 : decode cL_law 201 = .ok (.iconst 3, 1) := by decide +kernel
theorem dL_law_202 : decode cL_law 202 = .ok (.iadd, 1) := by decide +kernel
theorem dL_law_203 : decode cL_law 203 = .ok (.iaload, 1) := by decide +kernel
theorem dL_law_204 : decode cL_law 204 = .ok (.aload_n 0, 1) := by decide +kernel
theorem dL_law_205 : decode cL_law 205 = .ok (.iload_n 3, 1) := by decide +kernel
theorem dL_law_206 : decode cL_law 206 = .ok (.iconst 4, 1) := by decide +kernel
theorem dL_law_207 : decode cL_law 207 = .ok (.iadd, 1) := by decide +kernel
theorem dL_law_208 : decode cL_law 208 = .ok (.iaload, 1) := by decide +kernel
theorem dL_law_209 : decode cL_law 209 = .ok (.invokevirtual 17, 3) := by decide +kernel
theorem dL_law_212 : decode cL_law 212 = .ok (.if_icmp .eq 836, 3) := by decide +kernel
theorem dL_law_215 : decode cL_law 215 = .ok (.iconst 0, 1) := by decide +kernel
theorem dL_law_216 : decode cL_law 216 = .ok (.ireturn, 1) := by decide +kernel
theorem dL_law_217 : decode cL_law 217 = .ok (.aload_n 1, 1) := by decide +kernel
theorem dL_law_218 : decode cL_law 218 = .ok (.aload_n 0, 1) := by decide +kernel
theorem dL_law_219 : decode cL_law 219 = .ok (.iload_n 3, 1) := by decide +kernel
theorem dL_law_220 : decode cL_law 220 = .ok (.iconst 1, 1) := by decide +kernel
theorem dL_law_221 : decode cL_law 221 = .ok (.iadd, 1) := by decide +kernel
theorem dL_law_222 : decode cL_law 222 = .ok (.iaload, 1) := by decide +kernel
theorem dL_law_223 : decode cL_law 223 = .ok (.aload_n 0, 1) := by decide +kernel
theorem dL_law_224 : decode cL_law 224 = .ok (.iload_n 3, 1) := by decide +kernel
theorem dL_law_225 : decode cL_law 225 = .ok (.iconst 2, 1) := by decide +kernel
theorem dL_law_226 : decode cL_law 226 = .ok (.iadd, 1) := by decide +kernel
theorem dL_law_227 : decode cL_law 227 = .ok (.iaload, 1) := by decide +kernel
theorem dL_law_228 : decode cL_law 228 = .ok (.invokevirtual 18, 3) := by decide +kernel
theorem dL_law_231 : decode cL_law 231 = .ok (.aload_n 2, 1) := by decide +kernel
theorem dL_law_232 : decode cL_law 232 = .ok (.aload_n 0, 1) := by decide +kernel
theorem dL_law_233 : decode cL_law 233 = .ok (.iload_n 3, 1) := by decide +kernel
theorem dL_law_234 : decode cL_law 234 = .ok (.iconst 1, 1) := by decide +kernel
theorem dL_law_235 : decode cL_law 235 = .ok (.iadd, 1) := by decide +kernel
theorem dL_law_236 : decode cL_law 236 = .ok (.iaload, 1) := by decide +kernel
theorem dL_law_237 : decode cL_law 237 = .ok (.aload_n 0, 1) := by decide +kernel
theorem dL_law_238 : decode cL_law 238 = .ok (.iload_n 3, 1) := by decide +kernel
theorem dL_law_239 : decode cL_law 239 = .ok (.iconst 2, 1) := by decide +kernel
theorem dL_law_240 : decode cL_law 240 = .ok (.iadd, 1) := by decide +kernel
theorem dL_law_241 : decode cL_law 241 = .ok (.iaload, 1) := by decide +kernel
theorem dL_law_242 : decode cL_law 242 = .ok (.invokevirtual 22, 3) := by decide +kernel
theorem dL_law_245 : decode cL_law 245 = .ok (.if_icmp .eq 803, 3) := by decide +kernel
theorem dL_law_248 : decode cL_law 248 = .ok (.iconst 0, 1) := by decide +kernel
theorem dL_law_249 : decode cL_law 249 = .ok (.ireturn, 1) := by decide +kernel
theorem dL_law_250 : decode cL_law 250 = .ok (.aload_n 1, 1) := by decide +kernel
theorem dL_law_251 : decode cL_law 251 = .ok (.aload_n 0, 1) := by decide +kernel
theorem dL_law_252 : decode cL_law 252 = .ok (.iload_n 3, 1) := by decide +kernel
theorem dL_law_253 : decode cL_law 253 = .ok (.iconst 1, 1) := by decide +kernel
theorem dL_law_254 : decode cL_law 254 = .ok (.iadd, 1) := by decide +kernel
theorem dL_law_255 : decode cL_law 255 = .ok (.iaload, 1) := by decide +kernel
theorem dL_law_256 : decode cL_law 256 = .ok (.aload_n 0, 1) := by decide +kernel
theorem dL_law_257 : decode cL_law 257 = .ok (.iload_n 3, 1) := by decide +kernel
theorem dL_law_258 : decode cL_law 258 = .ok (.iconst 2, 1) := by decide +kernel
theorem dL_law_259 : decode cL_law 259 = .ok (.iadd, 1) := by decide +kernel
theorem dL_law_260 : decode cL_law 260 = .ok (.iaload, 1) := by decide +kernel
theorem dL_law_261 : decode cL_law 261 = .ok (.invokevirtual 23, 3) := by decide +kernel
theorem dL_law_264 : decode cL_law 264 = .ok (.aload_n 2, 1) := by decide +kernel
theorem dL_law_265 : decode cL_law 265 = .ok (.aload_n 0, 1) := by decide +kernel
theorem dL_law_266 : decode cL_law 266 = .ok (.iload_n 3, 1) := by decide +kernel
theorem dL_law_267 : decode cL_law 267 = .ok (.iconst 1, 1) := by decide +kernel
theorem dL_law_268 : decode cL_law 268 = .ok (.iadd, 1) := by decide +kernel
theorem dL_law_269 : decode cL_law 269 = .ok (.iaload, 1) := by decide +kernel
theorem dL_law_270 : decode cL_law 270 = .ok (.aload_n 0, 1) := by decide +kernel
theorem dL_law_271 : decode cL_law 271 = .ok (.iload_n 3, 1) := by decide +kernel
theorem dL_law_272 : decode cL_law 272 = .ok (.iconst 2, 1) := by decide +kernel
theorem dL_law_273 : decode cL_law 273 = .ok (.iadd, 1) := by decide +kernel
theorem dL_law_274 : decode cL_law 274 = .ok (.iaload, 1) := by decide +kernel
theorem dL_law_275 : decode cL_law 275 = .ok (.invokevirtual 26, 3) := by decide +kernel
theorem dL_law_278 : decode cL_law 278 = .ok (.if_icmp .eq 770, 3) := by decide +kernel
theorem dL_law_281 : decode cL_law 281 = .ok (.iconst 0, 1) := by decide +kernel
theorem dL_law_282 : decode cL_law 282 = .ok (.ireturn, 1) := by decide +kernel
theorem dL_law_283 : decode cL_law 283 = .ok (.aload_n 1, 1) := by decide +kernel
theorem dL_law_284 : decode cL_law 284 = .ok (.aload_n 0, 1) := by decide +kernel
theorem dL_law_285 : decode cL_law 285 = .ok (.iload_n 3, 1) := by decide +kernel
theorem dL_law_286 : decode cL_law 286 = .ok (.iconst 1, 1) := by decide +kernel
theorem dL_law_287 : decode cL_law 287 = .ok (.iadd, 1) := by decide +kernel
theorem dL_law_288 : decode cL_law 288 = .ok (.iaload, 1) := by decide +kernel
theorem dL_law_289 : decode cL_law 289 = .ok (.aload_n 0, 1) := by decide +kernel
theorem dL_law_290 : decode cL_law 290 = .ok (.iload_n 3, 1) := by decide +kernel
theorem dL_law_291 : decode cL_law 291 = .ok (.iconst 2, 1) := by decide +kernel
theorem dL_law_292 : decode cL_law 292 = .ok (.iadd, 1) := by decide +kernel
theorem dL_law_293 : decode cL_law 293 = .ok (.iaload, 1) := by decide +kernel
theorem dL_law_294 : decode cL_law 294 = .ok (.aload_n 0, 1) := by decide +kernel
theorem dL_law_295 : decode cL_law 295 = .ok (.iload_n 3, 1) := by decide +kernel
theorem dL_law_296 : decode cL_law 296 = .ok (.iconst 3, 1) := by decide +kernel
theorem dL_law_297 : decode cL_law 297 = .ok (.iadd, 1) := by decide +kernel
theorem dL_law_298 : decode cL_law 298 = .ok (.iaload, 1) := by decide +kernel
theorem dL_law_299 : decode cL_law 299 = .ok (.invokevirtual 27, 3) := by decide +kernel
theorem dL_law_302 : decode cL_law 302 = .ok (.aload_n 2, 1) := by decide +kernel
theorem dL_law_303 : decode cL_law 303 = .ok (.aload_n 0, 1) := by decide +kernel
theorem dL_law_304 : decode cL_law 304 = .ok (.iload_n 3, 1) := by decide +kernel
theorem dL_law_305 : decode cL_law 305 = .ok (.iconst 1, 1) := by decide +kernel
theorem dL_law_306 : decode cL_law 306 = .ok (.iadd, 1) := by decide +kernel
theorem dL_law_307 : decode cL_law 307 = .ok (.iaload, 1) := by decide +kernel
theorem dL_law_308 : decode cL_law 308 = .ok (.aload_n 0, 1) := by decide +kernel
theorem dL_law_309 : decode cL_law 309 = .ok (.iload_n 3, 1) := by decide +kernel
theorem dL_law_310 : decode cL_law 310 = .ok (.iconst 2, 1) := by decide +kernel
theorem dL_law_311 : decode cL_law 311 = .ok (.iadd, 1) := by decide +kernel
theorem dL_law_312 : decode cL_law 312 = .ok (.iaload, 1) := by decide +kernel
theorem dL_law_313 : decode cL_law 313 = .ok (.aload_n 0, 1) := by decide +kernel
theorem dL_law_314 : decode cL_law 314 = .ok (.iload_n 3, 1) := by decide +kernel
theorem dL_law_315 : decode cL_law 315 = .ok (.iconst 3, 1) := by decide +kernel
theorem dL_law_316 : decode cL_law 316 = .ok (.iadd, 1) := by decide +kernel
theorem dL_law_317 : decode cL_law 317 = .ok (.iaload, 1) := by decide +kernel
theorem dL_law_318 : decode cL_law 318 = .ok (.invokevirtual 31, 3) := by decide +kernel
theorem dL_law_321 : decode cL_law 321 = .ok (.if_icmp .eq 727, 3) := by decide +kernel
theorem dL_law_324 : decode cL_law 324 = .ok (.iconst 0, 1) := by decide +kernel
theorem dL_law_325 : decode cL_law 325 = .ok (.ireturn, 1) := by decide +kernel
theorem dL_law_326 : decode cL_law 326 = .ok (.aload_n 1, 1) := by decide +kernel
theorem dL_law_327 : decode cL_law 327 = .ok (.aload_n 0, 1) := by decide +kernel
theorem dL_law_328 : decode cL_law 328 = .ok (.iload_n 3, 1) := by decide +kernel
theorem dL_law_329 : decode cL_law 329 = .ok (.iconst 1, 1) := by decide +kernel
theorem dL_law_330 : decode cL_law 330 = .ok (.iadd, 1) := by decide +kernel
theorem dL_law_331 : decode cL_law 331 = .ok (.iaload, 1) := by decide +kernel
theorem dL_law_332 : decode cL_law 332 = .ok (.aload_n 0, 1) := by decide +kernel
theorem dL_law_333 : decode cL_law 333 = .ok (.iload_n 3, 1) := by decide +kernel
theorem dL_law_334 : decode cL_law 334 = .ok (.iconst 2, 1) := by decide +kernel
theorem dL_law_335 : decode cL_law 335 = .ok (.iadd, 1) := by decide +kernel
theorem dL_law_336 : decode cL_law 336 = .ok (.iaload, 1) := by decide +kernel
theorem dL_law_337 : decode cL_law 337 = .ok (.ifCond .eq 7, 3) := by decide +kernel
theorem dL_law_340 : decode cL_law 340 = .ok (.iconst 1, 1) := by decide +kernel
theorem dL_law_341 : decode cL_law 341 = .ok (.goto 4, 3) := by decide +kernel
theorem dL_law_344 : decode cL_law 344 = .ok (.iconst 0, 1) := by decide +kernel
theorem dL_law_345 : decode cL_law 345 = .ok (.invokevirtual 32, 3) := by decide +kernel
theorem dL_law_348 : decode cL_law 348 = .ok (.aload_n 2, 1) := by decide +kernel
theorem dL_law_349 : decode cL_law 349 = .ok (.aload_n 0, 1) := by decide +kernel
theorem dL_law_350 : decode cL_law 350 = .ok (.iload_n 3, 1) := by decide +kernel
theorem dL_law_351 : decode cL_law 351 = .ok (.iconst 1, 1) := by decide +kernel
theorem dL_law_352 : decode cL_law 352 = .ok (.iadd, 1) := by decide +kernel
theorem dL_law_353 : decode cL_law 353 = .ok (.iaload, 1) := by decide +kernel
theorem dL_law_354 : decode cL_law 354 = .ok (.aload_n 0, 1) := by decide +kernel
theorem dL_law_355 : decode cL_law 355 = .ok (.iload_n 3, 1) := by decide +kernel
theorem dL_law_356 : decode cL_law 356 = .ok (.iconst 2, 1) := by decide +kernel
theorem dL_law_357 : decode cL_law 357 = .ok (.iadd, 1) := by decide +kernel
theorem dL_law_358 : decode cL_law 358 = .ok (.iaload, 1) := by decide +kernel
theorem dL_law_359 : decode cL_law 359 = .ok (.ifCond .eq 7, 3) := by decide +kernel
theorem dL_law_362 : decode cL_law 362 = .ok (.iconst 1, 1) := by decide +kernel
theorem dL_law_363 : decode cL_law 363 = .ok (.goto 4, 3) := by decide +kernel
theorem dL_law_366 : decode cL_law 366 = .ok (.iconst 0, 1) := by decide +kernel
theorem dL_law_367 : decode cL_law 367 = .ok (.invokevirtual 36, 3) := by decide +kernel
theorem dL_law_370 : decode cL_law 370 = .ok (.if_icmp .eq 678, 3) := by decide +kernel
theorem dL_law_373 : decode cL_law 373 = .ok (.iconst 0, 1) := by decide +kernel
theorem dL_law_374 : decode cL_law 374 = .ok (.ireturn, 1) := by decide +kernel
theorem dL_law_375 : decode cL_law 375 = .ok (.aload_n 1, 1) := by decide +kernel
theorem dL_law_376 : decode cL_law 376 = .ok (.aload_n 0, 1) := by decide +kernel
theorem dL_law_377 : decode cL_law 377 = .ok (.iload_n 3, 1) := by decide +kernel
theorem dL_law_378 : decode cL_law 378 = .ok (.iconst 1, 1) := by decide +kernel
theorem dL_law_379 : decode cL_law 379 = .ok (.iadd, 1) := by decide +kernel
theorem dL_law_380 : decode cL_law 380 = .ok (.iaload, 1) := by decide +kernel
theorem dL_law_381 : decode cL_law 381 = .ok (.aload_n 0, 1) := by decide +kernel
theorem dL_law_382 : decode cL_law 382 = .ok (.iload_n 3, 1) := by decide +kernel
theorem dL_law_383 : decode cL_law 383 = .ok (.iconst 2, 1) := by decide +kernel
theorem dL_law_384 : decode cL_law 384 = .ok (.iadd, 1) := by decide +kernel
theorem dL_law_385 : decode cL_law 385 = .ok (.iaload, 1) := by decide +kernel
theorem dL_law_386 : decode cL_law 386 = .ok (.invokevirtual 37, 3) := by decide +kernel
theorem dL_law_389 : decode cL_law 389 = .ok (.aload_n 2, 1) := by decide +kernel
theorem dL_law_390 : decode cL_law 390 = .ok (.aload_n 0, 1) := by decide +kernel
theorem dL_law_391 : decode cL_law 391 = .ok (.iload_n 3, 1) := by decide +kernel
theorem dL_law_392 : decode cL_law 392 = .ok (.iconst 1, 1) := by decide +kernel
theorem dL_law_393 : decode cL_law 393 = .ok (.iadd, 1) := by decide +kernel
theorem dL_law_394 : decode cL_law 394 = .ok (.iaload, 1) := by decide +kernel
theorem dL_law_395 : decode cL_law 395 = .ok (.aload_n 0, 1) := by decide +kernel
theorem dL_law_396 : decode cL_law 396 = .ok (.iload_n 3, 1) := by decide +kernel
theorem dL_law_397 : decode cL_law 397 = .ok (.iconst 2, 1) := by decide +kernel
theorem dL_law_398 : decode cL_law 398 = .ok (.iadd, 1) := by decide +kernel
theorem dL_law_399 : decode cL_law 399 = .ok (.iaload, 1) := by decide +kernel
theorem dL_law_400 : decode cL_law 400 = .ok (.invokevirtual 40, 3) := by decide +kernel
theorem dL_law_403 : decode cL_law 403 = .ok (.if_icmp .eq 645, 3) := by decide +kernel
theorem dL_law_406 : decode cL_law 406 = .ok (.iconst 0, 1) := by decide +kernel
theorem dL_law_407 : decode cL_law 407 = .ok (.ireturn, 1) := by decide +kernel
theorem dL_law_408 : decode cL_law 408 = .ok (.aload_n 1, 1) := by decide +kernel
theorem dL_law_409 : decode cL_law 409 = .ok (.aload_n 0, 1) := by decide +kernel
theorem dL_law_410 : decode cL_law 410 = .ok (.iload_n 3, 1) := by decide +kernel
theorem dL_law_411 : decode cL_law 411 = .ok (.iconst 1, 1) := by decide +kernel
theorem dL_law_412 : decode cL_law 412 = .ok (.iadd, 1) := by decide +kernel
theorem dL_law_413 : decode cL_law 413 = .ok (.iaload, 1) := by decide +kernel
theorem dL_law_414 : decode cL_law 414 = .ok (.i2l, 1) := by decide +kernel
theorem dL_law_415 : decode cL_law 415 = .ok (.bipush 32, 2) := by decide +kernel
theorem dL_law_417 : decode cL_law 417 = .ok (.lshl, 1) := by decide +kernel
theorem dL_law_418 : decode cL_law 418 = .ok (.aload_n 0, 1) := by decide +kernel
theorem dL_law_419 : decode cL_law 419 = .ok (.iload_n 3, 1) := by decide +kernel
theorem dL_law_420 : decode cL_law 420 = .ok (.iconst 2, 1) := by decide +kernel
theorem dL_law_421 : decode cL_law 421 = .ok (.iadd, 1) := by decide +kernel
theorem dL_law_422 : decode cL_law 422 = .ok (.iaload, 1) := by decide +kernel
theorem dL_law_423 : decode cL_law 423 = .ok (.i2l, 1) := by decide +kernel
theorem dL_law_424 : decode cL_law 424 = .ok (.ldc2_w 41, 3) := by decide +kernel
theorem dL_law_427 : decode cL_law 427 = .ok (.land, 1) := by decide +kernel
theorem dL_law_428 : decode cL_law 428 = .ok (.lor, 1) := by decide +kernel
theorem dL_law_429 : decode cL_law 429 = .ok (.aload_n 0, 1) := by decide +kernel
theorem dL_law_430 : decode cL_law 430 = .ok (.iload_n 3, 1) := by decide +kernel
theorem dL_law_431 : decode cL_law 431 = .ok (.iconst 3, 1) := by decide +kernel
theorem dL_law_432 : decode cL_law 432 = .ok (.iadd, 1) := by decide +kernel
theorem dL_law_433 : decode cL_law 433 = .ok (.iaload, 1) := by decide +kernel
theorem dL_law_434 : decode cL_law 434 = .ok (.invokevirtual 43, 3) := by decide +kernel
theorem dL_law_437 : decode cL_law 437 = .ok (.aload_n 2, 1) := by decide +kernel
theorem dL_law_438 : decode cL_law 438 = .ok (.aload_n 0, 1) := by decide +kernel
theorem dL_law_439 : decode cL_law 439 = .ok (.iload_n 3, 1) := by decide +kernel
theorem dL_law_440 : decode cL_law 440 = .ok (.iconst 1, 1) := by decide +kernel
theorem dL_law_441 : decode cL_law 441 = .ok (.iadd, 1) := by decide +kernel
theorem dL_law_442 : decode cL_law 442 = .ok (.iaload, 1) := by decide +kernel
theorem dL_law_443 : decode cL_law 443 = .ok (.i2l, 1) := by decide +kernel
theorem dL_law_444 : decode cL_law 444 = .ok (.bipush 32, 2) := by decide +kernel
theorem dL_law_446 : decode cL_law 446 = .ok (.lshl, 1) := by decide +kernel
theorem dL_law_447 : decode cL_law 447 = .ok (.aload_n 0, 1) := by decide +kernel
theorem dL_law_448 : decode cL_law 448 = .ok (.iload_n 3, 1) := by decide +kernel
theorem dL_law_449 : decode cL_law 449 = .ok (.iconst 2, 1) := by decide +kernel
theorem dL_law_450 : decode cL_law 450 = .ok (.iadd, 1) := by decide +kernel
theorem dL_law_451 : decode cL_law 451 = .ok (.iaload, 1) := by decide +kernel
theorem dL_law_452 : decode cL_law 452 = .ok (.i2l, 1) := by decide +kernel
theorem dL_law_453 : decode cL_law 453 = .ok (.ldc2_w 41, 3) := by decide +kernel
theorem dL_law_456 : decode cL_law 456 = .ok (.land, 1) := by decide +kernel
theorem dL_law_457 : decode cL_law 457 = .ok (.lor, 1) := by decide +kernel
theorem dL_law_458 : decode cL_law 458 = .ok (.aload_n 0, 1) := by decide +kernel
theorem dL_law_459 : decode cL_law 459 = .ok (.iload_n 3, 1) := by decide +kernel
theorem dL_law_460 : decode cL_law 460 = .ok (.iconst 3, 1) := by decide +kernel
theorem dL_law_461 : decode cL_law 461 = .ok (.iadd, 1) := by decide +kernel
theorem dL_law_462 : decode cL_law 462 = .ok (.iaload, 1) := by decide +kernel
theorem dL_law_463 : decode cL_law 463 = .ok (.invokevirtual 47, 3) := by decide +kernel
theorem dL_law_466 : decode cL_law 466 = .ok (.if_icmp .eq 582, 3) := by decide +kernel
theorem dL_law_469 : decode cL_law 469 = .ok (.iconst 0, 1) := by decide +kernel
theorem dL_law_470 : decode cL_law 470 = .ok (.ireturn, 1) := by decide +kernel
theorem dL_law_471 : decode cL_law 471 = .ok (.aload_n 1, 1) := by decide +kernel
theorem dL_law_472 : decode cL_law 472 = .ok (.invokevirtual 48, 3) := by decide +kernel
theorem dL_law_475 : decode cL_law 475 = .ok (.aload_n 2, 1) := by decide +kernel
theorem dL_law_476 : decode cL_law 476 = .ok (.invokevirtual 52, 3) := by decide +kernel
theorem dL_law_479 : decode cL_law 479 = .ok (.if_icmp .eq 569, 3) := by decide +kernel
theorem dL_law_482 : decode cL_law 482 = .ok (.iconst 0, 1) := by decide +kernel
theorem dL_law_483 : decode cL_law 483 = .ok (.ireturn, 1) := by decide +kernel
theorem dL_law_484 : decode cL_law 484 = .ok (.aload_n 1, 1) := by decide +kernel
theorem dL_law_485 : decode cL_law 485 = .ok (.invokevirtual 53, 3) := by decide +kernel
theorem dL_law_488 : decode cL_law 488 = .ok (.aload_n 2, 1) := by decide +kernel
theorem dL_law_489 : decode cL_law 489 = .ok (.invokevirtual 56, 3) := by decide +kernel
theorem dL_law_492 : decode cL_law 492 = .ok (.if_icmp .eq 556, 3) := by decide +kernel
theorem dL_law_495 : decode cL_law 495 = .ok (.iconst 0, 1) := by decide +kernel
theorem dL_law_496 : decode cL_law 496 = .ok (.ireturn, 1) := by decide +kernel
theorem dL_law_497 : decode cL_law 497 = .ok (.aload_n 1, 1) := by decide +kernel
theorem dL_law_498 : decode cL_law 498 = .ok (.aload_n 0, 1) := by decide +kernel
theorem dL_law_499 : decode cL_law 499 = .ok (.iload_n 3, 1) := by decide +kernel
theorem dL_law_500 : decode cL_law 500 = .ok (.iconst 1, 1) := by decide +kernel
theorem dL_law_501 : decode cL_law 501 = .ok (.iadd, 1) := by decide +kernel
theorem dL_law_502 : decode cL_law 502 = .ok (.iaload, 1) := by decide +kernel
theorem dL_law_503 : decode cL_law 503 = .ok (.aload_n 0, 1) := by decide +kernel
theorem dL_law_504 : decode cL_law 504 = .ok (.iload_n 3, 1) := by decide +kernel
theorem dL_law_505 : decode cL_law 505 = .ok (.iconst 2, 1) := by decide +kernel
theorem dL_law_506 : decode cL_law 506 = .ok (.iadd, 1) := by decide +kernel
theorem dL_law_507 : decode cL_law 507 = .ok (.iaload, 1) := by decide +kernel
theorem dL_law_508 : decode cL_law 508 = .ok (.aload_n 0, 1) := by decide +kernel
theorem dL_law_509 : decode cL_law 509 = .ok (.iload_n 3, 1) := by decide +kernel
theorem dL_law_510 : decode cL_law 510 = .ok (.iconst 3, 1) := by decide +kernel
theorem dL_law_511 : decode cL_law 511 = .ok (.iadd, 1) := by decide +kernel
theorem dL_law_512 : decode cL_law 512 = .ok (.iaload, 1) := by decide +kernel
theorem dL_law_513 : decode cL_law 513 = .ok (.invokevirtual 57, 3) := by decide +kernel
theorem dL_law_516 : decode cL_law 516 = .ok (.aload_n 2, 1) := by decide +kernel
theorem dL_law_517 : decode cL_law 517 = .ok (.aload_n 0, 1) := by decide +kernel
theorem dL_law_518 : decode cL_law 518 = .ok (.iload_n 3, 1) := by decide +kernel
theorem dL_law_519 : decode cL_law 519 = .ok (.iconst 1, 1) := by decide +kernel
theorem dL_law_520 : decode cL_law 520 = .ok (.iadd, 1) := by decide +kernel
theorem dL_law_521 : decode cL_law 521 = .ok (.iaload, 1) := by decide +kernel
theorem dL_law_522 : decode cL_law 522 = .ok (.aload_n 0, 1) := by decide +kernel
theorem dL_law_523 : decode cL_law 523 = .ok (.iload_n 3, 1) := by decide +kernel
theorem dL_law_524 : decode cL_law 524 = .ok (.iconst 2, 1) := by decide +kernel
theorem dL_law_525 : decode cL_law 525 = .ok (.iadd, 1) := by decide +kernel
theorem dL_law_526 : decode cL_law 526 = .ok (.iaload, 1) := by decide +kernel
theorem dL_law_527 : decode cL_law 527 = .ok (.aload_n 0, 1) := by decide +kernel
theorem dL_law_528 : decode cL_law 528 = .ok (.iload_n 3, 1) := by decide +kernel
theorem dL_law_529 : decode cL_law 529 = .ok (.iconst 3, 1) := by decide +kernel
theorem dL_law_530 : decode cL_law 530 = .ok (.iadd, 1) := by decide +kernel
theorem dL_law_531 : decode cL_law 531 = .ok (.iaload, 1) := by decide +kernel
theorem dL_law_532 : decode cL_law 532 = .ok (.invokevirtual 60, 3) := by decide +kernel
theorem dL_law_535 : decode cL_law 535 = .ok (.if_icmp .eq 513, 3) := by decide +kernel
theorem dL_law_538 : decode cL_law 538 = .ok (.iconst 0, 1) := by decide +kernel
theorem dL_law_539 : decode cL_law 539 = .ok (.ireturn, 1) := by decide +kernel
theorem dL_law_540 : decode cL_law 540 = .ok (.aload_n 1, 1) := by decide +kernel
theorem dL_law_541 : decode cL_law 541 = .ok (.aload_n 0, 1) := by decide +kernel
theorem dL_law_542 : decode cL_law 542 = .ok (.iload_n 3, 1) := by decide +kernel
theorem dL_law_543 : decode cL_law 543 = .ok (.iconst 1, 1) := by decide +kernel
theorem dL_law_544 : decode cL_law 544 = .ok (.iadd, 1) := by decide +kernel
theorem dL_law_545 : decode cL_law 545 = .ok (.iaload, 1) := by decide +kernel
theorem dL_law_546 : decode cL_law 546 = .ok (.aload_n 0, 1) := by decide +kernel
theorem dL_law_547 : decode cL_law 547 = .ok (.iload_n 3, 1) := by decide +kernel
theorem dL_law_548 : decode cL_law 548 = .ok (.iconst 2, 1) := by decide +kernel
theorem dL_law_549 : decode cL_law 549 = .ok (.iadd, 1) := by decide +kernel
theorem dL_law_550 : decode cL_law 550 = .ok (.iaload, 1) := by decide +kernel
theorem dL_law_551 : decode cL_law 551 = .ok (.aload_n 0, 1) := by decide +kernel
theorem dL_law_552 : decode cL_law 552 = .ok (.iload_n 3, 1) := by decide +kernel
theorem dL_law_553 : decode cL_law 553 = .ok (.iconst 3, 1) := by decide +kernel
theorem dL_law_554 : decode cL_law 554 = .ok (.iadd, 1) := by decide +kernel
theorem dL_law_555 : decode cL_law 555 = .ok (.iaload, 1) := by decide +kernel
theorem dL_law_556 : decode cL_law 556 = .ok (.invokevirtual 61, 3) := by decide +kernel
theorem dL_law_559 : decode cL_law 559 = .ok (.aload_n 2, 1) := by decide +kernel
theorem dL_law_560 : decode cL_law 560 = .ok (.aload_n 0, 1) := by decide +kernel
theorem dL_law_561 : decode cL_law 561 = .ok (.iload_n 3, 1) := by decide +kernel
theorem dL_law_562 : decode cL_law 562 = .ok (.iconst 1, 1) := by decide +kernel
theorem dL_law_563 : decode cL_law 563 = .ok (.iadd, 1) := by decide +kernel
theorem dL_law_564 : decode cL_law 564 = .ok (.iaload, 1) := by decide +kernel
theorem dL_law_565 : decode cL_law 565 = .ok (.aload_n 0, 1) := by decide +kernel
theorem dL_law_566 : decode cL_law 566 = .ok (.iload_n 3, 1) := by decide +kernel
theorem dL_law_567 : decode cL_law 567 = .ok (.iconst 2, 1) := by decide +kernel
theorem dL_law_568 : decode cL_law 568 = .ok (.iadd, 1) := by decide +kernel
theorem dL_law_569 : decode cL_law 569 = .ok (.iaload, 1) := by decide +kernel
theorem dL_law_570 : decode cL_law 570 = .ok (.aload_n 0, 1) := by decide +kernel
theorem dL_law_571 : decode cL_law 571 = .ok (.iload_n 3, 1) := by decide +kernel
theorem dL_law_572 : decode cL_law 572 = .ok (.iconst 3, 1) := by decide +kernel
theorem dL_law_573 : decode cL_law 573 = .ok (.iadd, 1) := by decide +kernel
theorem dL_law_574 : decode cL_law 574 = .ok (.iaload, 1) := by decide +kernel
theorem dL_law_575 : decode cL_law 575 = .ok (.invokevirtual 64, 3) := by decide +kernel
theorem dL_law_578 : decode cL_law 578 = .ok (.if_icmp .eq 470, 3) := by decide +kernel
theorem dL_law_581 : decode cL_law 581 = .ok (.iconst 0, 1) := by decide +kernel
theorem dL_law_582 : decode cL_law 582 = .ok (.ireturn, 1) := by decide +kernel
theorem dL_law_583 : decode cL_law 583 = .ok (.aload_n 1, 1) := by decide +kernel
theorem dL_law_584 : decode cL_law 584 = .ok (.aload_n 0, 1) := by decide +kernel
theorem dL_law_585 : decode cL_law 585 = .ok (.iload_n 3, 1) := by decide +kernel
theorem dL_law_586 : decode cL_law 586 = .ok (.iconst 1, 1) := by decide +kernel
theorem dL_law_587 : decode cL_law 587 = .ok (.iadd, 1) := by decide +kernel
theorem dL_law_588 : decode cL_law 588 = .ok (.iaload, 1) := by decide +kernel
theorem dL_law_589 : decode cL_law 589 = .ok (.aload_n 0, 1) := by decide +kernel
theorem dL_law_590 : decode cL_law 590 = .ok (.iload_n 3, 1) := by decide +kernel
theorem dL_law_591 : decode cL_law 591 = .ok (.iconst 2, 1) := by decide +kernel
theorem dL_law_592 : decode cL_law 592 = .ok (.iadd, 1) := by decide +kernel
theorem dL_law_593 : decode cL_law 593 = .ok (.iaload, 1) := by decide +kernel
theorem dL_law_594 : decode cL_law 594 = .ok (.invokevirtual 65, 3) := by decide +kernel
theorem dL_law_597 : decode cL_law 597 = .ok (.aload_n 2, 1) := by decide +kernel
theorem dL_law_598 : decode cL_law 598 = .ok (.aload_n 0, 1) := by decide +kernel
theorem dL_law_599 : decode cL_law 599 = .ok (.iload_n 3, 1) := by decide +kernel
theorem dL_law_600 : decode cL_law 600 = .ok (.iconst 1, 1) := by decide +kernel
theorem dL_law_601 : decode cL_law 601 = .ok (.iadd, 1) := by decide +kernel
theorem dL_law_602 : decode cL_law 602 = .ok (.iaload, 1) := by decide +kernel
theorem dL_law_603 : decode cL_law 603 = .ok (.aload_n 0, 1) := by decide +kernel
theorem dL_law_604 : decode cL_law 604 = .ok (.iload_n 3, 1) := by decide +kernel
theorem dL_law_605 : decode cL_law 605 = .ok (.iconst 2, 1) := by decide +kernel
theorem dL_law_606 : decode cL_law 606 = .ok (.iadd, 1) := by decide +kernel
theorem dL_law_607 : decode cL_law 607 = .ok (.iaload, 1) := by decide +kernel
theorem dL_law_608 : decode cL_law 608 = .ok (.invokevirtual 68, 3) := by decide +kernel
theorem dL_law_611 : decode cL_law 611 = .ok (.if_icmp .eq 437, 3) := by decide +kernel
theorem dL_law_614 : decode cL_law 614 = .ok (.iconst 0, 1) := by decide +kernel
theorem dL_law_615 : decode cL_law 615 = .ok (.ireturn, 1) := by decide +kernel
theorem dL_law_616 : decode cL_law 616 = .ok (.aload_n 1, 1) := by decide +kernel
theorem dL_law_617 : decode cL_law 617 = .ok (.aload_n 0, 1) := by decide +kernel
theorem dL_law_618 : decode cL_law 618 = .ok (.iload_n 3, 1) := by decide +kernel
theorem dL_law_619 : decode cL_law 619 = .ok (.iconst 1, 1) := by decide +kernel
theorem dL_law_620 : decode cL_law 620 = .ok (.iadd, 1) := by decide +kernel
theorem dL_law_621 : decode cL_law 621 = .ok (.iaload, 1) := by decide +kernel
theorem dL_law_622 : decode cL_law 622 = .ok (.aload_n 0, 1) := by decide +kernel
theorem dL_law_623 : decode cL_law 623 = .ok (.iload_n 3, 1) := by decide +kernel
theorem dL_law_624 : decode cL_law 624 = .ok (.iconst 2, 1) := by decide +kernel
theorem dL_law_625 : decode cL_law 625 = .ok (.iadd, 1) := by decide +kernel
theorem dL_law_626 : decode cL_law 626 = .ok (.iaload, 1) := by decide +kernel
theorem dL_law_627 : decode cL_law 627 = .ok (.invokevirtual 69, 3) := by decide +kernel
theorem dL_law_630 : decode cL_law 630 = .ok (.aload_n 2, 1) := by decide +kernel
theorem dL_law_631 : decode cL_law 631 = .ok (.aload_n 0, 1) := by decide +kernel
theorem dL_law_632 : decode cL_law 632 = .ok (.iload_n 3, 1) := by decide +kernel
theorem dL_law_633 : decode cL_law 633 = .ok (.iconst 1, 1) := by decide +kernel
theorem dL_law_634 : decode cL_law 634 = .ok (.iadd, 1) := by decide +kernel
theorem dL_law_635 : decode cL_law 635 = .ok (.iaload, 1) := by decide +kernel
theorem dL_law_636 : decode cL_law 636 = .ok (.aload_n 0, 1) := by decide +kernel
theorem dL_law_637 : decode cL_law 637 = .ok (.iload_n 3, 1) := by decide +kernel
theorem dL_law_638 : decode cL_law 638 = .ok (.iconst 2, 1) := by decide +kernel
theorem dL_law_639 : decode cL_law 639 = .ok (.iadd, 1) := by decide +kernel
theorem dL_law_640 : decode cL_law 640 = .ok (.iaload, 1) := by decide +kernel
theorem dL_law_641 : decode cL_law 641 = .ok (.invokevirtual 72, 3) := by decide +kernel
theorem dL_law_644 : decode cL_law 644 = .ok (.if_icmp .eq 404, 3) := by decide +kernel
theorem dL_law_647 : decode cL_law 647 = .ok (.iconst 0, 1) := by decide +kernel
theorem dL_law_648 : decode cL_law 648 = .ok (.ireturn, 1) := by decide +kernel
theorem dL_law_649 : decode cL_law 649 = .ok (.aload_n 1, 1) := by decide +kernel
theorem dL_law_650 : decode cL_law 650 = .ok (.aload_n 0, 1) := by decide +kernel
theorem dL_law_651 : decode cL_law 651 = .ok (.iload_n 3, 1) := by decide +kernel
theorem dL_law_652 : decode cL_law 652 = .ok (.iconst 1, 1) := by decide +kernel
theorem dL_law_653 : decode cL_law 653 = .ok (.iadd, 1) := by decide +kernel
theorem dL_law_654 : decode cL_law 654 = .ok (.iaload, 1) := by decide +kernel
theorem dL_law_655 : decode cL_law 655 = .ok (.invokevirtual 73, 3) := by decide +kernel
theorem dL_law_658 : decode cL_law 658 = .ok (.aload_n 2, 1) := by decide +kernel
theorem dL_law_659 : decode cL_law 659 = .ok (.aload_n 0, 1) := by decide +kernel
theorem dL_law_660 : decode cL_law 660 = .ok (.iload_n 3, 1) := by decide +kernel
theorem dL_law_661 : decode cL_law 661 = .ok (.iconst 1, 1) := by decide +kernel
theorem dL_law_662 : decode cL_law 662 = .ok (.iadd, 1) := by decide +kernel
theorem dL_law_663 : decode cL_law 663 = .ok (.iaload, 1) := by decide +kernel
theorem dL_law_664 : decode cL_law 664 = .ok (.invokevirtual 77, 3) := by decide +kernel
theorem dL_law_667 : decode cL_law 667 = .ok (.if_icmp .eq 381, 3) := by decide +kernel
theorem dL_law_670 : decode cL_law 670 = .ok (.iconst 0, 1) := by decide +kernel
theorem dL_law_671 : decode cL_law 671 = .ok (.ireturn, 1) := by decide +kernel
theorem dL_law_672 : decode cL_law 672 = .ok (.aload_n 1, 1) := by decide +kernel
theorem dL_law_673 : decode cL_law 673 = .ok (.aload_n 0, 1) := by decide +kernel
theorem dL_law_674 : decode cL_law 674 = .ok (.iload_n 3, 1) := by decide +kernel
theorem dL_law_675 : decode cL_law 675 = .ok (.iconst 1, 1) := by decide +kernel
theorem dL_law_676 : decode cL_law 676 = .ok (.iadd, 1) := by decide +kernel
theorem dL_law_677 : decode cL_law 677 = .ok (.iaload, 1) := by decide +kernel
theorem dL_law_678 : decode cL_law 678 = .ok (.aload_n 0, 1) := by decide +kernel
theorem dL_law_679 : decode cL_law 679 = .ok (.iload_n 3, 1) := by decide +kernel
theorem dL_law_680 : decode cL_law 680 = .ok (.iconst 2, 1) := by decide +kernel
theorem dL_law_681 : decode cL_law 681 = .ok (.iadd, 1) := by decide +kernel
theorem dL_law_682 : decode cL_law 682 = .ok (.iaload, 1) := by decide +kernel
theorem dL_law_683 : decode cL_law 683 = .ok (.invokevirtual 78, 3) := by decide +kernel
theorem dL_law_686 : decode cL_law 686 = .ok (.aload_n 2, 1) := by decide +kernel
theorem dL_law_687 : decode cL_law 687 = .ok (.aload_n 0, 1) := by decide +kernel
theorem dL_law_688 : decode cL_law 688 = .ok (.iload_n 3, 1) := by decide +kernel
theorem dL_law_689 : decode cL_law 689 = .ok (.iconst 1, 1) := by decide +kernel
theorem dL_law_690 : decode cL_law 690 = .ok (.iadd, 1) := by decide +kernel
theorem dL_law_691 : decode cL_law 691 = .ok (.iaload, 1) := by decide +kernel
theorem dL_law_692 : decode cL_law 692 = .ok (.aload_n 0, 1) := by decide +kernel
theorem dL_law_693 : decode cL_law 693 = .ok (.iload_n 3, 1) := by decide +kernel
theorem dL_law_694 : decode cL_law 694 = .ok (.iconst 2, 1) := by decide +kernel
theorem dL_law_695 : decode cL_law 695 = .ok (.iadd, 1) := by decide +kernel
theorem dL_law_696 : decode cL_law 696 = .ok (.iaload, 1) := by decide +kernel
theorem dL_law_697 : decode cL_law 697 = .ok (.invokevirtual 81, 3) := by decide +kernel
theorem dL_law_700 : decode cL_law 700 = .ok (.if_icmp .eq 348, 3) := by decide +kernel
theorem dL_law_703 : decode cL_law 703 = .ok (.iconst 0, 1) := by decide +kernel
theorem dL_law_704 : decode cL_law 704 = .ok (.ireturn, 1) := by decide +kernel
theorem dL_law_705 : decode cL_law 705 = .ok (.aload_n 1, 1) := by decide +kernel
theorem dL_law_706 : decode cL_law 706 = .ok (.aload_n 0, 1) := by decide +kernel
theorem dL_law_707 : decode cL_law 707 = .ok (.iload_n 3, 1) := by decide +kernel
theorem dL_law_708 : decode cL_law 708 = .ok (.iconst 1, 1) := by decide +kernel
theorem dL_law_709 : decode cL_law 709 = .ok (.iadd, 1) := by decide +kernel
theorem dL_law_710 : decode cL_law 710 = .ok (.iaload, 1) := by decide +kernel
theorem dL_law_711 : decode cL_law 711 = .ok (.invokevirtual 82, 3) := by decide +kernel
theorem dL_law_714 : decode cL_law 714 = .ok (.aload_n 2, 1) := by decide +kernel
theorem dL_law_715 : decode cL_law 715 = .ok (.aload_n 0, 1) := by decide +kernel
theorem dL_law_716 : decode cL_law 716 = .ok (.iload_n 3, 1) := by decide +kernel
theorem dL_law_717 : decode cL_law 717 = .ok (.iconst 1, 1) := by decide +kernel
theorem dL_law_718 : decode cL_law 718 = .ok (.iadd, 1) := by decide +kernel
theorem dL_law_719 : decode cL_law 719 = .ok (.iaload, 1) := by decide +kernel
theorem dL_law_720 : decode cL_law 720 = .ok (.invokevirtual 85, 3) := by decide +kernel
theorem dL_law_723 : decode cL_law 723 = .ok (.if_icmp .eq 325, 3) := by decide +kernel
theorem dL_law_726 : decode cL_law 726 = .ok (.iconst 0, 1) := by decide +kernel
theorem dL_law_727 : decode cL_law 727 = .ok (.ireturn, 1) := by decide +kernel
theorem dL_law_728 : decode cL_law 728 = .ok (.aload_n 1, 1) := by decide +kernel
theorem dL_law_729 : decode cL_law 729 = .ok (.aload_n 0, 1) := by decide +kernel
theorem dL_law_730 : decode cL_law 730 = .ok (.iload_n 3, 1) := by decide +kernel
theorem dL_law_731 : decode cL_law 731 = .ok (.iconst 1, 1) := by decide +kernel
theorem dL_law_732 : decode cL_law 732 = .ok (.iadd, 1) := by decide +kernel
theorem dL_law_733 : decode cL_law 733 = .ok (.iaload, 1) := by decide +kernel
theorem dL_law_734 : decode cL_law 734 = .ok (.aload_n 0, 1) := by decide +kernel
theorem dL_law_735 : decode cL_law 735 = .ok (.iload_n 3, 1) := by decide +kernel
theorem dL_law_736 : decode cL_law 736 = .ok (.iconst 2, 1) := by decide +kernel
theorem dL_law_737 : decode cL_law 737 = .ok (.iadd, 1) := by decide +kernel
theorem dL_law_738 : decode cL_law 738 = .ok (.iaload, 1) := by decide +kernel
theorem dL_law_739 : decode cL_law 739 = .ok (.invokevirtual 86, 3) := by decide +kernel
theorem dL_law_742 : decode cL_law 742 = .ok (.aload_n 2, 1) := by decide +kernel
theorem dL_law_743 : decode cL_law 743 = .ok (.aload_n 0, 1) := by decide +kernel
theorem dL_law_744 : decode cL_law 744 = .ok (.iload_n 3, 1) := by decide +kernel
theorem dL_law_745 : decode cL_law 745 = .ok (.iconst 1, 1) := by decide +kernel
theorem dL_law_746 : decode cL_law 746 = .ok (.iadd, 1) := by decide +kernel
theorem dL_law_747 : decode cL_law 747 = .ok (.iaload, 1) := by decide +kernel
theorem dL_law_748 : decode cL_law 748 = .ok (.aload_n 0, 1) := by decide +kernel
theorem dL_law_749 : decode cL_law 749 = .ok (.iload_n 3, 1) := by decide +kernel
theorem dL_law_750 : decode cL_law 750 = .ok (.iconst 2, 1) := by decide +kernel
theorem dL_law_751 : decode cL_law 751 = .ok (.iadd, 1) := by decide +kernel
theorem dL_law_752 : decode cL_law 752 = .ok (.iaload, 1) := by decide +kernel
theorem dL_law_753 : decode cL_law 753 = .ok (.invokevirtual 89, 3) := by decide +kernel
theorem dL_law_756 : decode cL_law 756 = .ok (.if_icmp .eq 292, 3) := by decide +kernel
theorem dL_law_759 : decode cL_law 759 = .ok (.iconst 0, 1) := by decide +kernel
theorem dL_law_760 : decode cL_law 760 = .ok (.ireturn, 1) := by decide +kernel
theorem dL_law_761 : decode cL_law 761 = .ok (.aload_n 1, 1) := by decide +kernel
theorem dL_law_762 : decode cL_law 762 = .ok (.aload_n 0, 1) := by decide +kernel
theorem dL_law_763 : decode cL_law 763 = .ok (.iload_n 3, 1) := by decide +kernel
theorem dL_law_764 : decode cL_law 764 = .ok (.iconst 1, 1) := by decide +kernel
theorem dL_law_765 : decode cL_law 765 = .ok (.iadd, 1) := by decide +kernel
theorem dL_law_766 : decode cL_law 766 = .ok (.iaload, 1) := by decide +kernel
theorem dL_law_767 : decode cL_law 767 = .ok (.invokevirtual 90, 3) := by decide +kernel
theorem dL_law_770 : decode cL_law 770 = .ok (.aload_n 2, 1) := by decide +kernel
theorem dL_law_771 : decode cL_law 771 = .ok (.aload_n 0, 1) := by decide +kernel
theorem dL_law_772 : decode cL_law 772 = .ok (.iload_n 3, 1) := by decide +kernel
theorem dL_law_773 : decode cL_law 773 = .ok (.iconst 1, 1) := by decide +kernel
theorem dL_law_774 : decode cL_law 774 = .ok (.iadd, 1) := by decide +kernel
theorem dL_law_775 : decode cL_law 775 = .ok (.iaload, 1) := by decide +kernel
theorem dL_law_776 : decode cL_law 776 = .ok (.invokevirtual 93, 3) := by decide +kernel
theorem dL_law_779 : decode cL_law 779 = .ok (.if_icmp .eq 269, 3) := by decide +kernel
theorem dL_law_782 : decode cL_law 782 = .ok (.iconst 0, 1) := by decide +kernel
theorem dL_law_783 : decode cL_law 783 = .ok (.ireturn, 1) := by decide +kernel
theorem dL_law_784 : decode cL_law 784 = .ok (.aload_n 1, 1) := by decide +kernel
theorem dL_law_785 : decode cL_law 785 = .ok (.invokevirtual 94, 3) := by decide +kernel
theorem dL_law_788 : decode cL_law 788 = .ok (.aload_n 2, 1) := by decide +kernel
theorem dL_law_789 : decode cL_law 789 = .ok (.invokevirtual 97, 3) := by decide +kernel
theorem dL_law_792 : decode cL_law 792 = .ok (.if_icmp .eq 256, 3) := by decide +kernel
theorem dL_law_795 : decode cL_law 795 = .ok (.iconst 0, 1) := by decide +kernel
theorem dL_law_796 : decode cL_law 796 = .ok (.ireturn, 1) := by decide +kernel
theorem dL_law_797 : decode cL_law 797 = .ok (.aload_n 1, 1) := by decide +kernel
theorem dL_law_798 : decode cL_law 798 = .ok (.aload_n 0, 1) := by decide +kernel
theorem dL_law_799 : decode cL_law 799 = .ok (.iload_n 3, 1) := by decide +kernel
theorem dL_law_800 : decode cL_law 800 = .ok (.iconst 1, 1) := by decide +kernel
theorem dL_law_801 : decode cL_law 801 = .ok (.iadd, 1) := by decide +kernel
theorem dL_law_802 : decode cL_law 802 = .ok (.iaload, 1) := by decide +kernel
theorem dL_law_803 : decode cL_law 803 = .ok (.invokevirtual 98, 3) := by decide +kernel
theorem dL_law_806 : decode cL_law 806 = .ok (.aload_n 2, 1) := by decide +kernel
theorem dL_law_807 : decode cL_law 807 = .ok (.aload_n 0, 1) := by decide +kernel
theorem dL_law_808 : decode cL_law 808 = .ok (.iload_n 3, 1) := by decide +kernel
theorem dL_law_809 : decode cL_law 809 = .ok (.iconst 1, 1) := by decide +kernel
theorem dL_law_810 : decode cL_law 810 = .ok (.iadd, 1) := by decide +kernel
theorem dL_law_811 : decode cL_law 811 = .ok (.iaload, 1) := by decide +kernel
theorem dL_law_812 : decode cL_law 812 = .ok (.invokevirtual 101, 3) := by decide +kernel
theorem dL_law_815 : decode cL_law 815 = .ok (.if_icmp .eq 233, 3) := by decide +kernel
theorem dL_law_818 : decode cL_law 818 = .ok (.iconst 0, 1) := by decide +kernel
theorem dL_law_819 : decode cL_law 819 = .ok (.ireturn, 1) := by decide +kernel
theorem dL_law_820 : decode cL_law 820 = .ok (.aload_n 1, 1) := by decide +kernel
theorem dL_law_821 : decode cL_law 821 = .ok (.aload_n 0, 1) := by decide +kernel
theorem dL_law_822 : decode cL_law 822 = .ok (.iload_n 3, 1) := by decide +kernel
theorem dL_law_823 : decode cL_law 823 = .ok (.iconst 1, 1) := by decide +kernel
theorem dL_law_824 : decode cL_law 824 = .ok (.iadd, 1) := by decide +kernel
theorem dL_law_825 : decode cL_law 825 = .ok (.iaload, 1) := by decide +kernel
theorem dL_law_826 : decode cL_law 826 = .ok (.aload_n 0, 1) := by decide +kernel
theorem dL_law_827 : decode cL_law 827 = .ok (.iload_n 3, 1) := by decide +kernel
theorem dL_law_828 : decode cL_law 828 = .ok (.iconst 2, 1) := by decide +kernel
theorem dL_law_829 : decode cL_law 829 = .ok (.iadd, 1) := by decide +kernel
theorem dL_law_830 : decode cL_law 830 = .ok (.iaload, 1) := by decide +kernel
theorem dL_law_831 : decode cL_law 831 = .ok (.invokevirtual 102, 3) := by decide +kernel
theorem dL_law_834 : decode cL_law 834 = .ok (.aload_n 2, 1) := by decide +kernel
theorem dL_law_835 : decode cL_law 835 = .ok (.aload_n 0, 1) := by decide +kernel
theorem dL_law_836 : decode cL_law 836 = .ok (.iload_n 3, 1) := by decide +kernel
theorem dL_law_837 : decode cL_law 837 = .ok (.iconst 1, 1) := by decide +kernel
theorem dL_law_838 : decode cL_law 838 = .ok (.iadd, 1) := by decide +kernel
theorem dL_law_839 : decode cL_law 839 = .ok (.iaload, 1) := by decide +kernel
theorem dL_law_840 : decode cL_law 840 = .ok (.aload_n 0, 1) := by decide +kernel
theorem dL_law_841 : decode cL_law 841 = .ok (.iload_n 3, 1) := by decide +kernel
theorem dL_law_842 : decode cL_law 842 = .ok (.iconst 2, 1) := by decide +kernel
theorem dL_law_843 : decode cL_law 843 = .ok (.iadd, 1) := by decide +kernel
theorem dL_law_844 : decode cL_law 844 = .ok (.iaload, 1) := by decide +kernel
theorem dL_law_845 : decode cL_law 845 = .ok (.invokevirtual 105, 3) := by decide +kernel
theorem dL_law_848 : decode cL_law 848 = .ok (.if_icmp .eq 200, 3) := by decide +kernel
theorem dL_law_851 : decode cL_law 851 = .ok (.iconst 0, 1) := by decide +kernel
theorem dL_law_852 : decode cL_law 852 = .ok (.ireturn, 1) := by decide +kernel
theorem dL_law_853 : decode cL_law 853 = .ok (.aload_n 1, 1) := by decide +kernel
theorem dL_law_854 : decode cL_law 854 = .ok (.aload_n 0, 1) := by decide +kernel
theorem dL_law_855 : decode cL_law 855 = .ok (.iload_n 3, 1) := by decide +kernel
theorem dL_law_856 : decode cL_law 856 = .ok (.iconst 1, 1) := by decide +kernel
theorem dL_law_857 : decode cL_law 857 = .ok (.iadd, 1) := by decide +kernel
theorem dL_law_858 : decode cL_law 858 = .ok (.iaload, 1) := by decide +kernel
theorem dL_law_859 : decode cL_law 859 = .ok (.aload_n 0, 1) := by decide +kernel
theorem dL_law_860 : decode cL_law 860 = .ok (.iload_n 3, 1) := by decide +kernel
theorem dL_law_861 : decode cL_law 861 = .ok (.iconst 2, 1) := by decide +kernel
theorem dL_law_862 : decode cL_law 862 = .ok (.iadd, 1) := by decide +kernel
theorem dL_law_863 : decode cL_law 863 = .ok (.iaload, 1) := by decide +kernel
theorem dL_law_864 : decode cL_law 864 = .ok (.invokevirtual 106, 3) := by decide +kernel
theorem dL_law_867 : decode cL_law 867 = .ok (.aload_n 2, 1) := by decide +kernel
theorem dL_law_868 : decode cL_law 868 = .ok (.aload_n 0, 1) := by decide +kernel
theorem dL_law_869 : decode cL_law 869 = .ok (.iload_n 3, 1) := by decide +kernel
theorem dL_law_870 : decode cL_law 870 = .ok (.iconst 1, 1) := by decide +kernel
theorem dL_law_871 : decode cL_law 871 = .ok (.iadd, 1) := by decide +kernel
theorem dL_law_872 : decode cL_law 872 = .ok (.iaload, 1) := by decide +kernel
theorem dL_law_873 : decode cL_law 873 = .ok (.aload_n 0, 1) := by decide +kernel
theorem dL_law_874 : decode cL_law 874 = .ok (.iload_n 3, 1) := by decide +kernel
theorem dL_law_875 : decode cL_law 875 = .ok (.iconst 2, 1) := by decide +kernel
theorem dL_law_876 : decode cL_law 876 = .ok (.iadd, 1) := by decide +kernel
theorem dL_law_877 : decode cL_law 877 = .ok (.iaload, 1) := by decide +kernel
theorem dL_law_878 : decode cL_law 878 = .ok (.invokevirtual 109, 3) := by decide +kernel
theorem dL_law_881 : decode cL_law 881 = .ok (.if_icmp .eq 167, 3) := by decide +kernel
theorem dL_law_884 : decode cL_law 884 = .ok (.iconst 0, 1) := by decide +kernel
theorem dL_law_885 : decode cL_law 885 = .ok (.ireturn, 1) := by decide +kernel
theorem dL_law_886 : decode cL_law 886 = .ok (.aload_n 1, 1) := by decide +kernel
theorem dL_law_887 : decode cL_law 887 = .ok (.aload_n 0, 1) := by decide +kernel
theorem dL_law_888 : decode cL_law 888 = .ok (.iload_n 3, 1) := by decide +kernel
theorem dL_law_889 : decode cL_law 889 = .ok (.iconst 1, 1) := by decide +kernel
theorem dL_law_890 : decode cL_law 890 = .ok (.iadd, 1) := by decide +kernel
theorem dL_law_891 : decode cL_law 891 = .ok (.iaload, 1) := by decide +kernel
theorem dL_law_892 : decode cL_law 892 = .ok (.invokevirtual 110, 3) := by decide +kernel
theorem dL_law_895 : decode cL_law 895 = .ok (.aload_n 2, 1) := by decide +kernel
theorem dL_law_896 : decode cL_law 896 = .ok (.aload_n 0, 1) := by decide +kernel
theorem dL_law_897 : decode cL_law 897 = .ok (.iload_n 3, 1) := by decide +kernel
theorem dL_law_898 : decode cL_law 898 = .ok (.iconst 1, 1) := by decide +kernel
theorem dL_law_899 : decode cL_law 899 = .ok (.iadd, 1) := by decide +kernel
theorem dL_law_900 : decode cL_law 900 = .ok (.iaload, 1) := by decide +kernel
theorem dL_law_901 : decode cL_law 901 = .ok (.invokevirtual 113, 3) := by decide +kernel
theorem dL_law_904 : decode cL_law 904 = .ok (.if_icmp .eq 144, 3) := by decide +kernel
theorem dL_law_907 : decode cL_law 907 = .ok (.iconst 0, 1) := by decide +kernel
theorem dL_law_908 : decode cL_law 908 = .ok (.ireturn, 1) := by decide +kernel
theorem dL_law_909 : decode cL_law 909 = .ok (.aload_n 1, 1) := by decide +kernel
theorem dL_law_910 : decode cL_law 910 = .ok (.aload_n 0, 1) := by decide +kernel
theorem dL_law_911 : decode cL_law 911 = .ok (.iload_n 3, 1) := by decide +kernel
theorem dL_law_912 : decode cL_law 912 = .ok (.iconst 1, 1) := by decide +kernel
theorem dL_law_913 : decode cL_law 913 = .ok (.iadd, 1) := by decide +kernel
theorem dL_law_914 : decode cL_law 914 = .ok (.iaload, 1) := by decide +kernel
theorem dL_law_915 : decode cL_law 915 = .ok (.aload_n 0, 1) := by decide +kernel
theorem dL_law_916 : decode cL_law 916 = .ok (.iload_n 3, 1) := by decide +kernel
theorem dL_law_917 : decode cL_law 917 = .ok (.iconst 2, 1) := by decide +kernel
theorem dL_law_918 : decode cL_law 918 = .ok (.iadd, 1) := by decide +kernel
theorem dL_law_919 : decode cL_law 919 = .ok (.iaload, 1) := by decide +kernel
theorem dL_law_920 : decode cL_law 920 = .ok (.invokevirtual 114, 3) := by decide +kernel
theorem dL_law_923 : decode cL_law 923 = .ok (.aload_n 2, 1) := by decide +kernel
theorem dL_law_924 : decode cL_law 924 = .ok (.aload_n 0, 1) := by decide +kernel
theorem dL_law_925 : decode cL_law 925 = .ok (.iload_n 3, 1) := by decide +kernel
theorem dL_law_926 : decode cL_law 926 = .ok (.iconst 1, 1) := by decide +kernel
theorem dL_law_927 : decode cL_law 927 = .ok (.iadd, 1) := by decide +kernel
theorem dL_law_928 : decode cL_law 928 = .ok (.iaload, 1) := by decide +kernel
theorem dL_law_929 : decode cL_law 929 = .ok (.aload_n 0, 1) := by decide +kernel
theorem dL_law_930 : decode cL_law 930 = .ok (.iload_n 3, 1) := by decide +kernel
theorem dL_law_931 : decode cL_law 931 = .ok (.iconst 2, 1) := by decide +kernel
theorem dL_law_932 : decode cL_law 932 = .ok (.iadd, 1) := by decide +kernel
theorem dL_law_933 : decode cL_law 933 = .ok (.iaload, 1) := by decide +kernel
theorem dL_law_934 : decode cL_law 934 = .ok (.invokevirtual 117, 3) := by decide +kernel
theorem dL_law_937 : decode cL_law 937 = .ok (.if_icmp .eq 111, 3) := by decide +kernel
theorem dL_law_940 : decode cL_law 940 = .ok (.iconst 0, 1) := by decide +kernel
theorem dL_law_941 : decode cL_law 941 = .ok (.ireturn, 1) := by decide +kernel
theorem dL_law_942 : decode cL_law 942 = .ok (.aload_n 1, 1) := by decide +kernel
theorem dL_law_943 : decode cL_law 943 = .ok (.aload_n 0, 1) := by decide +kernel
theorem dL_law_944 : decode cL_law 944 = .ok (.iload_n 3, 1) := by decide +kernel
theorem dL_law_945 : decode cL_law 945 = .ok (.iconst 1, 1) := by decide +kernel
theorem dL_law_946 : decode cL_law 946 = .ok (.iadd, 1) := by decide +kernel
theorem dL_law_947 : decode cL_law 947 = .ok (.iaload, 1) := by decide +kernel
theorem dL_law_948 : decode cL_law 948 = .ok (.invokevirtual 118, 3) := by decide +kernel
theorem dL_law_951 : decode cL_law 951 = .ok (.aload_n 2, 1) := by decide +kernel
theorem dL_law_952 : decode cL_law 952 = .ok (.aload_n 0, 1) := by decide +kernel
theorem dL_law_953 : decode cL_law 953 = .ok (.iload_n 3, 1) := by decide +kernel
theorem dL_law_954 : decode cL_law 954 = .ok (.iconst 1, 1) := by decide +kernel
theorem dL_law_955 : decode cL_law 955 = .ok (.iadd, 1) := by decide +kernel
theorem dL_law_956 : decode cL_law 956 = .ok (.iaload, 1) := by decide +kernel
theorem dL_law_957 : decode cL_law 957 = .ok (.invokevirtual 121, 3) := by decide +kernel
theorem dL_law_960 : decode cL_law 960 = .ok (.if_icmp .eq 88, 3) := by decide +kernel
theorem dL_law_963 : decode cL_law 963 = .ok (.iconst 0, 1) := by decide +kernel
theorem dL_law_964 : decode cL_law 964 = .ok (.ireturn, 1) := by decide +kernel
theorem dL_law_965 : decode cL_law 965 = .ok (.aload_n 1, 1) := by decide +kernel
theorem dL_law_966 : decode cL_law 966 = .ok (.aload_n 0, 1) := by decide +kernel
theorem dL_law_967 : decode cL_law 967 = .ok (.iload_n 3, 1) := by decide +kernel
theorem dL_law_968 : decode cL_law 968 = .ok (.iconst 1, 1) := by decide +kernel
theorem dL_law_969 : decode cL_law 969 = .ok (.iadd, 1) := by decide +kernel
theorem dL_law_970 : decode cL_law 970 = .ok (.iaload, 1) := by decide +kernel
theorem dL_law_971 : decode cL_law 971 = .ok (.invokevirtual 122, 3) := by decide +kernel
theorem dL_law_974 : decode cL_law 974 = .ok (.aload_n 2, 1) := by decide +kernel
theorem dL_law_975 : decode cL_law 975 = .ok (.aload_n 0, 1) := by decide +kernel
theorem dL_law_976 : decode cL_law 976 = .ok (.iload_n 3, 1) := by decide +kernel
theorem dL_law_977 : decode cL_law 977 = .ok (.iconst 1, 1) := by decide +kernel
theorem dL_law_978 : decode cL_law 978 = .ok (.iadd, 1) := by decide +kernel
theorem dL_law_979 : decode cL_law 979 = .ok (.iaload, 1) := by decide +kernel
theorem dL_law_980 : decode cL_law 980 = .ok (.invokevirtual 125, 3) := by decide +kernel
theorem dL_law_983 : decode cL_law 983 = .ok (.if_icmp .eq 65, 3) := by decide +kernel
theorem dL_law_986 : decode cL_law 986 = .ok (.iconst 0, 1) := by decide +kernel
theorem dL_law_987 : decode cL_law 987 = .ok (.ireturn, 1) := by decide +kernel
theorem dL_law_988 : decode cL_law 988 = .ok (.aload_n 1, 1) := by decide +kernel
theorem dL_law_989 : decode cL_law 989 = .ok (.aload_n 0, 1) := by decide +kernel
theorem dL_law_990 : decode cL_law 990 = .ok (.iload_n 3, 1) := by decide +kernel
theorem dL_law_991 : decode cL_law 991 = .ok (.iconst 1, 1) := by decide +kernel
theorem dL_law_992 : decode cL_law 992 = .ok (.iadd, 1) := by decide +kernel
theorem dL_law_993 : decode cL_law 993 = .ok (.iaload, 1) := by decide +kernel
theorem dL_law_994 : decode cL_law 994 = .ok (.invokevirtual 126, 3) := by decide +kernel
theorem dL_law_997 : decode cL_law 997 = .ok (.aload_n 2, 1) := by decide +kernel
theorem dL_law_998 : decode cL_law 998 = .ok (.aload_n 0, 1) := by decide +kernel
theorem dL_law_999 : decode cL_law 999 = .ok (.iload_n 3, 1) := by decide +kernel
theorem dL_law_1000 : decode cL_law 1000 = .ok (.iconst 1, 1) := by decide +kernel
theorem dL_law_1001 : decode cL_law 1001 = .ok (.iadd, 1) := by decide +kernel
theorem dL_law_1002 : decode cL_law 1002 = .ok (.iaload, 1) := by decide +kernel
theorem dL_law_1003 : decode cL_law 1003 = .ok (.invokevirtual 129, 3) := by decide +kernel
theorem dL_law_1006 : decode cL_law 1006 = .ok (.if_icmp .eq 42, 3) := by decide +kernel
theorem dL_law_1009 : decode cL_law 1009 = .ok (.iconst 0, 1) := by decide +kernel
theorem dL_law_1010 : decode cL_law 1010 = .ok (.ireturn, 1) := by decide +kernel
theorem dL_law_1011 : decode cL_law 1011 = .ok (.aload_n 1, 1) := by decide +kernel
theorem dL_law_1012 : decode cL_law 1012 = .ok (.aload_n 0, 1) := by decide +kernel
theorem dL_law_1013 : decode cL_law 1013 = .ok (.iload_n 3, 1) := by decide +kernel
theorem dL_law_1014 : decode cL_law 1014 = .ok (.iconst 1, 1) := by decide +kernel
theorem dL_law_1015 : decode cL_law 1015 = .ok (.iadd, 1) := by decide +kernel
theorem dL_law_1016 : decode cL_law 1016 = .ok (.iaload, 1) := by decide +kernel
theorem dL_law_1017 : decode cL_law 1017 = .ok (.invokevirtual 130, 3) := by decide +kernel
theorem dL_law_1020 : decode cL_law 1020 = .ok (.aload_n 2, 1) := by decide +kernel
theorem dL_law_1021 : decode cL_law 1021 = .ok (.aload_n 0, 1) := by decide +kernel
theorem dL_law_1022 : decode cL_law 1022 = .ok (.iload_n 3, 1) := by decide +kernel
theorem dL_law_1023 : decode cL_law 1023 = .ok (.iconst 1, 1) := by decide +kernel
theorem dL_law_1024 : decode cL_law 1024 = .ok (.iadd, 1) := by decide +kernel
theorem dL_law_1025 : decode cL_law 1025 = .ok (.iaload, 1) := by decide +kernel
theorem dL_law_1026 : decode cL_law 1026 = .ok (.invokevirtual 133, 3) := by decide +kernel
theorem dL_law_1029 : decode cL_law 1029 = .ok (.if_icmp .eq 19, 3) := by decide +kernel
theorem dL_law_1032 : decode cL_law 1032 = .ok (.iconst 0, 1) := by decide +kernel
theorem dL_law_1033 : decode cL_law 1033 = .ok (.ireturn, 1) := by decide +kernel
theorem dL_law_1034 : decode cL_law 1034 = .ok (.aload_n 1, 1) := by decide +kernel
theorem dL_law_1035 : decode cL_law 1035 = .ok (.invokevirtual 134, 3) := by decide +kernel
theorem dL_law_1038 : decode cL_law 1038 = .ok (.aload_n 2, 1) := by decide +kernel
theorem dL_law_1039 : decode cL_law 1039 = .ok (.invokevirtual 138, 3) := by decide +kernel
theorem dL_law_1042 : decode cL_law 1042 = .ok (.lcmp, 1) := by decide +kernel
theorem dL_law_1043 : decode cL_law 1043 = .ok (.ifCond .eq 5, 3) := by decide +kernel
theorem dL_law_1046 : decode cL_law 1046 = .ok (.iconst 0, 1) := by decide +kernel
theorem dL_law_1047 : decode cL_law 1047 = .ok (.ireturn, 1) := by decide +kernel
theorem dL_law_1048 : decode cL_law 1048 = .ok (.iinc 3 5, 3) := by decide +kernel
theorem dL_law_1051 : decode cL_law 1051 = .ok (.goto (-1033), 3) := by decide +kernel
theorem dL_law_1054 : decode cL_law 1054 = .ok (.iconst 1, 1) := by decide +kernel
theorem dL_law_1055 : decode cL_law 1055 = .ok (.ireturn, 1) := by decide +kernel

theorem d_M_init_4 : decode b_M_init 4 = .ok (.aload_n 0, 1) := by decide +kernel
theorem d_M_init_5 : decode b_M_init 5 = .ok (.bipush 10, 2) := by decide +kernel
theorem d_M_init_7 : decode b_M_init 7 = .ok (.newarray .int, 2) := by decide +kernel
theorem d_M_init_9 : decode b_M_init 9 = .ok (.putfield 7, 3) := by decide +kernel
theorem d_M_init_12 : decode b_M_init 12 = .ok (.aload_n 0, 1) := by decide +kernel
theorem d_M_init_13 : decode b_M_init 13 = .ok (.bipush 10, 2) := by decide +kernel
theorem d_M_init_15 : decode b_M_init 15 = .ok (.newarray .int, 2) := by decide +kernel
theorem d_M_init_17 : decode b_M_init 17 = .ok (.putfield 13, 3) := by decide +kernel
theorem d_M_init_20 : decode b_M_init 20 = .ok (.aload_n 0, 1) := by decide +kernel
theorem d_M_init_21 : decode b_M_init 21 = .ok (.bipush 10, 2) := by decide +kernel
theorem d_M_init_23 : decode b_M_init 23 = .ok (.newarray .int, 2) := by decide +kernel
theorem d_M_init_25 : decode b_M_init 25 = .ok (.putfield 16, 3) := by decide +kernel
theorem d_M_init_28 : decode b_M_init 28 = .ok (.aload_n 0, 1) := by decide +kernel
theorem d_M_init_29 : decode b_M_init 29 = .ok (.bipush 40, 2) := by decide +kernel
theorem d_M_init_31 : decode b_M_init 31 = .ok (.newarray .int, 2) := by decide +kernel
theorem d_M_init_33 : decode b_M_init 33 = .ok (.putfield 19, 3) := by decide +kernel
theorem d_M_init_36 : decode b_M_init 36 = .ok (.aload_n 0, 1) := by decide +kernel
theorem d_M_init_37 : decode b_M_init 37 = .ok (.bipush 40, 2) := by decide +kernel
theorem d_M_init_39 : decode b_M_init 39 = .ok (.newarray .int, 2) := by decide +kernel
theorem d_M_init_41 : decode b_M_init 41 = .ok (.putfield 22, 3) := by decide +kernel
theorem d_M_init_44 : decode b_M_init 44 = .ok (.aload_n 0, 1) := by decide +kernel
theorem d_M_init_45 : decode b_M_init 45 = .ok (.bipush 40, 2) := by decide +kernel
theorem d_M_init_47 : decode b_M_init 47 = .ok (.newarray .long, 2) := by decide +kernel
theorem d_M_init_49 : decode b_M_init 49 = .ok (.putfield 25, 3) := by decide +kernel
theorem d_M_init_52 : decode b_M_init 52 = .ok (.aload_n 0, 1) := by decide +kernel
theorem d_M_init_53 : decode b_M_init 53 = .ok (.iconst (-1), 1) := by decide +kernel
theorem d_M_init_54 : decode b_M_init 54 = .ok (.putfield 29, 3) := by decide +kernel
theorem d_M_init_57 : decode b_M_init 57 = .ok (.aload_n 0, 1) := by decide +kernel
theorem d_M_init_58 : decode b_M_init 58 = .ok (.bipush 16, 2) := by decide +kernel
theorem d_M_init_60 : decode b_M_init 60 = .ok (.newarray .int, 2) := by decide +kernel
theorem d_M_init_62 : decode b_M_init 62 = .ok (.putfield 33, 3) := by decide +kernel
theorem d_M_init_65 : decode b_M_init 65 = .ok (.aload_n 0, 1) := by decide +kernel
theorem d_M_init_66 : decode b_M_init 66 = .ok (.sipush 180, 3) := by decide +kernel
theorem d_M_init_69 : decode b_M_init 69 = .ok (.newarray .int, 2) := by decide +kernel
theorem d_M_init_71 : decode b_M_init 71 = .ok (.putfield 36, 3) := by decide +kernel
theorem d_M_init_74 : decode b_M_init 74 = .ok (.aload_n 0, 1) := by decide +kernel
theorem d_M_init_75 : decode b_M_init 75 = .ok (.sipush 180, 3) := by decide +kernel
theorem d_M_init_78 : decode b_M_init 78 = .ok (.newarray .int, 2) := by decide +kernel
theorem d_M_init_80 : decode b_M_init 80 = .ok (.putfield 39, 3) := by decide +kernel
theorem d_M_init_83 : decode b_M_init 83 = .ok (.aload_n 0, 1) := by decide +kernel
theorem d_M_init_84 : decode b_M_init 84 = .ok (.sipush 180, 3) := by decide +kernel
theorem d_M_init_87 : decode b_M_init 87 = .ok (.newarray .int, 2) := by decide +kernel
theorem d_M_init_89 : decode b_M_init 89 = .ok (.putfield 42, 3) := by decide +kernel
theorem d_M_init_92 : decode b_M_init 92 = .ok (.aload_n 0, 1) := by decide +kernel
theorem d_M_init_93 : decode b_M_init 93 = .ok (.sipush 180, 3) := by decide +kernel
theorem d_M_init_96 : decode b_M_init 96 = .ok (.newarray .int, 2) := by decide +kernel
theorem d_M_init_98 : decode b_M_init 98 = .ok (.putfield 45, 3) := by decide +kernel
theorem d_M_init_101 : decode b_M_init 101 = .ok (.aload_n 0, 1) := by decide +kernel
theorem d_M_init_102 : decode b_M_init 102 = .ok (.sipush 180, 3) := by decide +kernel
theorem d_M_init_105 : decode b_M_init 105 = .ok (.newarray .int, 2) := by decide +kernel
theorem d_M_init_107 : decode b_M_init 107 = .ok (.putfield 48, 3) := by decide +kernel
theorem d_M_init_110 : decode b_M_init 110 = .ok (.aload_n 0, 1) := by decide +kernel
theorem d_M_init_111 : decode b_M_init 111 = .ok (.sipush 180, 3) := by decide +kernel
theorem d_M_init_114 : decode b_M_init 114 = .ok (.newarray .boolean, 2) := by decide +kernel
theorem d_M_init_116 : decode b_M_init 116 = .ok (.putfield 51, 3) := by decide +kernel
theorem d_M_init_119 : decode b_M_init 119 = .ok (.aload_n 0, 1) := by decide +kernel
theorem d_M_init_120 : decode b_M_init 120 = .ok (.sipush 180, 3) := by decide +kernel
theorem d_M_init_123 : decode b_M_init 123 = .ok (.newarray .boolean, 2) := by decide +kernel
theorem d_M_init_125 : decode b_M_init 125 = .ok (.putfield 55, 3) := by decide +kernel
theorem d_M_init_128 : decode b_M_init 128 = .ok (.aload_n 0, 1) := by decide +kernel
theorem d_M_init_129 : decode b_M_init 129 = .ok (.sipush 260, 3) := by decide +kernel
theorem d_M_init_132 : decode b_M_init 132 = .ok (.newarray .int, 2) := by decide +kernel
theorem d_M_init_134 : decode b_M_init 134 = .ok (.putfield 58, 3) := by decide +kernel
theorem d_M_init_137 : decode b_M_init 137 = .ok (.aload_n 0, 1) := by decide +kernel
theorem d_M_init_138 : decode b_M_init 138 = .ok (.sipush 260, 3) := by decide +kernel
theorem d_M_init_141 : decode b_M_init 141 = .ok (.newarray .int, 2) := by decide +kernel
theorem d_M_init_143 : decode b_M_init 143 = .ok (.putfield 61, 3) := by decide +kernel
theorem d_M_init_146 : decode b_M_init 146 = .ok (.aload_n 0, 1) := by decide +kernel
theorem d_M_init_147 : decode b_M_init 147 = .ok (.sipush 1040, 3) := by decide +kernel
theorem d_M_init_150 : decode b_M_init 150 = .ok (.newarray .int, 2) := by decide +kernel
theorem d_M_init_152 : decode b_M_init 152 = .ok (.putfield 64, 3) := by decide +kernel
theorem d_M_init_155 : decode b_M_init 155 = .ok (.aload_n 0, 1) := by decide +kernel
theorem d_M_init_156 : decode b_M_init 156 = .ok (.sipush 1040, 3) := by decide +kernel
theorem d_M_init_159 : decode b_M_init 159 = .ok (.newarray .int, 2) := by decide +kernel
theorem d_M_init_161 : decode b_M_init 161 = .ok (.putfield 67, 3) := by decide +kernel
theorem d_M_init_164 : decode b_M_init 164 = .ok (.aload_n 0, 1) := by decide +kernel
theorem d_M_init_165 : decode b_M_init 165 = .ok (.sipush 1040, 3) := by decide +kernel
theorem d_M_init_168 : decode b_M_init 168 = .ok (.newarray .long, 2) := by decide +kernel
theorem d_M_init_170 : decode b_M_init 170 = .ok (.putfield 70, 3) := by decide +kernel
theorem d_M_init_173 : decode b_M_init 173 = .ok (.aload_n 0, 1) := by decide +kernel
theorem d_M_init_174 : decode b_M_init 174 = .ok (.bipush 12, 2) := by decide +kernel
theorem d_M_init_176 : decode b_M_init 176 = .ok (.newarray .int, 2) := by decide +kernel
theorem d_M_init_178 : decode b_M_init 178 = .ok (.putfield 73, 3) := by decide +kernel
theorem d_M_init_181 : decode b_M_init 181 = .ok (.aload_n 0, 1) := by decide +kernel
theorem d_M_init_182 : decode b_M_init 182 = .ok (.bipush 12, 2) := by decide +kernel
theorem d_M_init_184 : decode b_M_init 184 = .ok (.newarray .int, 2) := by decide +kernel
theorem d_M_init_186 : decode b_M_init 186 = .ok (.putfield 76, 3) := by decide +kernel
theorem d_M_init_189 : decode b_M_init 189 = .ok (.aload_n 0, 1) := by decide +kernel
theorem d_M_init_190 : decode b_M_init 190 = .ok (.bipush 12, 2) := by decide +kernel
theorem d_M_init_192 : decode b_M_init 192 = .ok (.newarray .int, 2) := by decide +kernel
theorem d_M_init_194 : decode b_M_init 194 = .ok (.putfield 79, 3) := by decide +kernel
theorem d_M_init_197 : decode b_M_init 197 = .ok (.aload_n 0, 1) := by decide +kernel
theorem d_M_init_198 : decode b_M_init 198 = .ok (.bipush 12, 2) := by decide +kernel
theorem d_M_init_200 : decode b_M_init 200 = .ok (.newarray .int, 2) := by decide +kernel
theorem d_M_init_202 : decode b_M_init 202 = .ok (.putfield 82, 3) := by decide +kernel
theorem d_M_init_205 : decode b_M_init 205 = .ok (.aload_n 0, 1) := by decide +kernel
theorem d_M_init_206 : decode b_M_init 206 = .ok (.bipush 12, 2) := by decide +kernel
theorem d_M_init_208 : decode b_M_init 208 = .ok (.newarray .int, 2) := by decide +kernel
theorem d_M_init_210 : decode b_M_init 210 = .ok (.putfield 85, 3) := by decide +kernel
theorem d_M_init_213 : decode b_M_init 213 = .ok (.aload_n 0, 1) := by decide +kernel
theorem d_M_init_214 : decode b_M_init 214 = .ok (.bipush 12, 2) := by decide +kernel
theorem d_M_init_216 : decode b_M_init 216 = .ok (.newarray .int, 2) := by decide +kernel
theorem d_M_init_218 : decode b_M_init 218 = .ok (.putfield 88, 3) := by decide +kernel
theorem d_M_init_221 : decode b_M_init 221 = .ok (.aload_n 0, 1) := by decide +kernel
theorem d_M_init_222 : decode b_M_init 222 = .ok (.bipush 12, 2) := by decide +kernel
theorem d_M_init_224 : decode b_M_init 224 = .ok (.newarray .int, 2) := by decide +kernel
theorem d_M_init_226 : decode b_M_init 226 = .ok (.putfield 91, 3) := by decide +kernel
theorem d_M_init_229 : decode b_M_init 229 = .ok (.aload_n 0, 1) := by decide +kernel
theorem d_M_init_230 : decode b_M_init 230 = .ok (.bipush 12, 2) := by decide +kernel
theorem d_M_init_232 : decode b_M_init 232 = .ok (.newarray .int, 2) := by decide +kernel
theorem d_M_init_234 : decode b_M_init 234 = .ok (.putfield 94, 3) := by decide +kernel
theorem d_M_init_237 : decode b_M_init 237 = .ok (.aload_n 0, 1) := by decide +kernel
theorem d_M_init_238 : decode b_M_init 238 = .ok (.iconst 1, 1) := by decide +kernel
theorem d_M_init_239 : decode b_M_init 239 = .ok (.putfield 97, 3) := by decide +kernel
theorem d_M_init_242 : decode b_M_init 242 = .ok (.aload_n 0, 1) := by decide +kernel
theorem d_M_init_243 : decode b_M_init 243 = .ok (.bipush 120, 2) := by decide +kernel
theorem d_M_init_245 : decode b_M_init 245 = .ok (.newarray .boolean, 2) := by decide +kernel
theorem d_M_init_247 : decode b_M_init 247 = .ok (.putfield 100, 3) := by decide +kernel
theorem d_M_init_250 : decode b_M_init 250 = .ok (.aload_n 0, 1) := by decide +kernel
theorem d_M_init_251 : decode b_M_init 251 = .ok (.bipush 120, 2) := by decide +kernel
theorem d_M_init_253 : decode b_M_init 253 = .ok (.newarray .int, 2) := by decide +kernel
theorem d_M_init_255 : decode b_M_init 255 = .ok (.putfield 103, 3) := by decide +kernel
theorem d_M_init_258 : decode b_M_init 258 = .ok (.aload_n 0, 1) := by decide +kernel
theorem d_M_init_259 : decode b_M_init 259 = .ok (.sipush 180, 3) := by decide +kernel
theorem d_M_init_262 : decode b_M_init 262 = .ok (.newarray .int, 2) := by decide +kernel
theorem d_M_init_264 : decode b_M_init 264 = .ok (.putfield 106, 3) := by decide +kernel
theorem d_M_init_267 : decode b_M_init 267 = .ok (.aload_n 0, 1) := by decide +kernel
theorem d_M_init_268 : decode b_M_init 268 = .ok (.sipush 180, 3) := by decide +kernel
theorem d_M_init_271 : decode b_M_init 271 = .ok (.newarray .int, 2) := by decide +kernel
theorem d_M_init_273 : decode b_M_init 273 = .ok (.putfield 109, 3) := by decide +kernel
theorem d_M_init_276 : decode b_M_init 276 = .ok (.aload_n 0, 1) := by decide +kernel
theorem d_M_init_277 : decode b_M_init 277 = .ok (.sipush 180, 3) := by decide +kernel
theorem d_M_init_280 : decode b_M_init 280 = .ok (.newarray .int, 2) := by decide +kernel
theorem d_M_init_282 : decode b_M_init 282 = .ok (.putfield 112, 3) := by decide +kernel
theorem d_M_init_285 : decode b_M_init 285 = .ok (.aload_n 0, 1) := by decide +kernel
theorem d_M_init_286 : decode b_M_init 286 = .ok (.sipush 180, 3) := by decide +kernel
theorem d_M_init_289 : decode b_M_init 289 = .ok (.newarray .int, 2) := by decide +kernel
theorem d_M_init_291 : decode b_M_init 291 = .ok (.putfield 115, 3) := by decide +kernel
theorem d_M_init_294 : decode b_M_init 294 = .ok (.return_, 1) := by decide +kernel
theorem d_M_in_0 : decode b_M_in 0 = .ok (.iload_n 0, 1) := by decide +kernel
theorem d_M_in_1 : decode b_M_in 1 = .ok (.iload_n 1, 1) := by decide +kernel
theorem d_M_in_2 : decode b_M_in 2 = .ok (.if_icmp .lt 12, 3) := by decide +kernel
theorem d_M_in_5 : decode b_M_in 5 = .ok (.iload_n 0, 1) := by decide +kernel
theorem d_M_in_6 : decode b_M_in 6 = .ok (.iload_n 2, 1) := by decide +kernel
theorem d_M_in_7 : decode b_M_in 7 = .ok (.if_icmp .gt 7, 3) := by decide +kernel
theorem d_M_in_10 : decode b_M_in 10 = .ok (.iconst 1, 1) := by decide +kernel
theorem d_M_in_11 : decode b_M_in 11 = .ok (.goto 4, 3) := by decide +kernel
theorem d_M_in_14 : decode b_M_in 14 = .ok (.iconst 0, 1) := by decide +kernel
theorem d_M_in_15 : decode b_M_in 15 = .ok (.ireturn, 1) := by decide +kernel
theorem d_M_parentOf_0 : decode b_M_parentOf 0 = .ok (.iload_n 0, 1) := by decide +kernel
theorem d_M_parentOf_1 : decode b_M_parentOf 1 = .ok (.ifCond .ne 7, 3) := by decide +kernel
theorem d_M_parentOf_4 : decode b_M_parentOf 4 = .ok (.iconst (-1), 1) := by decide +kernel
theorem d_M_parentOf_5 : decode b_M_parentOf 5 = .ok (.goto 13, 3) := by decide +kernel
theorem d_M_parentOf_8 : decode b_M_parentOf 8 = .ok (.iload_n 0, 1) := by decide +kernel
theorem d_M_parentOf_9 : decode b_M_parentOf 9 = .ok (.iconst 2, 1) := by decide +kernel
theorem d_M_parentOf_10 : decode b_M_parentOf 10 = .ok (.if_icmp .ne 7, 3) := by decide +kernel
theorem d_M_parentOf_13 : decode b_M_parentOf 13 = .ok (.iconst 1, 1) := by decide +kernel
theorem d_M_parentOf_14 : decode b_M_parentOf 14 = .ok (.goto 4, 3) := by decide +kernel
theorem d_M_parentOf_17 : decode b_M_parentOf 17 = .ok (.iconst 0, 1) := by decide +kernel
theorem d_M_parentOf_18 : decode b_M_parentOf 18 = .ok (.ireturn, 1) := by decide +kernel
theorem d_M_open_0 : decode b_M_open 0 = .ok (.iload_n 1, 1) := by decide +kernel
theorem d_M_open_1 : decode b_M_open 1 = .ok (.iconst 0, 1) := by decide +kernel
theorem d_M_open_2 : decode b_M_open 2 = .ok (.iconst 3, 1) := by decide +kernel
theorem d_M_open_3 : decode b_M_open 3 = .ok (.invokestatic 118, 3) := by decide +kernel
theorem d_M_open_6 : decode b_M_open 6 = .ok (.ifCond .ne 5, 3) := by decide +kernel
theorem d_M_open_9 : decode b_M_open 9 = .ok (.iconst (-1), 1) := by decide +kernel
theorem d_M_open_10 : decode b_M_open 10 = .ok (.ireturn, 1) := by decide +kernel
theorem d_M_open_11 : decode b_M_open 11 = .ok (.aload_n 0, 1) := by decide +kernel
theorem d_M_open_12 : decode b_M_open 12 = .ok (.getfield 122, 3) := by decide +kernel
theorem d_M_open_15 : decode b_M_open 15 = .ok (.ifCond .ne 10, 3) := by decide +kernel
theorem d_M_open_18 : decode b_M_open 18 = .ok (.iload_n 1, 1) := by decide +kernel
theorem d_M_open_19 : decode b_M_open 19 = .ok (.ifCond .eq 32, 3) := by decide +kernel
theorem d_M_open_22 : decode b_M_open 22 = .ok (.goto 26, 3) := by decide +kernel
theorem d_M_open_25 : decode b_M_open 25 = .ok (.aload_n 0, 1) := by decide +kernel
theorem d_M_open_26 : decode b_M_open 26 = .ok (.getfield 29, 3) := by decide +kernel
theorem d_M_open_29 : decode b_M_open 29 = .ok (.ifCond .lt 19, 3) := by decide +kernel
theorem d_M_open_32 : decode b_M_open 32 = .ok (.aload_n 0, 1) := by decide +kernel
theorem d_M_open_33 : decode b_M_open 33 = .ok (.getfield 7, 3) := by decide +kernel
theorem d_M_open_36 : decode b_M_open 36 = .ok (.aload_n 0, 1) := by decide +kernel
theorem d_M_open_37 : decode b_M_open 37 = .ok (.getfield 29, 3) := by decide +kernel
theorem d_M_open_40 : decode b_M_open 40 = .ok (.iaload, 1) := by decide +kernel
theorem d_M_open_41 : decode b_M_open 41 = .ok (.iload_n 1, 1) := by decide +kernel
theorem d_M_open_42 : decode b_M_open 42 = .ok (.invokestatic 125, 3) := by decide +kernel
theorem d_M_open_45 : decode b_M_open 45 = .ok (.if_icmp .eq 6, 3) := by decide +kernel
theorem d_M_open_48 : decode b_M_open 48 = .ok (.bipush (-2), 2) := by decide +kernel
theorem d_M_open_50 : decode b_M_open 50 = .ok (.ireturn, 1) := by decide +kernel
theorem d_M_open_51 : decode b_M_open 51 = .ok (.aload_n 0, 1) := by decide +kernel
theorem d_M_open_52 : decode b_M_open 52 = .ok (.getfield 122, 3) := by decide +kernel
theorem d_M_open_55 : decode b_M_open 55 = .ok (.bipush 10, 2) := by decide +kernel
theorem d_M_open_57 : decode b_M_open 57 = .ok (.if_icmp .ne 6, 3) := by decide +kernel
theorem d_M_open_60 : decode b_M_open 60 = .ok (.bipush (-3), 2) := by decide +kernel
theorem d_M_open_62 : decode b_M_open 62 = .ok (.ireturn, 1) := by decide +kernel
theorem d_M_open_63 : decode b_M_open 63 = .ok (.aload_n 0, 1) := by decide +kernel
theorem d_M_open_64 : decode b_M_open 64 = .ok (.getfield 7, 3) := by decide +kernel
theorem d_M_open_67 : decode b_M_open 67 = .ok (.aload_n 0, 1) := by decide +kernel
theorem d_M_open_68 : decode b_M_open 68 = .ok (.getfield 122, 3) := by decide +kernel
theorem d_M_open_71 : decode b_M_open 71 = .ok (.iload_n 1, 1) := by decide +kernel
theorem d_M_open_72 : decode b_M_open 72 = .ok (.iastore, 1) := by decide +kernel
theorem d_M_open_73 : decode b_M_open 73 = .ok (.aload_n 0, 1) := by decide +kernel
theorem d_M_open_74 : decode b_M_open 74 = .ok (.getfield 13, 3) := by decide +kernel
theorem d_M_open_77 : decode b_M_open 77 = .ok (.aload_n 0, 1) := by decide +kernel
theorem d_M_open_78 : decode b_M_open 78 = .ok (.getfield 122, 3) := by decide +kernel
theorem d_M_open_81 : decode b_M_open 81 = .ok (.aload_n 0, 1) := by decide +kernel
theorem d_M_open_82 : decode b_M_open 82 = .ok (.getfield 29, 3) := by decide +kernel
theorem d_M_open_85 : decode b_M_open 85 = .ok (.iastore, 1) := by decide +kernel
theorem d_M_open_86 : decode b_M_open 86 = .ok (.aload_n 0, 1) := by decide +kernel
theorem d_M_open_87 : decode b_M_open 87 = .ok (.getfield 16, 3) := by decide +kernel
theorem d_M_open_90 : decode b_M_open 90 = .ok (.aload_n 0, 1) := by decide +kernel
theorem d_M_open_91 : decode b_M_open 91 = .ok (.getfield 122, 3) := by decide +kernel
theorem d_M_open_94 : decode b_M_open 94 = .ok (.iconst (-1), 1) := by decide +kernel
theorem d_M_open_95 : decode b_M_open 95 = .ok (.iastore, 1) := by decide +kernel
theorem d_M_open_96 : decode b_M_open 96 = .ok (.iconst 0, 1) := by decide +kernel
theorem d_M_open_97 : decode b_M_open 97 = .ok (.istore_n 2, 1) := by decide +kernel
theorem d_M_open_98 : decode b_M_open 98 = .ok (.iload_n 2, 1) := by decide +kernel
theorem d_M_open_99 : decode b_M_open 99 = .ok (.iconst 4, 1) := by decide +kernel
theorem d_M_open_100 : decode b_M_open 100 = .ok (.if_icmp .ge 51, 3) := by decide +kernel
theorem d_M_open_103 : decode b_M_open 103 = .ok (.aload_n 0, 1) := by decide +kernel
theorem d_M_open_104 : decode b_M_open 104 = .ok (.getfield 19, 3) := by decide +kernel
theorem d_M_open_107 : decode b_M_open 107 = .ok (.iconst 4, 1) := by decide +kernel
theorem d_M_open_108 : decode b_M_open 108 = .ok (.aload_n 0, 1) := by decide +kernel
theorem d_M_open_109 : decode b_M_open 109 = .ok (.getfield 122, 3) := by decide +kernel
theorem d_M_open_112 : decode b_M_open 112 = .ok (.imul, 1) := by decide +kernel
theorem d_M_open_113 : decode b_M_open 113 = .ok (.iload_n 2, 1) := by decide +kernel
theorem d_M_open_114 : decode b_M_open 114 = .ok (.iadd, 1) := by decide +kernel
theorem d_M_open_115 : decode b_M_open 115 = .ok (.iconst 0, 1) := by decide +kernel
theorem d_M_open_116 : decode b_M_open 116 = .ok (.iastore, 1) := by decide +kernel
theorem d_M_open_117 : decode b_M_open 117 = .ok (.aload_n 0, 1) := by decide +kernel
theorem d_M_open_118 : decode b_M_open 118 = .ok (.getfield 22, 3) := by decide +kernel
theorem d_M_open_121 : decode b_M_open 121 = .ok (.iconst 4, 1) := by decide +kernel
theorem d_M_open_122 : decode b_M_open 122 = .ok (.aload_n 0, 1) := by decide +kernel
theorem d_M_open_123 : decode b_M_open 123 = .ok (.getfield 122, 3) := by decide +kernel
theorem d_M_open_126 : decode b_M_open 126 = .ok (.imul, 1) := by decide +kernel
theorem d_M_open_127 : decode b_M_open 127 = .ok (.iload_n 2, 1) := by decide +kernel
theorem d_M_open_128 : decode b_M_open 128 = .ok (.iadd, 1) := by decide +kernel
theorem d_M_open_129 : decode b_M_open 129 = .ok (.iconst 0, 1) := by decide +kernel
theorem d_M_open_130 : decode b_M_open 130 = .ok (.iastore, 1) := by decide +kernel
theorem d_M_open_131 : decode b_M_open 131 = .ok (.aload_n 0, 1) := by decide +kernel
theorem d_M_open_132 : decode b_M_open 132 = .ok (.getfield 25, 3) := by decide +kernel
theorem d_M_open_135 : decode b_M_open 135 = .ok (.iconst 4, 1) := by decide +kernel
theorem d_M_open_136 : decode b_M_open 136 = .ok (.aload_n 0, 1) := by decide +kernel
theorem d_M_open_137 : decode b_M_open 137 = .ok (.getfield 122, 3) := by decide +kernel
theorem d_M_open_140 : decode b_M_open 140 = .ok (.imul, 1) := by decide +kernel
theorem d_M_open_141 : decode b_M_open 141 = .ok (.iload_n 2, 1) := by decide +kernel
theorem d_M_open_142 : decode b_M_open 142 = .ok (.iadd, 1) := by decide +kernel
theorem d_M_open_143 : decode b_M_open 143 = .ok (.lconst 0, 1) := by decide +kernel
theorem d_M_open_144 : decode b_M_open 144 = .ok (.lastore, 1) := by decide +kernel
theorem d_M_open_145 : decode b_M_open 145 = .ok (.iinc 2 1, 3) := by decide +kernel
theorem d_M_open_148 : decode b_M_open 148 = .ok (.goto (-50), 3) := by decide +kernel
theorem d_M_open_151 : decode b_M_open 151 = .ok (.aload_n 0, 1) := by decide +kernel
theorem d_M_open_152 : decode b_M_open 152 = .ok (.aload_n 0, 1) := by decide +kernel
theorem d_M_open_153 : decode b_M_open 153 = .ok (.getfield 122, 3) := by decide +kernel
theorem d_M_open_156 : decode b_M_open 156 = .ok (.putfield 29, 3) := by decide +kernel
theorem d_M_open_159 : decode b_M_open 159 = .ok (.aload_n 0, 1) := by decide +kernel
theorem d_M_open_160 : decode b_M_open 160 = .ok (.dup, 1) := by decide +kernel
theorem d_M_open_161 : decode b_M_open 161 = .ok (.getfield 122, 3) := by decide +kernel
theorem d_M_open_164 : decode b_M_open 164 = .ok (.iconst 1, 1) := by decide +kernel
theorem d_M_open_165 : decode b_M_open 165 = .ok (.iadd, 1) := by decide +kernel
theorem d_M_open_166 : decode b_M_open 166 = .ok (.putfield 122, 3) := by decide +kernel
theorem d_M_open_169 : decode b_M_open 169 = .ok (.aload_n 0, 1) := by decide +kernel
theorem d_M_open_170 : decode b_M_open 170 = .ok (.getfield 122, 3) := by decide +kernel
theorem d_M_open_173 : decode b_M_open 173 = .ok (.ireturn, 1) := by decide +kernel
theorem d_M_number_0 : decode b_M_number 0 = .ok (.iload_n 1, 1) := by decide +kernel
theorem d_M_number_1 : decode b_M_number 1 = .ok (.iconst 0, 1) := by decide +kernel
theorem d_M_number_2 : decode b_M_number 2 = .ok (.iconst 3, 1) := by decide +kernel
theorem d_M_number_3 : decode b_M_number 3 = .ok (.invokestatic 118, 3) := by decide +kernel
theorem d_M_number_6 : decode b_M_number 6 = .ok (.ifCond .eq 23, 3) := by decide +kernel
theorem d_M_number_9 : decode b_M_number 9 = .ok (.iload_n 2, 1) := by decide +kernel
theorem d_M_number_10 : decode b_M_number 10 = .ok (.sipush (-1000), 3) := by decide +kernel
theorem d_M_number_13 : decode b_M_number 13 = .ok (.sipush 1000, 3) := by decide +kernel
theorem d_M_number_16 : decode b_M_number 16 = .ok (.invokestatic 118, 3) := by decide +kernel
theorem d_M_number_19 : decode b_M_number 19 = .ok (.ifCond .eq 10, 3) := by decide +kernel
theorem d_M_number_22 : decode b_M_number 22 = .ok (.aload_n 0, 1) := by decide +kernel
theorem d_M_number_23 : decode b_M_number 23 = .ok (.getfield 29, 3) := by decide +kernel
theorem d_M_number_26 : decode b_M_number 26 = .ok (.ifCond .ge 5, 3) := by decide +kernel
theorem d_M_number_29 : decode b_M_number 29 = .ok (.iconst 0, 1) := by decide +kernel
theorem d_M_number_30 : decode b_M_number 30 = .ok (.ireturn, 1) := by decide +kernel
theorem d_M_number_31 : decode b_M_number 31 = .ok (.aload_n 0, 1) := by decide +kernel
theorem d_M_number_32 : decode b_M_number 32 = .ok (.getfield 19, 3) := by decide +kernel
theorem d_M_number_35 : decode b_M_number 35 = .ok (.iconst 4, 1) := by decide +kernel
theorem d_M_number_36 : decode b_M_number 36 = .ok (.aload_n 0, 1) := by decide +kernel
theorem d_M_number_37 : decode b_M_number 37 = .ok (.getfield 29, 3) := by decide +kernel
theorem d_M_number_40 : decode b_M_number 40 = .ok (.imul, 1) := by decide +kernel
theorem d_M_number_41 : decode b_M_number 41 = .ok (.iload_n 1, 1) := by decide +kernel
theorem d_M_number_42 : decode b_M_number 42 = .ok (.iadd, 1) := by decide +kernel
theorem d_M_number_43 : decode b_M_number 43 = .ok (.iconst 1, 1) := by decide +kernel
theorem d_M_number_44 : decode b_M_number 44 = .ok (.iastore, 1) := by decide +kernel
theorem d_M_number_45 : decode b_M_number 45 = .ok (.aload_n 0, 1) := by decide +kernel
theorem d_M_number_46 : decode b_M_number 46 = .ok (.getfield 22, 3) := by decide +kernel
theorem d_M_number_49 : decode b_M_number 49 = .ok (.iconst 4, 1) := by decide +kernel
theorem d_M_number_50 : decode b_M_number 50 = .ok (.aload_n 0, 1) := by decide +kernel
theorem d_M_number_51 : decode b_M_number 51 = .ok (.getfield 29, 3) := by decide +kernel
theorem d_M_number_54 : decode b_M_number 54 = .ok (.imul, 1) := by decide +kernel
theorem d_M_number_55 : decode b_M_number 55 = .ok (.iload_n 1, 1) := by decide +kernel
theorem d_M_number_56 : decode b_M_number 56 = .ok (.iadd, 1) := by decide +kernel
theorem d_M_number_57 : decode b_M_number 57 = .ok (.iload_n 2, 1) := by decide +kernel
theorem d_M_number_58 : decode b_M_number 58 = .ok (.iastore, 1) := by decide +kernel
theorem d_M_number_59 : decode b_M_number 59 = .ok (.iconst 1, 1) := by decide +kernel
theorem d_M_number_60 : decode b_M_number 60 = .ok (.ireturn, 1) := by decide +kernel
theorem d_M_word_0 : decode b_M_word 0 = .ok (.iload_n 1, 1) := by decide +kernel
theorem d_M_word_1 : decode b_M_word 1 = .ok (.iconst 0, 1) := by decide +kernel
theorem d_M_word_2 : decode b_M_word 2 = .ok (.iconst 3, 1) := by decide +kernel
theorem d_M_word_3 : decode b_M_word 3 = .ok (.invokestatic 118, 3) := by decide +kernel
theorem d_M_word_6 : decode b_M_word 6 = .ok (.ifCond .eq 13, 3) := by decide +kernel
theorem d_M_word_9 : decode b_M_word 9 = .ok (.iload_n 2, 1) := by decide +kernel
theorem d_M_word_10 : decode b_M_word 10 = .ok (.iconst 0, 1) := by decide +kernel
theorem d_M_word_11 : decode b_M_word 11 = .ok (.bipush 25, 2) := by decide +kernel
theorem d_M_word_13 : decode b_M_word 13 = .ok (.invokestatic 118, 3) := by decide +kernel
theorem d_M_word_16 : decode b_M_word 16 = .ok (.ifCond .ne 5, 3) := by decide +kernel
theorem d_M_word_19 : decode b_M_word 19 = .ok (.iconst (-1), 1) := by decide +kernel
theorem d_M_word_20 : decode b_M_word 20 = .ok (.ireturn, 1) := by decide +kernel
theorem d_M_word_21 : decode b_M_word 21 = .ok (.aload_n 0, 1) := by decide +kernel
theorem d_M_word_22 : decode b_M_word 22 = .ok (.getfield 29, 3) := by decide +kernel
theorem d_M_word_25 : decode b_M_word 25 = .ok (.ifCond .ge 6, 3) := by decide +kernel
theorem d_M_word_28 : decode b_M_word 28 = .ok (.bipush (-2), 2) := by decide +kernel
theorem d_M_word_30 : decode b_M_word 30 = .ok (.ireturn, 1) := by decide +kernel
theorem d_M_word_31 : decode b_M_word 31 = .ok (.iconst 4, 1) := by decide +kernel
theorem d_M_word_32 : decode b_M_word 32 = .ok (.aload_n 0, 1) := by decide +kernel
theorem d_M_word_33 : decode b_M_word 33 = .ok (.getfield 29, 3) := by decide +kernel
theorem d_M_word_36 : decode b_M_word 36 = .ok (.imul, 1) := by decide +kernel
theorem d_M_word_37 : decode b_M_word 37 = .ok (.iload_n 1, 1) := by decide +kernel
theorem d_M_word_38 : decode b_M_word 38 = .ok (.iadd, 1) := by decide +kernel
theorem d_M_word_39 : decode b_M_word 39 = .ok (.istore_n 3, 1) := by decide +kernel
theorem d_M_word_40 : decode b_M_word 40 = .ok (.aload_n 0, 1) := by decide +kernel
theorem d_M_word_41 : decode b_M_word 41 = .ok (.getfield 19, 3) := by decide +kernel
theorem d_M_word_44 : decode b_M_word 44 = .ok (.iload_n 3, 1) := by decide +kernel
theorem d_M_word_45 : decode b_M_word 45 = .ok (.iaload, 1) := by decide +kernel
theorem d_M_word_46 : decode b_M_word 46 = .ok (.iconst 1, 1) := by decide +kernel
theorem d_M_word_47 : decode b_M_word 47 = .ok (.if_icmp .ne 6, 3) := by decide +kernel
theorem d_M_word_50 : decode b_M_word 50 = .ok (.bipush (-4), 2) := by decide +kernel
theorem d_M_word_52 : decode b_M_word 52 = .ok (.ireturn, 1) := by decide +kernel
theorem d_M_word_53 : decode b_M_word 53 = .ok (.aload_n 0, 1) := by decide +kernel
theorem d_M_word_54 : decode b_M_word 54 = .ok (.getfield 19, 3) := by decide +kernel
theorem d_M_word_57 : decode b_M_word 57 = .ok (.iload_n 3, 1) := by decide +kernel
theorem d_M_word_58 : decode b_M_word 58 = .ok (.iaload, 1) := by decide +kernel
theorem d_M_word_59 : decode b_M_word 59 = .ok (.iconst 2, 1) := by decide +kernel
theorem d_M_word_60 : decode b_M_word 60 = .ok (.if_icmp .ne 17, 3) := by decide +kernel
theorem d_M_word_63 : decode b_M_word 63 = .ok (.aload_n 0, 1) := by decide +kernel
theorem d_M_word_64 : decode b_M_word 64 = .ok (.getfield 22, 3) := by decide +kernel
theorem d_M_word_67 : decode b_M_word 67 = .ok (.iload_n 3, 1) := by decide +kernel
theorem d_M_word_68 : decode b_M_word 68 = .ok (.iaload, 1) := by decide +kernel
theorem d_M_word_69 : decode b_M_word 69 = .ok (.bipush 8, 2) := by decide +kernel
theorem d_M_word_71 : decode b_M_word 71 = .ok (.if_icmp .ne 6, 3) := by decide +kernel
theorem d_M_word_74 : decode b_M_word 74 = .ok (.bipush (-3), 2) := by decide +kernel
theorem d_M_word_76 : decode b_M_word 76 = .ok (.ireturn, 1) := by decide +kernel
theorem d_M_word_77 : decode b_M_word 77 = .ok (.aload_n 0, 1) := by decide +kernel
theorem d_M_word_78 : decode b_M_word 78 = .ok (.getfield 19, 3) := by decide +kernel
theorem d_M_word_81 : decode b_M_word 81 = .ok (.iload_n 3, 1) := by decide +kernel
theorem d_M_word_82 : decode b_M_word 82 = .ok (.iaload, 1) := by decide +kernel
theorem d_M_word_83 : decode b_M_word 83 = .ok (.ifCond .ne 24, 3) := by decide +kernel
theorem d_M_word_86 : decode b_M_word 86 = .ok (.aload_n 0, 1) := by decide +kernel
theorem d_M_word_87 : decode b_M_word 87 = .ok (.getfield 19, 3) := by decide +kernel
theorem d_M_word_90 : decode b_M_word 90 = .ok (.iload_n 3, 1) := by decide +kernel
theorem d_M_word_91 : decode b_M_word 91 = .ok (.iconst 2, 1) := by decide +kernel
theorem d_M_word_92 : decode b_M_word 92 = .ok (.iastore, 1) := by decide +kernel
theorem d_M_word_93 : decode b_M_word 93 = .ok (.aload_n 0, 1) := by decide +kernel
theorem d_M_word_94 : decode b_M_word 94 = .ok (.getfield 22, 3) := by decide +kernel
theorem d_M_word_97 : decode b_M_word 97 = .ok (.iload_n 3, 1) := by decide +kernel
theorem d_M_word_98 : decode b_M_word 98 = .ok (.iconst 0, 1) := by decide +kernel
theorem d_M_word_99 : decode b_M_word 99 = .ok (.iastore, 1) := by decide +kernel
theorem d_M_word_100 : decode b_M_word 100 = .ok (.aload_n 0, 1) := by decide +kernel
theorem d_M_word_101 : decode b_M_word 101 = .ok (.getfield 25, 3) := by decide +kernel
theorem d_M_word_104 : decode b_M_word 104 = .ok (.iload_n 3, 1) := by decide +kernel
theorem d_M_word_105 : decode b_M_word 105 = .ok (.lconst 0, 1) := by decide +kernel
theorem d_M_word_106 : decode b_M_word 106 = .ok (.lastore, 1) := by decide +kernel
theorem d_M_word_107 : decode b_M_word 107 = .ok (.aload_n 0, 1) := by decide +kernel
theorem d_M_word_108 : decode b_M_word 108 = .ok (.getfield 25, 3) := by decide +kernel
theorem d_M_word_111 : decode b_M_word 111 = .ok (.iload_n 3, 1) := by decide +kernel
theorem d_M_word_112 : decode b_M_word 112 = .ok (.dup2, 1) := by decide +kernel
theorem d_M_word_113 : decode b_M_word 113 = .ok (.laload, 1) := by decide +kernel
theorem d_M_word_114 : decode b_M_word 114 = .ok (.iload_n 2, 1) := by decide +kernel
theorem d_M_word_115 : decode b_M_word 115 = .ok (.i2l, 1) := by decide +kernel
theorem d_M_word_116 : decode b_M_word 116 = .ok (.iconst 5, 1) := by decide +kernel
theorem d_M_word_117 : decode b_M_word 117 = .ok (.aload_n 0, 1) := by decide +kernel
theorem d_M_word_118 : decode b_M_word 118 = .ok (.getfield 22, 3) := by decide +kernel
theorem d_M_word_121 : decode b_M_word 121 = .ok (.iload_n 3, 1) := by decide +kernel
theorem d_M_word_122 : decode b_M_word 122 = .ok (.iaload, 1) := by decide +kernel
theorem d_M_word_123 : decode b_M_word 123 = .ok (.imul, 1) := by decide +kernel
theorem d_M_word_124 : decode b_M_word 124 = .ok (.lshl, 1) := by decide +kernel
theorem d_M_word_125 : decode b_M_word 125 = .ok (.lor, 1) := by decide +kernel
theorem d_M_word_126 : decode b_M_word 126 = .ok (.lastore, 1) := by decide +kernel
theorem d_M_word_127 : decode b_M_word 127 = .ok (.aload_n 0, 1) := by decide +kernel
theorem d_M_word_128 : decode b_M_word 128 = .ok (.getfield 22, 3) := by decide +kernel
theorem d_M_word_131 : decode b_M_word 131 = .ok (.iload_n 3, 1) := by decide +kernel
theorem d_M_word_132 : decode b_M_word 132 = .ok (.dup2, 1) := by decide +kernel
theorem d_M_word_133 : decode b_M_word 133 = .ok (.iaload, 1) := by decide +kernel
theorem d_M_word_134 : decode b_M_word 134 = .ok (.iconst 1, 1) := by decide +kernel
theorem d_M_word_135 : decode b_M_word 135 = .ok (.iadd, 1) := by decide +kernel
theorem d_M_word_136 : decode b_M_word 136 = .ok (.iastore, 1) := by decide +kernel
theorem d_M_word_137 : decode b_M_word 137 = .ok (.aload_n 0, 1) := by decide +kernel
theorem d_M_word_138 : decode b_M_word 138 = .ok (.getfield 22, 3) := by decide +kernel
theorem d_M_word_141 : decode b_M_word 141 = .ok (.iload_n 3, 1) := by decide +kernel
theorem d_M_word_142 : decode b_M_word 142 = .ok (.iaload, 1) := by decide +kernel
theorem d_M_word_143 : decode b_M_word 143 = .ok (.ireturn, 1) := by decide +kernel
theorem d_M_close_0 : decode b_M_close 0 = .ok (.aload_n 0, 1) := by decide +kernel
theorem d_M_close_1 : decode b_M_close 1 = .ok (.getfield 29, 3) := by decide +kernel
theorem d_M_close_4 : decode b_M_close 4 = .ok (.ifCond .ge 6, 3) := by decide +kernel
theorem d_M_close_7 : decode b_M_close 7 = .ok (.bipush (-2), 2) := by decide +kernel
theorem d_M_close_9 : decode b_M_close 9 = .ok (.ireturn, 1) := by decide +kernel
theorem d_M_close_10 : decode b_M_close 10 = .ok (.aload_n 0, 1) := by decide +kernel
theorem d_M_close_11 : decode b_M_close 11 = .ok (.getfield 16, 3) := by decide +kernel
theorem d_M_close_14 : decode b_M_close 14 = .ok (.aload_n 0, 1) := by decide +kernel
theorem d_M_close_15 : decode b_M_close 15 = .ok (.getfield 29, 3) := by decide +kernel
theorem d_M_close_18 : decode b_M_close 18 = .ok (.aload_n 0, 1) := by decide +kernel
theorem d_M_close_19 : decode b_M_close 19 = .ok (.getfield 129, 3) := by decide +kernel
theorem d_M_close_22 : decode b_M_close 22 = .ok (.iastore, 1) := by decide +kernel
theorem d_M_close_23 : decode b_M_close 23 = .ok (.aload_n 0, 1) := by decide +kernel
theorem d_M_close_24 : decode b_M_close 24 = .ok (.dup, 1) := by decide +kernel
theorem d_M_close_25 : decode b_M_close 25 = .ok (.getfield 129, 3) := by decide +kernel
theorem d_M_close_28 : decode b_M_close 28 = .ok (.iconst 1, 1) := by decide +kernel
theorem d_M_close_29 : decode b_M_close 29 = .ok (.iadd, 1) := by decide +kernel
theorem d_M_close_30 : decode b_M_close 30 = .ok (.putfield 129, 3) := by decide +kernel
theorem d_M_close_33 : decode b_M_close 33 = .ok (.aload_n 0, 1) := by decide +kernel
theorem d_M_close_34 : decode b_M_close 34 = .ok (.aload_n 0, 1) := by decide +kernel
theorem d_M_close_35 : decode b_M_close 35 = .ok (.getfield 13, 3) := by decide +kernel
theorem d_M_close_38 : decode b_M_close 38 = .ok (.aload_n 0, 1) := by decide +kernel
theorem d_M_close_39 : decode b_M_close 39 = .ok (.getfield 29, 3) := by decide +kernel
theorem d_M_close_42 : decode b_M_close 42 = .ok (.iaload, 1) := by decide +kernel
theorem d_M_close_43 : decode b_M_close 43 = .ok (.putfield 29, 3) := by decide +kernel
theorem d_M_close_46 : decode b_M_close 46 = .ok (.aload_n 0, 1) := by decide +kernel
theorem d_M_close_47 : decode b_M_close 47 = .ok (.getfield 122, 3) := by decide +kernel
theorem d_M_close_50 : decode b_M_close 50 = .ok (.aload_n 0, 1) := by decide +kernel
theorem d_M_close_51 : decode b_M_close 51 = .ok (.getfield 129, 3) := by decide +kernel
theorem d_M_close_54 : decode b_M_close 54 = .ok (.isub, 1) := by decide +kernel
theorem d_M_close_55 : decode b_M_close 55 = .ok (.ireturn, 1) := by decide +kernel
theorem d_M_wipe_0 : decode b_M_wipe 0 = .ok (.aload_n 0, 1) := by decide +kernel
theorem d_M_wipe_1 : decode b_M_wipe 1 = .ok (.getfield 122, 3) := by decide +kernel
theorem d_M_wipe_4 : decode b_M_wipe 4 = .ok (.istore_n 1, 1) := by decide +kernel
theorem d_M_wipe_5 : decode b_M_wipe 5 = .ok (.aload_n 0, 1) := by decide +kernel
theorem d_M_wipe_6 : decode b_M_wipe 6 = .ok (.iconst 0, 1) := by decide +kernel
theorem d_M_wipe_7 : decode b_M_wipe 7 = .ok (.putfield 122, 3) := by decide +kernel
theorem d_M_wipe_10 : decode b_M_wipe 10 = .ok (.aload_n 0, 1) := by decide +kernel
theorem d_M_wipe_11 : decode b_M_wipe 11 = .ok (.iconst 0, 1) := by decide +kernel
theorem d_M_wipe_12 : decode b_M_wipe 12 = .ok (.putfield 129, 3) := by decide +kernel
theorem d_M_wipe_15 : decode b_M_wipe 15 = .ok (.aload_n 0, 1) := by decide +kernel
theorem d_M_wipe_16 : decode b_M_wipe 16 = .ok (.iconst (-1), 1) := by decide +kernel
theorem d_M_wipe_17 : decode b_M_wipe 17 = .ok (.putfield 29, 3) := by decide +kernel
theorem d_M_wipe_20 : decode b_M_wipe 20 = .ok (.iload_n 1, 1) := by decide +kernel
theorem d_M_wipe_21 : decode b_M_wipe 21 = .ok (.ireturn, 1) := by decide +kernel
theorem d_M_inBuffer_0 : decode b_M_inBuffer 0 = .ok (.iconst 0, 1) := by decide +kernel
theorem d_M_inBuffer_1 : decode b_M_inBuffer 1 = .ok (.istore_n 1, 1) := by decide +kernel
theorem d_M_inBuffer_2 : decode b_M_inBuffer 2 = .ok (.iconst 0, 1) := by decide +kernel
theorem d_M_inBuffer_3 : decode b_M_inBuffer 3 = .ok (.istore_n 2, 1) := by decide +kernel
theorem d_M_inBuffer_4 : decode b_M_inBuffer 4 = .ok (.iload_n 2, 1) := by decide +kernel
theorem d_M_inBuffer_5 : decode b_M_inBuffer 5 = .ok (.aload_n 0, 1) := by decide +kernel
theorem d_M_inBuffer_6 : decode b_M_inBuffer 6 = .ok (.getfield 132, 3) := by decide +kernel
theorem d_M_inBuffer_9 : decode b_M_inBuffer 9 = .ok (.if_icmp .ge 28, 3) := by decide +kernel
theorem d_M_inBuffer_12 : decode b_M_inBuffer 12 = .ok (.aload_n 0, 1) := by decide +kernel
theorem d_M_inBuffer_13 : decode b_M_inBuffer 13 = .ok (.getfield 45, 3) := by decide +kernel
theorem d_M_inBuffer_16 : decode b_M_inBuffer 16 = .ok (.iload_n 2, 1) := by decide +kernel
theorem d_M_inBuffer_17 : decode b_M_inBuffer 17 = .ok (.iaload, 1) := by decide +kernel
theorem d_M_inBuffer_18 : decode b_M_inBuffer 18 = .ok (.iconst (-1), 1) := by decide +kernel
theorem d_M_inBuffer_19 : decode b_M_inBuffer 19 = .ok (.if_icmp .ne 12, 3) := by decide +kernel
theorem d_M_inBuffer_22 : decode b_M_inBuffer 22 = .ok (.iload_n 1, 1) := by decide +kernel
theorem d_M_inBuffer_23 : decode b_M_inBuffer 23 = .ok (.aload_n 0, 1) := by decide +kernel
theorem d_M_inBuffer_24 : decode b_M_inBuffer 24 = .ok (.getfield 39, 3) := by decide +kernel
theorem d_M_inBuffer_27 : decode b_M_inBuffer 27 = .ok (.iload_n 2, 1) := by decide +kernel
theorem d_M_inBuffer_28 : decode b_M_inBuffer 28 = .ok (.iaload, 1) := by decide +kernel
theorem d_M_inBuffer_29 : decode b_M_inBuffer 29 = .ok (.iadd, 1) := by decide +kernel
theorem d_M_inBuffer_30 : decode b_M_inBuffer 30 = .ok (.istore_n 1, 1) := by decide +kernel
theorem d_M_inBuffer_31 : decode b_M_inBuffer 31 = .ok (.iinc 2 1, 3) := by decide +kernel
theorem d_M_inBuffer_34 : decode b_M_inBuffer 34 = .ok (.goto (-30), 3) := by decide +kernel
theorem d_M_inBuffer_37 : decode b_M_inBuffer 37 = .ok (.iload_n 1, 1) := by decide +kernel
theorem d_M_inBuffer_38 : decode b_M_inBuffer 38 = .ok (.ireturn, 1) := by decide +kernel
theorem d_M_conflicts_0 : decode b_M_conflicts 0 = .ok (.iconst 0, 1) := by decide +kernel
theorem d_M_conflicts_1 : decode b_M_conflicts 1 = .ok (.istore_n 1, 1) := by decide +kernel
theorem d_M_conflicts_2 : decode b_M_conflicts 2 = .ok (.iload_n 1, 1) := by decide +kernel
theorem d_M_conflicts_3 : decode b_M_conflicts 3 = .ok (.aload_n 0, 1) := by decide +kernel
theorem d_M_conflicts_4 : decode b_M_conflicts 4 = .ok (.getfield 122, 3) := by decide +kernel
theorem d_M_conflicts_7 : decode b_M_conflicts 7 = .ok (.if_icmp .ge 133, 3) := by decide +kernel
theorem d_M_conflicts_10 : decode b_M_conflicts 10 = .ok (.iconst 0, 1) := by decide +kernel
theorem d_M_conflicts_11 : decode b_M_conflicts 11 = .ok (.istore_n 2, 1) := by decide +kernel
theorem d_M_conflicts_12 : decode b_M_conflicts 12 = .ok (.iload_n 2, 1) := by decide +kernel
theorem d_M_conflicts_13 : decode b_M_conflicts 13 = .ok (.iconst 4, 1) := by decide +kernel
theorem d_M_conflicts_14 : decode b_M_conflicts 14 = .ok (.if_icmp .ge 120, 3) := by decide +kernel
theorem d_M_conflicts_17 : decode b_M_conflicts 17 = .ok (.aload_n 0, 1) := by decide +kernel
theorem d_M_conflicts_18 : decode b_M_conflicts 18 = .ok (.getfield 19, 3) := by decide +kernel
theorem d_M_conflicts_21 : decode b_M_conflicts 21 = .ok (.iconst 4, 1) := by decide +kernel
theorem d_M_conflicts_22 : decode b_M_conflicts 22 = .ok (.iload_n 1, 1) := by decide +kernel
theorem d_M_conflicts_23 : decode b_M_conflicts 23 = .ok (.imul, 1) := by decide +kernel
theorem d_M_conflicts_24 : decode b_M_conflicts 24 = .ok (.iload_n 2, 1) := by decide +kernel
theorem d_M_conflicts_25 : decode b_M_conflicts 25 = .ok (.iadd, 1) := by decide +kernel
theorem d_M_conflicts_26 : decode b_M_conflicts 26 = .ok (.iaload, 1) := by decide +kernel
theorem d_M_conflicts_27 : decode b_M_conflicts 27 = .ok (.istore_n 3, 1) := by decide +kernel
theorem d_M_conflicts_28 : decode b_M_conflicts 28 = .ok (.aload_n 0, 1) := by decide +kernel
theorem d_M_conflicts_29 : decode b_M_conflicts 29 = .ok (.getfield 33, 3) := by decide +kernel
theorem d_M_conflicts_32 : decode b_M_conflicts 32 = .ok (.iconst 4, 1) := by decide +kernel
theorem d_M_conflicts_33 : decode b_M_conflicts 33 = .ok (.aload_n 0, 1) := by decide +kernel
theorem d_M_conflicts_34 : decode b_M_conflicts 34 = .ok (.getfield 7, 3) := by decide +kernel
theorem d_M_conflicts_37 : decode b_M_conflicts 37 = .ok (.iload_n 1, 1) := by decide +kernel
theorem d_M_conflicts_38 : decode b_M_conflicts 38 = .ok (.iaload, 1) := by decide +kernel
theorem d_M_conflicts_39 : decode b_M_conflicts 39 = .ok (.imul, 1) := by decide +kernel
theorem d_M_conflicts_40 : decode b_M_conflicts 40 = .ok (.iload_n 2, 1) := by decide +kernel
theorem d_M_conflicts_41 : decode b_M_conflicts 41 = .ok (.iadd, 1) := by decide +kernel
theorem d_M_conflicts_42 : decode b_M_conflicts 42 = .ok (.iaload, 1) := by decide +kernel
theorem d_M_conflicts_43 : decode b_M_conflicts 43 = .ok (.istore 4, 2) := by decide +kernel
theorem d_M_conflicts_45 : decode b_M_conflicts 45 = .ok (.iload_n 3, 1) := by decide +kernel
theorem d_M_conflicts_46 : decode b_M_conflicts 46 = .ok (.ifCond .le 16, 3) := by decide +kernel
theorem d_M_conflicts_49 : decode b_M_conflicts 49 = .ok (.iload 4, 2) := by decide +kernel
theorem d_M_conflicts_51 : decode b_M_conflicts 51 = .ok (.ifCond .le 11, 3) := by decide +kernel
theorem d_M_conflicts_54 : decode b_M_conflicts 54 = .ok (.iload_n 3, 1) := by decide +kernel
theorem d_M_conflicts_55 : decode b_M_conflicts 55 = .ok (.iload 4, 2) := by decide +kernel
theorem d_M_conflicts_57 : decode b_M_conflicts 57 = .ok (.if_icmp .eq 5, 3) := by decide +kernel
theorem d_M_conflicts_60 : decode b_M_conflicts 60 = .ok (.iconst 1, 1) := by decide +kernel
theorem d_M_conflicts_61 : decode b_M_conflicts 61 = .ok (.ireturn, 1) := by decide +kernel
theorem d_M_conflicts_62 : decode b_M_conflicts 62 = .ok (.iconst 0, 1) := by decide +kernel
theorem d_M_conflicts_63 : decode b_M_conflicts 63 = .ok (.istore 5, 2) := by decide +kernel
theorem d_M_conflicts_65 : decode b_M_conflicts 65 = .ok (.iload 5, 2) := by decide +kernel
theorem d_M_conflicts_67 : decode b_M_conflicts 67 = .ok (.iload_n 1, 1) := by decide +kernel
theorem d_M_conflicts_68 : decode b_M_conflicts 68 = .ok (.if_icmp .ge 60, 3) := by decide +kernel
theorem d_M_conflicts_71 : decode b_M_conflicts 71 = .ok (.iload_n 3, 1) := by decide +kernel
theorem d_M_conflicts_72 : decode b_M_conflicts 72 = .ok (.ifCond .le 50, 3) := by decide +kernel
theorem d_M_conflicts_75 : decode b_M_conflicts 75 = .ok (.aload_n 0, 1) := by decide +kernel
theorem d_M_conflicts_76 : decode b_M_conflicts 76 = .ok (.getfield 7, 3) := by decide +kernel
theorem d_M_conflicts_79 : decode b_M_conflicts 79 = .ok (.iload 5, 2) := by decide +kernel
theorem d_M_conflicts_81 : decode b_M_conflicts 81 = .ok (.iaload, 1) := by decide +kernel
theorem d_M_conflicts_82 : decode b_M_conflicts 82 = .ok (.aload_n 0, 1) := by decide +kernel
theorem d_M_conflicts_83 : decode b_M_conflicts 83 = .ok (.getfield 7, 3) := by decide +kernel
theorem d_M_conflicts_86 : decode b_M_conflicts 86 = .ok (.iload_n 1, 1) := by decide +kernel
theorem d_M_conflicts_87 : decode b_M_conflicts 87 = .ok (.iaload, 1) := by decide +kernel
theorem d_M_conflicts_88 : decode b_M_conflicts 88 = .ok (.if_icmp .ne 34, 3) := by decide +kernel
theorem d_M_conflicts_91 : decode b_M_conflicts 91 = .ok (.aload_n 0, 1) := by decide +kernel
theorem d_M_conflicts_92 : decode b_M_conflicts 92 = .ok (.getfield 19, 3) := by decide +kernel
theorem d_M_conflicts_95 : decode b_M_conflicts 95 = .ok (.iconst 4, 1) := by decide +kernel
theorem d_M_conflicts_96 : decode b_M_conflicts 96 = .ok (.iload 5, 2) := by decide +kernel
theorem d_M_conflicts_98 : decode b_M_conflicts 98 = .ok (.imul, 1) := by decide +kernel
theorem d_M_conflicts_99 : decode b_M_conflicts 99 = .ok (.iload_n 2, 1) := by decide +kernel
theorem d_M_conflicts_100 : decode b_M_conflicts 100 = .ok (.iadd, 1) := by decide +kernel
theorem d_M_conflicts_101 : decode b_M_conflicts 101 = .ok (.iaload, 1) := by decide +kernel
theorem d_M_conflicts_102 : decode b_M_conflicts 102 = .ok (.ifCond .le 20, 3) := by decide +kernel
theorem d_M_conflicts_105 : decode b_M_conflicts 105 = .ok (.aload_n 0, 1) := by decide +kernel
theorem d_M_conflicts_106 : decode b_M_conflicts 106 = .ok (.getfield 19, 3) := by decide +kernel
theorem d_M_conflicts_109 : decode b_M_conflicts 109 = .ok (.iconst 4, 1) := by decide +kernel
theorem d_M_conflicts_110 : decode b_M_conflicts 110 = .ok (.iload 5, 2) := by decide +kernel
theorem d_M_conflicts_112 : decode b_M_conflicts 112 = .ok (.imul, 1) := by decide +kernel
theorem d_M_conflicts_113 : decode b_M_conflicts 113 = .ok (.iload_n 2, 1) := by decide +kernel
theorem d_M_conflicts_114 : decode b_M_conflicts 114 = .ok (.iadd, 1) := by decide +kernel
theorem d_M_conflicts_115 : decode b_M_conflicts 115 = .ok (.iaload, 1) := by decide +kernel
theorem d_M_conflicts_116 : decode b_M_conflicts 116 = .ok (.iload_n 3, 1) := by decide +kernel
theorem d_M_conflicts_117 : decode b_M_conflicts 117 = .ok (.if_icmp .eq 5, 3) := by decide +kernel
theorem d_M_conflicts_120 : decode b_M_conflicts 120 = .ok (.iconst 1, 1) := by decide +kernel
theorem d_M_conflicts_121 : decode b_M_conflicts 121 = .ok (.ireturn, 1) := by decide +kernel
theorem d_M_conflicts_122 : decode b_M_conflicts 122 = .ok (.iinc 5 1, 3) := by decide +kernel
theorem d_M_conflicts_125 : decode b_M_conflicts 125 = .ok (.goto (-60), 3) := by decide +kernel
theorem d_M_conflicts_128 : decode b_M_conflicts 128 = .ok (.iinc 2 1, 3) := by decide +kernel
theorem d_M_conflicts_131 : decode b_M_conflicts 131 = .ok (.goto (-119), 3) := by decide +kernel
theorem d_M_conflicts_134 : decode b_M_conflicts 134 = .ok (.iinc 1 1, 3) := by decide +kernel
theorem d_M_conflicts_137 : decode b_M_conflicts 137 = .ok (.goto (-135), 3) := by decide +kernel
theorem d_M_conflicts_140 : decode b_M_conflicts 140 = .ok (.iconst 0, 1) := by decide +kernel
theorem d_M_conflicts_141 : decode b_M_conflicts 141 = .ok (.ireturn, 1) := by decide +kernel
theorem d_M_find_0 : decode b_M_find 0 = .ok (.iconst 0, 1) := by decide +kernel
theorem d_M_find_1 : decode b_M_find 1 = .ok (.istore_n 2, 1) := by decide +kernel
theorem d_M_find_2 : decode b_M_find 2 = .ok (.iload_n 2, 1) := by decide +kernel
theorem d_M_find_3 : decode b_M_find 3 = .ok (.aload_n 0, 1) := by decide +kernel
theorem d_M_find_4 : decode b_M_find 4 = .ok (.getfield 132, 3) := by decide +kernel
theorem d_M_find_7 : decode b_M_find 7 = .ok (.if_icmp .ge 41, 3) := by decide +kernel
theorem d_M_find_10 : decode b_M_find 10 = .ok (.aload_n 0, 1) := by decide +kernel
theorem d_M_find_11 : decode b_M_find 11 = .ok (.getfield 45, 3) := by decide +kernel
theorem d_M_find_14 : decode b_M_find 14 = .ok (.iload_n 2, 1) := by decide +kernel
theorem d_M_find_15 : decode b_M_find 15 = .ok (.iaload, 1) := by decide +kernel
theorem d_M_find_16 : decode b_M_find 16 = .ok (.bipush (-2), 2) := by decide +kernel
theorem d_M_find_18 : decode b_M_find 18 = .ok (.if_icmp .eq 24, 3) := by decide +kernel
theorem d_M_find_21 : decode b_M_find 21 = .ok (.aload_n 0, 1) := by decide +kernel
theorem d_M_find_22 : decode b_M_find 22 = .ok (.getfield 51, 3) := by decide +kernel
theorem d_M_find_25 : decode b_M_find 25 = .ok (.iload_n 2, 1) := by decide +kernel
theorem d_M_find_26 : decode b_M_find 26 = .ok (.baload, 1) := by decide +kernel
theorem d_M_find_27 : decode b_M_find 27 = .ok (.ifCond .eq 15, 3) := by decide +kernel
theorem d_M_find_30 : decode b_M_find 30 = .ok (.aload_n 0, 1) := by decide +kernel
theorem d_M_find_31 : decode b_M_find 31 = .ok (.getfield 42, 3) := by decide +kernel
theorem d_M_find_34 : decode b_M_find 34 = .ok (.iload_n 2, 1) := by decide +kernel
theorem d_M_find_35 : decode b_M_find 35 = .ok (.iaload, 1) := by decide +kernel
theorem d_M_find_36 : decode b_M_find 36 = .ok (.iload_n 1, 1) := by decide +kernel
theorem d_M_find_37 : decode b_M_find 37 = .ok (.if_icmp .ne 5, 3) := by decide +kernel
theorem d_M_find_40 : decode b_M_find 40 = .ok (.iload_n 2, 1) := by decide +kernel
theorem d_M_find_41 : decode b_M_find 41 = .ok (.ireturn, 1) := by decide +kernel
theorem d_M_find_42 : decode b_M_find 42 = .ok (.iinc 2 1, 3) := by decide +kernel
theorem d_M_find_45 : decode b_M_find 45 = .ok (.goto (-43), 3) := by decide +kernel
theorem d_M_find_48 : decode b_M_find 48 = .ok (.iconst (-1), 1) := by decide +kernel
theorem d_M_find_49 : decode b_M_find 49 = .ok (.ireturn, 1) := by decide +kernel
theorem d_M_lay_0 : decode b_M_lay 0 = .ok (.aload_n 0, 1) := by decide +kernel
theorem d_M_lay_1 : decode b_M_lay 1 = .ok (.getfield 135, 3) := by decide +kernel
theorem d_M_lay_4 : decode b_M_lay 4 = .ok (.aload_n 0, 1) := by decide +kernel
theorem d_M_lay_5 : decode b_M_lay 5 = .ok (.getfield 16, 3) := by decide +kernel
theorem d_M_lay_8 : decode b_M_lay 8 = .ok (.iload_n 1, 1) := by decide +kernel
theorem d_M_lay_9 : decode b_M_lay 9 = .ok (.iaload, 1) := by decide +kernel
theorem d_M_lay_10 : decode b_M_lay 10 = .ok (.iadd, 1) := by decide +kernel
theorem d_M_lay_11 : decode b_M_lay 11 = .ok (.istore_n 2, 1) := by decide +kernel
theorem d_M_lay_12 : decode b_M_lay 12 = .ok (.aload_n 0, 1) := by decide +kernel
theorem d_M_lay_13 : decode b_M_lay 13 = .ok (.getfield 58, 3) := by decide +kernel
theorem d_M_lay_16 : decode b_M_lay 16 = .ok (.iload_n 2, 1) := by decide +kernel
theorem d_M_lay_17 : decode b_M_lay 17 = .ok (.aload_n 0, 1) := by decide +kernel
theorem d_M_lay_18 : decode b_M_lay 18 = .ok (.getfield 7, 3) := by decide +kernel
theorem d_M_lay_21 : decode b_M_lay 21 = .ok (.iload_n 1, 1) := by decide +kernel
theorem d_M_lay_22 : decode b_M_lay 22 = .ok (.iaload, 1) := by decide +kernel
theorem d_M_lay_23 : decode b_M_lay 23 = .ok (.iastore, 1) := by decide +kernel
theorem d_M_lay_24 : decode b_M_lay 24 = .ok (.aload_n 0, 1) := by decide +kernel
theorem d_M_lay_25 : decode b_M_lay 25 = .ok (.getfield 61, 3) := by decide +kernel
theorem d_M_lay_28 : decode b_M_lay 28 = .ok (.iload_n 2, 1) := by decide +kernel
theorem d_M_lay_29 : decode b_M_lay 29 = .ok (.aload_n 0, 1) := by decide +kernel
theorem d_M_lay_30 : decode b_M_lay 30 = .ok (.getfield 13, 3) := by decide +kernel
theorem d_M_lay_33 : decode b_M_lay 33 = .ok (.iload_n 1, 1) := by decide +kernel
theorem d_M_lay_34 : decode b_M_lay 34 = .ok (.iaload, 1) := by decide +kernel
theorem d_M_lay_35 : decode b_M_lay 35 = .ok (.ifCond .ge 7, 3) := by decide +kernel
theorem d_M_lay_38 : decode b_M_lay 38 = .ok (.iconst (-1), 1) := by decide +kernel
theorem d_M_lay_39 : decode b_M_lay 39 = .ok (.goto 14, 3) := by decide +kernel
theorem d_M_lay_42 : decode b_M_lay 42 = .ok (.aload_n 0, 1) := by decide +kernel
theorem d_M_lay_43 : decode b_M_lay 43 = .ok (.getfield 16, 3) := by decide +kernel
theorem d_M_lay_46 : decode b_M_lay 46 = .ok (.aload_n 0, 1) := by decide +kernel
theorem d_M_lay_47 : decode b_M_lay 47 = .ok (.getfield 13, 3) := by decide +kernel
theorem d_M_lay_50 : decode b_M_lay 50 = .ok (.iload_n 1, 1) := by decide +kernel
theorem d_M_lay_51 : decode b_M_lay 51 = .ok (.iaload, 1) := by decide +kernel
theorem d_M_lay_52 : decode b_M_lay 52 = .ok (.iaload, 1) := by decide +kernel
theorem d_M_lay_53 : decode b_M_lay 53 = .ok (.iastore, 1) := by decide +kernel
theorem d_M_lay_54 : decode b_M_lay 54 = .ok (.iconst 0, 1) := by decide +kernel
theorem d_M_lay_55 : decode b_M_lay 55 = .ok (.istore_n 3, 1) := by decide +kernel
theorem d_M_lay_56 : decode b_M_lay 56 = .ok (.iload_n 3, 1) := by decide +kernel
theorem d_M_lay_57 : decode b_M_lay 57 = .ok (.iconst 4, 1) := by decide +kernel
theorem d_M_lay_58 : decode b_M_lay 58 = .ok (.if_icmp .ge 131, 3) := by decide +kernel
theorem d_M_lay_61 : decode b_M_lay 61 = .ok (.aload_n 0, 1) := by decide +kernel
theorem d_M_lay_62 : decode b_M_lay 62 = .ok (.getfield 64, 3) := by decide +kernel
theorem d_M_lay_65 : decode b_M_lay 65 = .ok (.iconst 4, 1) := by decide +kernel
theorem d_M_lay_66 : decode b_M_lay 66 = .ok (.iload_n 2, 1) := by decide +kernel
theorem d_M_lay_67 : decode b_M_lay 67 = .ok (.imul, 1) := by decide +kernel
theorem d_M_lay_68 : decode b_M_lay 68 = .ok (.iload_n 3, 1) := by decide +kernel
theorem d_M_lay_69 : decode b_M_lay 69 = .ok (.iadd, 1) := by decide +kernel
theorem d_M_lay_70 : decode b_M_lay 70 = .ok (.aload_n 0, 1) := by decide +kernel
theorem d_M_lay_71 : decode b_M_lay 71 = .ok (.getfield 19, 3) := by decide +kernel
theorem d_M_lay_74 : decode b_M_lay 74 = .ok (.iconst 4, 1) := by decide +kernel
theorem d_M_lay_75 : decode b_M_lay 75 = .ok (.iload_n 1, 1) := by decide +kernel
theorem d_M_lay_76 : decode b_M_lay 76 = .ok (.imul, 1) := by decide +kernel
theorem d_M_lay_77 : decode b_M_lay 77 = .ok (.iload_n 3, 1) := by decide +kernel
theorem d_M_lay_78 : decode b_M_lay 78 = .ok (.iadd, 1) := by decide +kernel
theorem d_M_lay_79 : decode b_M_lay 79 = .ok (.iaload, 1) := by decide +kernel
theorem d_M_lay_80 : decode b_M_lay 80 = .ok (.iastore, 1) := by decide +kernel
theorem d_M_lay_81 : decode b_M_lay 81 = .ok (.aload_n 0, 1) := by decide +kernel
theorem d_M_lay_82 : decode b_M_lay 82 = .ok (.getfield 67, 3) := by decide +kernel
theorem d_M_lay_85 : decode b_M_lay 85 = .ok (.iconst 4, 1) := by decide +kernel
theorem d_M_lay_86 : decode b_M_lay 86 = .ok (.iload_n 2, 1) := by decide +kernel
theorem d_M_lay_87 : decode b_M_lay 87 = .ok (.imul, 1) := by decide +kernel
theorem d_M_lay_88 : decode b_M_lay 88 = .ok (.iload_n 3, 1) := by decide +kernel
theorem d_M_lay_89 : decode b_M_lay 89 = .ok (.iadd, 1) := by decide +kernel
theorem d_M_lay_90 : decode b_M_lay 90 = .ok (.aload_n 0, 1) := by decide +kernel
theorem d_M_lay_91 : decode b_M_lay 91 = .ok (.getfield 22, 3) := by decide +kernel
theorem d_M_lay_94 : decode b_M_lay 94 = .ok (.iconst 4, 1) := by decide +kernel
theorem d_M_lay_95 : decode b_M_lay 95 = .ok (.iload_n 1, 1) := by decide +kernel
theorem d_M_lay_96 : decode b_M_lay 96 = .ok (.imul, 1) := by decide +kernel
theorem d_M_lay_97 : decode b_M_lay 97 = .ok (.iload_n 3, 1) := by decide +kernel
theorem d_M_lay_98 : decode b_M_lay 98 = .ok (.iadd, 1) := by decide +kernel
theorem d_M_lay_99 : decode b_M_lay 99 = .ok (.iaload, 1) := by decide +kernel
theorem d_M_lay_100 : decode b_M_lay 100 = .ok (.iastore, 1) := by decide +kernel
theorem d_M_lay_101 : decode b_M_lay 101 = .ok (.aload_n 0, 1) := by decide +kernel
theorem d_M_lay_102 : decode b_M_lay 102 = .ok (.getfield 70, 3) := by decide +kernel
theorem d_M_lay_105 : decode b_M_lay 105 = .ok (.iconst 4, 1) := by decide +kernel
theorem d_M_lay_106 : decode b_M_lay 106 = .ok (.iload_n 2, 1) := by decide +kernel
theorem d_M_lay_107 : decode b_M_lay 107 = .ok (.imul, 1) := by decide +kernel
theorem d_M_lay_108 : decode b_M_lay 108 = .ok (.iload_n 3, 1) := by decide +kernel
theorem d_M_lay_109 : decode b_M_lay 109 = .ok (.iadd, 1) := by decide +kernel
theorem d_M_lay_110 : decode b_M_lay 110 = .ok (.aload_n 0, 1) := by decide +kernel
theorem d_M_lay_111 : decode b_M_lay 111 = .ok (.getfield 25, 3) := by decide +kernel
theorem d_M_lay_114 : decode b_M_lay 114 = .ok (.iconst 4, 1) := by decide +kernel
theorem d_M_lay_115 : decode b_M_lay 115 = .ok (.iload_n 1, 1) := by decide +kernel
theorem d_M_lay_116 : decode b_M_lay 116 = .ok (.imul, 1) := by decide +kernel
theorem d_M_lay_117 : decode b_M_lay 117 = .ok (.iload_n 3, 1) := by decide +kernel
theorem d_M_lay_118 : decode b_M_lay 118 = .ok (.iadd, 1) := by decide +kernel
theorem d_M_lay_119 : decode b_M_lay 119 = .ok (.laload, 1) := by decide +kernel
theorem d_M_lay_120 : decode b_M_lay 120 = .ok (.lastore, 1) := by decide +kernel
theorem d_M_lay_121 : decode b_M_lay 121 = .ok (.iconst 4, 1) := by decide +kernel
theorem d_M_lay_122 : decode b_M_lay 122 = .ok (.aload_n 0, 1) := by decide +kernel
theorem d_M_lay_123 : decode b_M_lay 123 = .ok (.getfield 7, 3) := by decide +kernel
theorem d_M_lay_126 : decode b_M_lay 126 = .ok (.iload_n 1, 1) := by decide +kernel
theorem d_M_lay_127 : decode b_M_lay 127 = .ok (.iaload, 1) := by decide +kernel
theorem d_M_lay_128 : decode b_M_lay 128 = .ok (.imul, 1) := by decide +kernel
theorem d_M_lay_129 : decode b_M_lay 129 = .ok (.iload_n 3, 1) := by decide +kernel
theorem d_M_lay_130 : decode b_M_lay 130 = .ok (.iadd, 1) := by decide +kernel
theorem d_M_lay_131 : decode b_M_lay 131 = .ok (.istore 4, 2) := by decide +kernel
theorem d_M_lay_133 : decode b_M_lay 133 = .ok (.aload_n 0, 1) := by decide +kernel
theorem d_M_lay_134 : decode b_M_lay 134 = .ok (.getfield 19, 3) := by decide +kernel
theorem d_M_lay_137 : decode b_M_lay 137 = .ok (.iconst 4, 1) := by decide +kernel
theorem d_M_lay_138 : decode b_M_lay 138 = .ok (.iload_n 1, 1) := by decide +kernel
theorem d_M_lay_139 : decode b_M_lay 139 = .ok (.imul, 1) := by decide +kernel
theorem d_M_lay_140 : decode b_M_lay 140 = .ok (.iload_n 3, 1) := by decide +kernel
theorem d_M_lay_141 : decode b_M_lay 141 = .ok (.iadd, 1) := by decide +kernel
theorem d_M_lay_142 : decode b_M_lay 142 = .ok (.iaload, 1) := by decide +kernel
theorem d_M_lay_143 : decode b_M_lay 143 = .ok (.ifCond .le 40, 3) := by decide +kernel
theorem d_M_lay_146 : decode b_M_lay 146 = .ok (.aload_n 0, 1) := by decide +kernel
theorem d_M_lay_147 : decode b_M_lay 147 = .ok (.getfield 33, 3) := by decide +kernel
theorem d_M_lay_150 : decode b_M_lay 150 = .ok (.iload 4, 2) := by decide +kernel
theorem d_M_lay_152 : decode b_M_lay 152 = .ok (.iaload, 1) := by decide +kernel
theorem d_M_lay_153 : decode b_M_lay 153 = .ok (.ifCond .ne 30, 3) := by decide +kernel
theorem d_M_lay_156 : decode b_M_lay 156 = .ok (.aload_n 0, 1) := by decide +kernel
theorem d_M_lay_157 : decode b_M_lay 157 = .ok (.getfield 33, 3) := by decide +kernel
theorem d_M_lay_160 : decode b_M_lay 160 = .ok (.iload 4, 2) := by decide +kernel
theorem d_M_lay_162 : decode b_M_lay 162 = .ok (.aload_n 0, 1) := by decide +kernel
theorem d_M_lay_163 : decode b_M_lay 163 = .ok (.getfield 19, 3) := by decide +kernel
theorem d_M_lay_166 : decode b_M_lay 166 = .ok (.iconst 4, 1) := by decide +kernel
theorem d_M_lay_167 : decode b_M_lay 167 = .ok (.iload_n 1, 1) := by decide +kernel
theorem d_M_lay_168 : decode b_M_lay 168 = .ok (.imul, 1) := by decide +kernel
theorem d_M_lay_169 : decode b_M_lay 169 = .ok (.iload_n 3, 1) := by decide +kernel
theorem d_M_lay_170 : decode b_M_lay 170 = .ok (.iadd, 1) := by decide +kernel
theorem d_M_lay_171 : decode b_M_lay 171 = .ok (.iaload, 1) := by decide +kernel
theorem d_M_lay_172 : decode b_M_lay 172 = .ok (.iastore, 1) := by decide +kernel
theorem d_M_lay_173 : decode b_M_lay 173 = .ok (.aload_n 0, 1) := by decide +kernel
theorem d_M_lay_174 : decode b_M_lay 174 = .ok (.dup, 1) := by decide +kernel
theorem d_M_lay_175 : decode b_M_lay 175 = .ok (.getfield 138, 3) := by decide +kernel
theorem d_M_lay_178 : decode b_M_lay 178 = .ok (.iconst 1, 1) := by decide +kernel
theorem d_M_lay_179 : decode b_M_lay 179 = .ok (.iadd, 1) := by decide +kernel
theorem d_M_lay_180 : decode b_M_lay 180 = .ok (.putfield 138, 3) := by decide +kernel
theorem d_M_lay_183 : decode b_M_lay 183 = .ok (.iinc 3 1, 3) := by decide +kernel
theorem d_M_lay_186 : decode b_M_lay 186 = .ok (.goto (-130), 3) := by decide +kernel
theorem d_M_lay_189 : decode b_M_lay 189 = .ok (.return_, 1) := by decide +kernel
theorem d_M_add_0 : decode b_M_add 0 = .ok (.iload_n 1, 1) := by decide +kernel
theorem d_M_add_1 : decode b_M_add 1 = .ok (.iconst 0, 1) := by decide +kernel
theorem d_M_add_2 : decode b_M_add 2 = .ok (.bipush 19, 2) := by decide +kernel
theorem d_M_add_4 : decode b_M_add 4 = .ok (.invokestatic 118, 3) := by decide +kernel
theorem d_M_add_7 : decode b_M_add 7 = .ok (.ifCond .ne 5, 3) := by decide +kernel
theorem d_M_add_10 : decode b_M_add 10 = .ok (.iconst (-1), 1) := by decide +kernel
theorem d_M_add_11 : decode b_M_add 11 = .ok (.ireturn, 1) := by decide +kernel
theorem d_M_add_12 : decode b_M_add 12 = .ok (.aload_n 0, 1) := by decide +kernel
theorem d_M_add_13 : decode b_M_add 13 = .ok (.getfield 122, 3) := by decide +kernel
theorem d_M_add_16 : decode b_M_add 16 = .ok (.ifCond .eq 21, 3) := by decide +kernel
theorem d_M_add_19 : decode b_M_add 19 = .ok (.aload_n 0, 1) := by decide +kernel
theorem d_M_add_20 : decode b_M_add 20 = .ok (.getfield 129, 3) := by decide +kernel
theorem d_M_add_23 : decode b_M_add 23 = .ok (.aload_n 0, 1) := by decide +kernel
theorem d_M_add_24 : decode b_M_add 24 = .ok (.getfield 122, 3) := by decide +kernel
theorem d_M_add_27 : decode b_M_add 27 = .ok (.if_icmp .lt 10, 3) := by decide +kernel
theorem d_M_add_30 : decode b_M_add 30 = .ok (.aload_n 0, 1) := by decide +kernel
theorem d_M_add_31 : decode b_M_add 31 = .ok (.getfield 29, 3) := by decide +kernel
theorem d_M_add_34 : decode b_M_add 34 = .ok (.ifCond .lt 6, 3) := by decide +kernel
theorem d_M_add_37 : decode b_M_add 37 = .ok (.bipush (-2), 2) := by decide +kernel
theorem d_M_add_39 : decode b_M_add 39 = .ok (.ireturn, 1) := by decide +kernel
theorem d_M_add_40 : decode b_M_add 40 = .ok (.aload_n 0, 1) := by decide +kernel
theorem d_M_add_41 : decode b_M_add 41 = .ok (.invokevirtual 141, 3) := by decide +kernel
theorem d_M_add_44 : decode b_M_add 44 = .ok (.istore_n 2, 1) := by decide +kernel
theorem d_M_add_45 : decode b_M_add 45 = .ok (.iload_n 2, 1) := by decide +kernel
theorem d_M_add_46 : decode b_M_add 46 = .ok (.ifCond .eq 6, 3) := by decide +kernel
theorem d_M_add_49 : decode b_M_add 49 = .ok (.bipush (-4), 2) := by decide +kernel
theorem d_M_add_51 : decode b_M_add 51 = .ok (.ireturn, 1) := by decide +kernel
theorem d_M_add_52 : decode b_M_add 52 = .ok (.aload_n 0, 1) := by decide +kernel
theorem d_M_add_53 : decode b_M_add 53 = .ok (.invokevirtual 145, 3) := by decide +kernel
theorem d_M_add_56 : decode b_M_add 56 = .ok (.aload_n 0, 1) := by decide +kernel
theorem d_M_add_57 : decode b_M_add 57 = .ok (.getfield 122, 3) := by decide +kernel
theorem d_M_add_60 : decode b_M_add 60 = .ok (.iadd, 1) := by decide +kernel
theorem d_M_add_61 : decode b_M_add 61 = .ok (.bipush 30, 2) := by decide +kernel
theorem d_M_add_63 : decode b_M_add 63 = .ok (.if_icmp .le 6, 3) := by decide +kernel
theorem d_M_add_66 : decode b_M_add 66 = .ok (.bipush (-3), 2) := by decide +kernel
theorem d_M_add_68 : decode b_M_add 68 = .ok (.ireturn, 1) := by decide +kernel
theorem d_M_add_69 : decode b_M_add 69 = .ok (.aload_n 0, 1) := by decide +kernel
theorem d_M_add_70 : decode b_M_add 70 = .ok (.iload_n 1, 1) := by decide +kernel
theorem d_M_add_71 : decode b_M_add 71 = .ok (.invokevirtual 149, 3) := by decide +kernel
theorem d_M_add_74 : decode b_M_add 74 = .ok (.istore_n 3, 1) := by decide +kernel
theorem d_M_add_75 : decode b_M_add 75 = .ok (.iload_n 3, 1) := by decide +kernel
theorem d_M_add_76 : decode b_M_add 76 = .ok (.ifCond .lt 10, 3) := by decide +kernel
theorem d_M_add_79 : decode b_M_add 79 = .ok (.aload_n 0, 1) := by decide +kernel
theorem d_M_add_80 : decode b_M_add 80 = .ok (.getfield 51, 3) := by decide +kernel
theorem d_M_add_83 : decode b_M_add 83 = .ok (.iload_n 3, 1) := by decide +kernel
theorem d_M_add_84 : decode b_M_add 84 = .ok (.iconst 0, 1) := by decide +kernel
theorem d_M_add_85 : decode b_M_add 85 = .ok (.bastore, 1) := by decide +kernel
theorem d_M_add_86 : decode b_M_add 86 = .ok (.iconst 0, 1) := by decide +kernel
theorem d_M_add_87 : decode b_M_add 87 = .ok (.istore 4, 2) := by decide +kernel
theorem d_M_add_89 : decode b_M_add 89 = .ok (.iload 4, 2) := by decide +kernel
theorem d_M_add_91 : decode b_M_add 91 = .ok (.aload_n 0, 1) := by decide +kernel
theorem d_M_add_92 : decode b_M_add 92 = .ok (.getfield 122, 3) := by decide +kernel
theorem d_M_add_95 : decode b_M_add 95 = .ok (.if_icmp .ge 15, 3) := by decide +kernel
theorem d_M_add_98 : decode b_M_add 98 = .ok (.aload_n 0, 1) := by decide +kernel
theorem d_M_add_99 : decode b_M_add 99 = .ok (.iload 4, 2) := by decide +kernel
theorem d_M_add_101 : decode b_M_add 101 = .ok (.invokevirtual 152, 3) := by decide +kernel
theorem d_M_add_104 : decode b_M_add 104 = .ok (.iinc 4 1, 3) := by decide +kernel
theorem d_M_add_107 : decode b_M_add 107 = .ok (.goto (-18), 3) := by decide +kernel
theorem d_M_add_110 : decode b_M_add 110 = .ok (.aload_n 0, 1) := by decide +kernel
theorem d_M_add_111 : decode b_M_add 111 = .ok (.getfield 36, 3) := by decide +kernel
theorem d_M_add_114 : decode b_M_add 114 = .ok (.aload_n 0, 1) := by decide +kernel
theorem d_M_add_115 : decode b_M_add 115 = .ok (.getfield 132, 3) := by decide +kernel
theorem d_M_add_118 : decode b_M_add 118 = .ok (.aload_n 0, 1) := by decide +kernel
theorem d_M_add_119 : decode b_M_add 119 = .ok (.getfield 135, 3) := by decide +kernel
theorem d_M_add_122 : decode b_M_add 122 = .ok (.iastore, 1) := by decide +kernel
theorem d_M_add_123 : decode b_M_add 123 = .ok (.aload_n 0, 1) := by decide +kernel
theorem d_M_add_124 : decode b_M_add 124 = .ok (.getfield 39, 3) := by decide +kernel
theorem d_M_add_127 : decode b_M_add 127 = .ok (.aload_n 0, 1) := by decide +kernel
theorem d_M_add_128 : decode b_M_add 128 = .ok (.getfield 132, 3) := by decide +kernel
theorem d_M_add_131 : decode b_M_add 131 = .ok (.aload_n 0, 1) := by decide +kernel
theorem d_M_add_132 : decode b_M_add 132 = .ok (.getfield 122, 3) := by decide +kernel
theorem d_M_add_135 : decode b_M_add 135 = .ok (.iastore, 1) := by decide +kernel
theorem d_M_add_136 : decode b_M_add 136 = .ok (.aload_n 0, 1) := by decide +kernel
theorem d_M_add_137 : decode b_M_add 137 = .ok (.getfield 42, 3) := by decide +kernel
theorem d_M_add_140 : decode b_M_add 140 = .ok (.aload_n 0, 1) := by decide +kernel
theorem d_M_add_141 : decode b_M_add 141 = .ok (.getfield 132, 3) := by decide +kernel
theorem d_M_add_144 : decode b_M_add 144 = .ok (.iload_n 1, 1) := by decide +kernel
theorem d_M_add_145 : decode b_M_add 145 = .ok (.iastore, 1) := by decide +kernel
theorem d_M_add_146 : decode b_M_add 146 = .ok (.aload_n 0, 1) := by decide +kernel
theorem d_M_add_147 : decode b_M_add 147 = .ok (.getfield 45, 3) := by decide +kernel
theorem d_M_add_150 : decode b_M_add 150 = .ok (.aload_n 0, 1) := by decide +kernel
theorem d_M_add_151 : decode b_M_add 151 = .ok (.getfield 132, 3) := by decide +kernel
theorem d_M_add_154 : decode b_M_add 154 = .ok (.iconst (-1), 1) := by decide +kernel
theorem d_M_add_155 : decode b_M_add 155 = .ok (.iastore, 1) := by decide +kernel
theorem d_M_add_156 : decode b_M_add 156 = .ok (.aload_n 0, 1) := by decide +kernel
theorem d_M_add_157 : decode b_M_add 157 = .ok (.getfield 48, 3) := by decide +kernel
theorem d_M_add_160 : decode b_M_add 160 = .ok (.aload_n 0, 1) := by decide +kernel
theorem d_M_add_161 : decode b_M_add 161 = .ok (.getfield 132, 3) := by decide +kernel
theorem d_M_add_164 : decode b_M_add 164 = .ok (.bipush (-2), 2) := by decide +kernel
theorem d_M_add_166 : decode b_M_add 166 = .ok (.iastore, 1) := by decide +kernel
theorem d_M_add_167 : decode b_M_add 167 = .ok (.aload_n 0, 1) := by decide +kernel
theorem d_M_add_168 : decode b_M_add 168 = .ok (.getfield 51, 3) := by decide +kernel
theorem d_M_add_171 : decode b_M_add 171 = .ok (.aload_n 0, 1) := by decide +kernel
theorem d_M_add_172 : decode b_M_add 172 = .ok (.getfield 132, 3) := by decide +kernel
theorem d_M_add_175 : decode b_M_add 175 = .ok (.iconst 1, 1) := by decide +kernel
theorem d_M_add_176 : decode b_M_add 176 = .ok (.bastore, 1) := by decide +kernel
theorem d_M_add_177 : decode b_M_add 177 = .ok (.aload_n 0, 1) := by decide +kernel
theorem d_M_add_178 : decode b_M_add 178 = .ok (.dup, 1) := by decide +kernel
theorem d_M_add_179 : decode b_M_add 179 = .ok (.getfield 132, 3) := by decide +kernel
theorem d_M_add_182 : decode b_M_add 182 = .ok (.iconst 1, 1) := by decide +kernel
theorem d_M_add_183 : decode b_M_add 183 = .ok (.iadd, 1) := by decide +kernel
theorem d_M_add_184 : decode b_M_add 184 = .ok (.putfield 132, 3) := by decide +kernel
theorem d_M_add_187 : decode b_M_add 187 = .ok (.aload_n 0, 1) := by decide +kernel
theorem d_M_add_188 : decode b_M_add 188 = .ok (.dup, 1) := by decide +kernel
theorem d_M_add_189 : decode b_M_add 189 = .ok (.getfield 135, 3) := by decide +kernel
theorem d_M_add_192 : decode b_M_add 192 = .ok (.aload_n 0, 1) := by decide +kernel
theorem d_M_add_193 : decode b_M_add 193 = .ok (.getfield 122, 3) := by decide +kernel
theorem d_M_add_196 : decode b_M_add 196 = .ok (.iadd, 1) := by decide +kernel
theorem d_M_add_197 : decode b_M_add 197 = .ok (.putfield 135, 3) := by decide +kernel
theorem d_M_add_200 : decode b_M_add 200 = .ok (.aload_n 0, 1) := by decide +kernel
theorem d_M_add_201 : decode b_M_add 201 = .ok (.invokevirtual 156, 3) := by decide +kernel
theorem d_M_add_204 : decode b_M_add 204 = .ok (.pop, 1) := by decide +kernel
theorem d_M_add_205 : decode b_M_add 205 = .ok (.aload_n 0, 1) := by decide +kernel
theorem d_M_add_206 : decode b_M_add 206 = .ok (.invokevirtual 145, 3) := by decide +kernel
theorem d_M_add_209 : decode b_M_add 209 = .ok (.ireturn, 1) := by decide +kernel
theorem d_M_remove_0 : decode b_M_remove 0 = .ok (.aload_n 0, 1) := by decide +kernel
theorem d_M_remove_1 : decode b_M_remove 1 = .ok (.iload_n 1, 1) := by decide +kernel
theorem d_M_remove_2 : decode b_M_remove 2 = .ok (.invokevirtual 149, 3) := by decide +kernel
theorem d_M_remove_5 : decode b_M_remove 5 = .ok (.istore_n 2, 1) := by decide +kernel
theorem d_M_remove_6 : decode b_M_remove 6 = .ok (.iload_n 2, 1) := by decide +kernel
theorem d_M_remove_7 : decode b_M_remove 7 = .ok (.ifCond .lt 10, 3) := by decide +kernel
theorem d_M_remove_10 : decode b_M_remove 10 = .ok (.aload_n 0, 1) := by decide +kernel
theorem d_M_remove_11 : decode b_M_remove 11 = .ok (.getfield 51, 3) := by decide +kernel
theorem d_M_remove_14 : decode b_M_remove 14 = .ok (.iload_n 2, 1) := by decide +kernel
theorem d_M_remove_15 : decode b_M_remove 15 = .ok (.iconst 0, 1) := by decide +kernel
theorem d_M_remove_16 : decode b_M_remove 16 = .ok (.bastore, 1) := by decide +kernel
theorem d_M_remove_17 : decode b_M_remove 17 = .ok (.iload_n 2, 1) := by decide +kernel
theorem d_M_remove_18 : decode b_M_remove 18 = .ok (.ifCond .lt 7, 3) := by decide +kernel
theorem d_M_remove_21 : decode b_M_remove 21 = .ok (.iconst 1, 1) := by decide +kernel
theorem d_M_remove_22 : decode b_M_remove 22 = .ok (.goto 4, 3) := by decide +kernel
theorem d_M_remove_25 : decode b_M_remove 25 = .ok (.iconst 0, 1) := by decide +kernel
theorem d_M_remove_26 : decode b_M_remove 26 = .ok (.ireturn, 1) := by decide +kernel
theorem d_M_flush_0 : decode b_M_flush 0 = .ok (.iconst 0, 1) := by decide +kernel
theorem d_M_flush_1 : decode b_M_flush 1 = .ok (.istore_n 1, 1) := by decide +kernel
theorem d_M_flush_2 : decode b_M_flush 2 = .ok (.iconst 0, 1) := by decide +kernel
theorem d_M_flush_3 : decode b_M_flush 3 = .ok (.istore_n 2, 1) := by decide +kernel
theorem d_M_flush_4 : decode b_M_flush 4 = .ok (.iload_n 2, 1) := by decide +kernel
theorem d_M_flush_5 : decode b_M_flush 5 = .ok (.aload_n 0, 1) := by decide +kernel
theorem d_M_flush_6 : decode b_M_flush 6 = .ok (.getfield 132, 3) := by decide +kernel
theorem d_M_flush_9 : decode b_M_flush 9 = .ok (.if_icmp .ge 37, 3) := by decide +kernel
theorem d_M_flush_12 : decode b_M_flush 12 = .ok (.aload_n 0, 1) := by decide +kernel
theorem d_M_flush_13 : decode b_M_flush 13 = .ok (.getfield 45, 3) := by decide +kernel
theorem d_M_flush_16 : decode b_M_flush 16 = .ok (.iload_n 2, 1) := by decide +kernel
theorem d_M_flush_17 : decode b_M_flush 17 = .ok (.iaload, 1) := by decide +kernel
theorem d_M_flush_18 : decode b_M_flush 18 = .ok (.iconst (-1), 1) := by decide +kernel
theorem d_M_flush_19 : decode b_M_flush 19 = .ok (.if_icmp .ne 21, 3) := by decide +kernel
theorem d_M_flush_22 : decode b_M_flush 22 = .ok (.aload_n 0, 1) := by decide +kernel
theorem d_M_flush_23 : decode b_M_flush 23 = .ok (.getfield 51, 3) := by decide +kernel
theorem d_M_flush_26 : decode b_M_flush 26 = .ok (.iload_n 2, 1) := by decide +kernel
theorem d_M_flush_27 : decode b_M_flush 27 = .ok (.baload, 1) := by decide +kernel
theorem d_M_flush_28 : decode b_M_flush 28 = .ok (.ifCond .eq 12, 3) := by decide +kernel
theorem d_M_flush_31 : decode b_M_flush 31 = .ok (.iload_n 1, 1) := by decide +kernel
theorem d_M_flush_32 : decode b_M_flush 32 = .ok (.aload_n 0, 1) := by decide +kernel
theorem d_M_flush_33 : decode b_M_flush 33 = .ok (.getfield 39, 3) := by decide +kernel
theorem d_M_flush_36 : decode b_M_flush 36 = .ok (.iload_n 2, 1) := by decide +kernel
theorem d_M_flush_37 : decode b_M_flush 37 = .ok (.iaload, 1) := by decide +kernel
theorem d_M_flush_38 : decode b_M_flush 38 = .ok (.iadd, 1) := by decide +kernel
theorem d_M_flush_39 : decode b_M_flush 39 = .ok (.istore_n 1, 1) := by decide +kernel
theorem d_M_flush_40 : decode b_M_flush 40 = .ok (.iinc 2 1, 3) := by decide +kernel
theorem d_M_flush_43 : decode b_M_flush 43 = .ok (.goto (-39), 3) := by decide +kernel
theorem d_M_flush_46 : decode b_M_flush 46 = .ok (.iload_n 1, 1) := by decide +kernel
theorem d_M_flush_47 : decode b_M_flush 47 = .ok (.ifCond .le 15, 3) := by decide +kernel
theorem d_M_flush_50 : decode b_M_flush 50 = .ok (.aload_n 0, 1) := by decide +kernel
theorem d_M_flush_51 : decode b_M_flush 51 = .ok (.getfield 159, 3) := by decide +kernel
theorem d_M_flush_54 : decode b_M_flush 54 = .ok (.bipush 6, 2) := by decide +kernel
theorem d_M_flush_56 : decode b_M_flush 56 = .ok (.if_icmp .ne 6, 3) := by decide +kernel
theorem d_M_flush_59 : decode b_M_flush 59 = .ok (.bipush (-3), 2) := by decide +kernel
theorem d_M_flush_61 : decode b_M_flush 61 = .ok (.ireturn, 1) := by decide +kernel
theorem d_M_flush_62 : decode b_M_flush 62 = .ok (.iconst 0, 1) := by decide +kernel
theorem d_M_flush_63 : decode b_M_flush 63 = .ok (.istore_n 2, 1) := by decide +kernel
theorem d_M_flush_64 : decode b_M_flush 64 = .ok (.iload_n 2, 1) := by decide +kernel
theorem d_M_flush_65 : decode b_M_flush 65 = .ok (.aload_n 0, 1) := by decide +kernel
theorem d_M_flush_66 : decode b_M_flush 66 = .ok (.getfield 132, 3) := by decide +kernel
theorem d_M_flush_69 : decode b_M_flush 69 = .ok (.if_icmp .ge 43, 3) := by decide +kernel
theorem d_M_flush_72 : decode b_M_flush 72 = .ok (.aload_n 0, 1) := by decide +kernel
theorem d_M_flush_73 : decode b_M_flush 73 = .ok (.getfield 45, 3) := by decide +kernel
theorem d_M_flush_76 : decode b_M_flush 76 = .ok (.iload_n 2, 1) := by decide +kernel
theorem d_M_flush_77 : decode b_M_flush 77 = .ok (.iaload, 1) := by decide +kernel
theorem d_M_flush_78 : decode b_M_flush 78 = .ok (.iconst (-1), 1) := by decide +kernel
theorem d_M_flush_79 : decode b_M_flush 79 = .ok (.if_icmp .ne 27, 3) := by decide +kernel
theorem d_M_flush_82 : decode b_M_flush 82 = .ok (.aload_n 0, 1) := by decide +kernel
theorem d_M_flush_83 : decode b_M_flush 83 = .ok (.getfield 45, 3) := by decide +kernel
theorem d_M_flush_86 : decode b_M_flush 86 = .ok (.iload_n 2, 1) := by decide +kernel
theorem d_M_flush_87 : decode b_M_flush 87 = .ok (.aload_n 0, 1) := by decide +kernel
theorem d_M_flush_88 : decode b_M_flush 88 = .ok (.getfield 51, 3) := by decide +kernel
theorem d_M_flush_91 : decode b_M_flush 91 = .ok (.iload_n 2, 1) := by decide +kernel
theorem d_M_flush_92 : decode b_M_flush 92 = .ok (.baload, 1) := by decide +kernel
theorem d_M_flush_93 : decode b_M_flush 93 = .ok (.ifCond .eq 10, 3) := by decide +kernel
theorem d_M_flush_96 : decode b_M_flush 96 = .ok (.aload_n 0, 1) := by decide +kernel
theorem d_M_flush_97 : decode b_M_flush 97 = .ok (.getfield 159, 3) := by decide +kernel
theorem d_M_flush_100 : decode b_M_flush 100 = .ok (.goto 5, 3) := by decide +kernel

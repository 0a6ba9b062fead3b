theorem d_Sc_pointsAt_14 : decode b_Sc_pointsAt 14 = .ok (.istore 6, 2) := by decide +kernel
theorem d_Sc_pointsAt_16 : decode b_Sc_pointsAt 16 = .ok (.aload_n 1, 1) := by decide +kernel
theorem d_Sc_pointsAt_17 : decode b_Sc_pointsAt 17 = .ok (.getfield 29, 3) := by decide +kernel
theorem d_Sc_pointsAt_20 : decode b_Sc_pointsAt 20 = .ok (.iload_n 2, 1) := by decide +kernel
theorem d_Sc_pointsAt_21 : decode b_Sc_pointsAt 21 = .ok (.iaload, 1) := by decide +kernel
theorem d_Sc_pointsAt_22 : decode b_Sc_pointsAt 22 = .ok (.tableswitch 206 0 7 #[46, 67, 85, 103, 125, 127, 156, 185], 46) := by decide +kernel
theorem d_Sc_pointsAt_68 : decode b_Sc_pointsAt 68 = .ok (.aload_n 3, 1) := by decide +kernel
theorem d_Sc_pointsAt_69 : decode b_Sc_pointsAt 69 = .ok (.iload 4, 2) := by decide +kernel
theorem d_Sc_pointsAt_71 : decode b_Sc_pointsAt 71 = .ok (.aaload, 1) := by decide +kernel
theorem d_Sc_pointsAt_72 : decode b_Sc_pointsAt 72 = .ok (.iload 5, 2) := by decide +kernel
theorem d_Sc_pointsAt_74 : decode b_Sc_pointsAt 74 = .ok (.iload 6, 2) := by decide +kernel
theorem d_Sc_pointsAt_76 : decode b_Sc_pointsAt 76 = .ok (.invokevirtual 67, 3) := by decide +kernel
theorem d_Sc_pointsAt_79 : decode b_Sc_pointsAt 79 = .ok (.aload_n 0, 1) := by decide +kernel
theorem d_Sc_pointsAt_80 : decode b_Sc_pointsAt 80 = .ok (.getfield 9, 3) := by decide +kernel
theorem d_Sc_pointsAt_83 : decode b_Sc_pointsAt 83 = .ok (.iload_n 2, 1) := by decide +kernel
theorem d_Sc_pointsAt_84 : decode b_Sc_pointsAt 84 = .ok (.iaload, 1) := by decide +kernel
theorem d_Sc_pointsAt_85 : decode b_Sc_pointsAt 85 = .ok (.invokestatic 75, 3) := by decide +kernel
theorem d_Sc_pointsAt_88 : decode b_Sc_pointsAt 88 = .ok (.ireturn, 1) := by decide +kernel
theorem d_Sc_pointsAt_89 : decode b_Sc_pointsAt 89 = .ok (.aload_n 3, 1) := by decide +kernel
theorem d_Sc_pointsAt_90 : decode b_Sc_pointsAt 90 = .ok (.iload 4, 2) := by decide +kernel
theorem d_Sc_pointsAt_92 : decode b_Sc_pointsAt 92 = .ok (.aaload, 1) := by decide +kernel
theorem d_Sc_pointsAt_93 : decode b_Sc_pointsAt 93 = .ok (.iload 5, 2) := by decide +kernel
theorem d_Sc_pointsAt_95 : decode b_Sc_pointsAt 95 = .ok (.iload 6, 2) := by decide +kernel
theorem d_Sc_pointsAt_97 : decode b_Sc_pointsAt 97 = .ok (.sipush 1000, 3) := by decide +kernel
theorem d_Sc_pointsAt_100 : decode b_Sc_pointsAt 100 = .ok (.invokevirtual 78, 3) := by decide +kernel
theorem d_Sc_pointsAt_103 : decode b_Sc_pointsAt 103 = .ok (.invokestatic 82, 3) := by decide +kernel
theorem d_Sc_pointsAt_106 : decode b_Sc_pointsAt 106 = .ok (.ireturn, 1) := by decide +kernel
theorem d_Sc_pointsAt_107 : decode b_Sc_pointsAt 107 = .ok (.aload_n 3, 1) := by decide +kernel
theorem d_Sc_pointsAt_108 : decode b_Sc_pointsAt 108 = .ok (.iload 4, 2) := by decide +kernel
theorem d_Sc_pointsAt_110 : decode b_Sc_pointsAt 110 = .ok (.aaload, 1) := by decide +kernel
theorem d_Sc_pointsAt_111 : decode b_Sc_pointsAt 111 = .ok (.iload 5, 2) := by decide +kernel
theorem d_Sc_pointsAt_113 : decode b_Sc_pointsAt 113 = .ok (.sipush (-1000), 3) := by decide +kernel
theorem d_Sc_pointsAt_116 : decode b_Sc_pointsAt 116 = .ok (.iload 6, 2) := by decide +kernel
theorem d_Sc_pointsAt_118 : decode b_Sc_pointsAt 118 = .ok (.invokevirtual 78, 3) := by decide +kernel
theorem d_Sc_pointsAt_121 : decode b_Sc_pointsAt 121 = .ok (.invokestatic 82, 3) := by decide +kernel
theorem d_Sc_pointsAt_124 : decode b_Sc_pointsAt 124 = .ok (.ireturn, 1) := by decide +kernel
theorem d_Sc_pointsAt_125 : decode b_Sc_pointsAt 125 = .ok (.aload_n 3, 1) := by decide +kernel
theorem d_Sc_pointsAt_126 : decode b_Sc_pointsAt 126 = .ok (.iload 4, 2) := by decide +kernel
theorem d_Sc_pointsAt_128 : decode b_Sc_pointsAt 128 = .ok (.aaload, 1) := by decide +kernel
theorem d_Sc_pointsAt_129 : decode b_Sc_pointsAt 129 = .ok (.getfield 86, 3) := by decide +kernel
theorem d_Sc_pointsAt_132 : decode b_Sc_pointsAt 132 = .ok (.iload 5, 2) := by decide +kernel
theorem d_Sc_pointsAt_134 : decode b_Sc_pointsAt 134 = .ok (.iaload, 1) := by decide +kernel
theorem d_Sc_pointsAt_135 : decode b_Sc_pointsAt 135 = .ok (.ifCond .eq 7, 3) := by decide +kernel
theorem d_Sc_pointsAt_138 : decode b_Sc_pointsAt 138 = .ok (.iconst 1, 1) := by decide +kernel
theorem d_Sc_pointsAt_139 : decode b_Sc_pointsAt 139 = .ok (.goto 4, 3) := by decide +kernel
theorem d_Sc_pointsAt_142 : decode b_Sc_pointsAt 142 = .ok (.iconst 0, 1) := by decide +kernel
theorem d_Sc_pointsAt_143 : decode b_Sc_pointsAt 143 = .ok (.invokestatic 82, 3) := by decide +kernel
theorem d_Sc_pointsAt_146 : decode b_Sc_pointsAt 146 = .ok (.ireturn, 1) := by decide +kernel
theorem d_Sc_pointsAt_147 : decode b_Sc_pointsAt 147 = .ok (.iconst 1, 1) := by decide +kernel
theorem d_Sc_pointsAt_148 : decode b_Sc_pointsAt 148 = .ok (.ireturn, 1) := by decide +kernel
theorem d_Sc_pointsAt_149 : decode b_Sc_pointsAt 149 = .ok (.aload_n 0, 1) := by decide +kernel
theorem d_Sc_pointsAt_150 : decode b_Sc_pointsAt 150 = .ok (.getfield 20, 3) := by decide +kernel
theorem d_Sc_pointsAt_153 : decode b_Sc_pointsAt 153 = .ok (.iload_n 2, 1) := by decide +kernel
theorem d_Sc_pointsAt_154 : decode b_Sc_pointsAt 154 = .ok (.iconst 1, 1) := by decide +kernel
theorem d_Sc_pointsAt_155 : decode b_Sc_pointsAt 155 = .ok (.iadd, 1) := by decide +kernel
theorem d_Sc_pointsAt_156 : decode b_Sc_pointsAt 156 = .ok (.aaload, 1) := by decide +kernel
theorem d_Sc_pointsAt_157 : decode b_Sc_pointsAt 157 = .ok (.iload 4, 2) := by decide +kernel
theorem d_Sc_pointsAt_159 : decode b_Sc_pointsAt 159 = .ok (.iaload, 1) := by decide +kernel
theorem d_Sc_pointsAt_160 : decode b_Sc_pointsAt 160 = .ok (.aload_n 0, 1) := by decide +kernel
theorem d_Sc_pointsAt_161 : decode b_Sc_pointsAt 161 = .ok (.getfield 20, 3) := by decide +kernel
theorem d_Sc_pointsAt_164 : decode b_Sc_pointsAt 164 = .ok (.aload_n 0, 1) := by decide +kernel
theorem d_Sc_pointsAt_165 : decode b_Sc_pointsAt 165 = .ok (.getfield 15, 3) := by decide +kernel
theorem d_Sc_pointsAt_168 : decode b_Sc_pointsAt 168 = .ok (.iload_n 2, 1) := by decide +kernel
theorem d_Sc_pointsAt_169 : decode b_Sc_pointsAt 169 = .ok (.iaload, 1) := by decide +kernel
theorem d_Sc_pointsAt_170 : decode b_Sc_pointsAt 170 = .ok (.aaload, 1) := by decide +kernel
theorem d_Sc_pointsAt_171 : decode b_Sc_pointsAt 171 = .ok (.iload 4, 2) := by decide +kernel
theorem d_Sc_pointsAt_173 : decode b_Sc_pointsAt 173 = .ok (.iaload, 1) := by decide +kernel
theorem d_Sc_pointsAt_174 : decode b_Sc_pointsAt 174 = .ok (.invokestatic 89, 3) := by decide +kernel
theorem d_Sc_pointsAt_177 : decode b_Sc_pointsAt 177 = .ok (.ireturn, 1) := by decide +kernel
theorem d_Sc_pointsAt_178 : decode b_Sc_pointsAt 178 = .ok (.aload_n 0, 1) := by decide +kernel
theorem d_Sc_pointsAt_179 : decode b_Sc_pointsAt 179 = .ok (.getfield 20, 3) := by decide +kernel
theorem d_Sc_pointsAt_182 : decode b_Sc_pointsAt 182 = .ok (.iload_n 2, 1) := by decide +kernel
theorem d_Sc_pointsAt_183 : decode b_Sc_pointsAt 183 = .ok (.iconst 1, 1) := by decide +kernel
theorem d_Sc_pointsAt_184 : decode b_Sc_pointsAt 184 = .ok (.iadd, 1) := by decide +kernel
theorem d_Sc_pointsAt_185 : decode b_Sc_pointsAt 185 = .ok (.aaload, 1) := by decide +kernel
theorem d_Sc_pointsAt_186 : decode b_Sc_pointsAt 186 = .ok (.iload 4, 2) := by decide +kernel
theorem d_Sc_pointsAt_188 : decode b_Sc_pointsAt 188 = .ok (.iaload, 1) := by decide +kernel
theorem d_Sc_pointsAt_189 : decode b_Sc_pointsAt 189 = .ok (.aload_n 0, 1) := by decide +kernel
theorem d_Sc_pointsAt_190 : decode b_Sc_pointsAt 190 = .ok (.getfield 20, 3) := by decide +kernel
theorem d_Sc_pointsAt_193 : decode b_Sc_pointsAt 193 = .ok (.aload_n 0, 1) := by decide +kernel
theorem d_Sc_pointsAt_194 : decode b_Sc_pointsAt 194 = .ok (.getfield 15, 3) := by decide +kernel
theorem d_Sc_pointsAt_197 : decode b_Sc_pointsAt 197 = .ok (.iload_n 2, 1) := by decide +kernel
theorem d_Sc_pointsAt_198 : decode b_Sc_pointsAt 198 = .ok (.iaload, 1) := by decide +kernel
theorem d_Sc_pointsAt_199 : decode b_Sc_pointsAt 199 = .ok (.aaload, 1) := by decide +kernel
theorem d_Sc_pointsAt_200 : decode b_Sc_pointsAt 200 = .ok (.iload 4, 2) := by decide +kernel
theorem d_Sc_pointsAt_202 : decode b_Sc_pointsAt 202 = .ok (.iaload, 1) := by decide +kernel
theorem d_Sc_pointsAt_203 : decode b_Sc_pointsAt 203 = .ok (.invokestatic 92, 3) := by decide +kernel
theorem d_Sc_pointsAt_206 : decode b_Sc_pointsAt 206 = .ok (.ireturn, 1) := by decide +kernel
theorem d_Sc_pointsAt_207 : decode b_Sc_pointsAt 207 = .ok (.aload_n 0, 1) := by decide +kernel
theorem d_Sc_pointsAt_208 : decode b_Sc_pointsAt 208 = .ok (.getfield 20, 3) := by decide +kernel
theorem d_Sc_pointsAt_211 : decode b_Sc_pointsAt 211 = .ok (.iload_n 2, 1) := by decide +kernel
theorem d_Sc_pointsAt_212 : decode b_Sc_pointsAt 212 = .ok (.iconst 1, 1) := by decide +kernel
theorem d_Sc_pointsAt_213 : decode b_Sc_pointsAt 213 = .ok (.iadd, 1) := by decide +kernel
theorem d_Sc_pointsAt_214 : decode b_Sc_pointsAt 214 = .ok (.aaload, 1) := by decide +kernel
theorem d_Sc_pointsAt_215 : decode b_Sc_pointsAt 215 = .ok (.iload 4, 2) := by decide +kernel
theorem d_Sc_pointsAt_217 : decode b_Sc_pointsAt 217 = .ok (.iaload, 1) := by decide +kernel
theorem d_Sc_pointsAt_218 : decode b_Sc_pointsAt 218 = .ok (.iconst (-1), 1) := by decide +kernel
theorem d_Sc_pointsAt_219 : decode b_Sc_pointsAt 219 = .ok (.if_icmp .ne 7, 3) := by decide +kernel
theorem d_Sc_pointsAt_222 : decode b_Sc_pointsAt 222 = .ok (.iconst 0, 1) := by decide +kernel
theorem d_Sc_pointsAt_223 : decode b_Sc_pointsAt 223 = .ok (.goto 4, 3) := by decide +kernel
theorem d_Sc_pointsAt_226 : decode b_Sc_pointsAt 226 = .ok (.iconst (-1), 1) := by decide +kernel
theorem d_Sc_pointsAt_227 : decode b_Sc_pointsAt 227 = .ok (.ireturn, 1) := by decide +kernel
theorem d_Sc_pointsAt_228 : decode b_Sc_pointsAt 228 = .ok (.aload_n 0, 1) := by decide +kernel
theorem d_Sc_pointsAt_229 : decode b_Sc_pointsAt 229 = .ok (.aload_n 1, 1) := by decide +kernel
theorem d_Sc_pointsAt_230 : decode b_Sc_pointsAt 230 = .ok (.iload_n 2, 1) := by decide +kernel
theorem d_Sc_pointsAt_231 : decode b_Sc_pointsAt 231 = .ok (.aload_n 3, 1) := by decide +kernel
theorem d_Sc_pointsAt_232 : decode b_Sc_pointsAt 232 = .ok (.iload 4, 2) := by decide +kernel
theorem d_Sc_pointsAt_234 : decode b_Sc_pointsAt 234 = .ok (.invokevirtual 95, 3) := by decide +kernel
theorem d_Sc_pointsAt_237 : decode b_Sc_pointsAt 237 = .ok (.ireturn, 1) := by decide +kernel
theorem d_Sc_weighed_0 : decode b_Sc_weighed 0 = .ok (.iload_n 0, 1) := by decide +kernel
theorem d_Sc_weighed_1 : decode b_Sc_weighed 1 = .ok (.ifCond .le 9, 3) := by decide +kernel
theorem d_Sc_weighed_4 : decode b_Sc_weighed 4 = .ok (.iload_n 0, 1) := by decide +kernel
theorem d_Sc_weighed_5 : decode b_Sc_weighed 5 = .ok (.iload_n 1, 1) := by decide +kernel
theorem d_Sc_weighed_6 : decode b_Sc_weighed 6 = .ok (.imul, 1) := by decide +kernel
theorem d_Sc_weighed_7 : decode b_Sc_weighed 7 = .ok (.goto 4, 3) := by decide +kernel
theorem d_Sc_weighed_10 : decode b_Sc_weighed 10 = .ok (.iconst (-1), 1) := by decide +kernel
theorem d_Sc_weighed_11 : decode b_Sc_weighed 11 = .ok (.ireturn, 1) := by decide +kernel
theorem d_Sc_oneIf_0 : decode b_Sc_oneIf 0 = .ok (.iload_n 0, 1) := by decide +kernel
theorem d_Sc_oneIf_1 : decode b_Sc_oneIf 1 = .ok (.ifCond .eq 7, 3) := by decide +kernel
theorem d_Sc_oneIf_4 : decode b_Sc_oneIf 4 = .ok (.iconst 1, 1) := by decide +kernel
theorem d_Sc_oneIf_5 : decode b_Sc_oneIf 5 = .ok (.goto 4, 3) := by decide +kernel
theorem d_Sc_oneIf_8 : decode b_Sc_oneIf 8 = .ok (.iconst (-1), 1) := by decide +kernel
theorem d_Sc_oneIf_9 : decode b_Sc_oneIf 9 = .ok (.ireturn, 1) := by decide +kernel
theorem d_Sc_sumOfBoth_0 : decode b_Sc_sumOfBoth 0 = .ok (.iload_n 0, 1) := by decide +kernel
theorem d_Sc_sumOfBoth_1 : decode b_Sc_sumOfBoth 1 = .ok (.iconst (-1), 1) := by decide +kernel
theorem d_Sc_sumOfBoth_2 : decode b_Sc_sumOfBoth 2 = .ok (.if_icmp .eq 8, 3) := by decide +kernel
theorem d_Sc_sumOfBoth_5 : decode b_Sc_sumOfBoth 5 = .ok (.iload_n 1, 1) := by decide +kernel
theorem d_Sc_sumOfBoth_6 : decode b_Sc_sumOfBoth 6 = .ok (.iconst (-1), 1) := by decide +kernel
theorem d_Sc_sumOfBoth_7 : decode b_Sc_sumOfBoth 7 = .ok (.if_icmp .ne 7, 3) := by decide +kernel
theorem d_Sc_sumOfBoth_10 : decode b_Sc_sumOfBoth 10 = .ok (.iconst (-1), 1) := by decide +kernel
theorem d_Sc_sumOfBoth_11 : decode b_Sc_sumOfBoth 11 = .ok (.goto 6, 3) := by decide +kernel
theorem d_Sc_sumOfBoth_14 : decode b_Sc_sumOfBoth 14 = .ok (.iload_n 0, 1) := by decide +kernel
theorem d_Sc_sumOfBoth_15 : decode b_Sc_sumOfBoth 15 = .ok (.iload_n 1, 1) := by decide +kernel
theorem d_Sc_sumOfBoth_16 : decode b_Sc_sumOfBoth 16 = .ok (.iadd, 1) := by decide +kernel
theorem d_Sc_sumOfBoth_17 : decode b_Sc_sumOfBoth 17 = .ok (.ireturn, 1) := by decide +kernel
theorem d_Sc_sumOfEither_0 : decode b_Sc_sumOfEither 0 = .ok (.iload_n 0, 1) := by decide +kernel
theorem d_Sc_sumOfEither_1 : decode b_Sc_sumOfEither 1 = .ok (.iconst (-1), 1) := by decide +kernel
theorem d_Sc_sumOfEither_2 : decode b_Sc_sumOfEither 2 = .ok (.if_icmp .ne 5, 3) := by decide +kernel
theorem d_Sc_sumOfEither_5 : decode b_Sc_sumOfEither 5 = .ok (.iload_n 1, 1) := by decide +kernel
theorem d_Sc_sumOfEither_6 : decode b_Sc_sumOfEither 6 = .ok (.ireturn, 1) := by decide +kernel
theorem d_Sc_sumOfEither_7 : decode b_Sc_sumOfEither 7 = .ok (.iload_n 1, 1) := by decide +kernel
theorem d_Sc_sumOfEither_8 : decode b_Sc_sumOfEither 8 = .ok (.iconst (-1), 1) := by decide +kernel
theorem d_Sc_sumOfEither_9 : decode b_Sc_sumOfEither 9 = .ok (.if_icmp .ne 7, 3) := by decide +kernel
theorem d_Sc_sumOfEither_12 : decode b_Sc_sumOfEither 12 = .ok (.iload_n 0, 1) := by decide +kernel
theorem d_Sc_sumOfEither_13 : decode b_Sc_sumOfEither 13 = .ok (.goto 6, 3) := by decide +kernel
theorem d_Sc_sumOfEither_16 : decode b_Sc_sumOfEither 16 = .ok (.iload_n 0, 1) := by decide +kernel
theorem d_Sc_sumOfEither_17 : decode b_Sc_sumOfEither 17 = .ok (.iload_n 1, 1) := by decide +kernel
theorem d_Sc_sumOfEither_18 : decode b_Sc_sumOfEither 18 = .ok (.iadd, 1) := by decide +kernel
theorem d_Sc_sumOfEither_19 : decode b_Sc_sumOfEither 19 = .ok (.ireturn, 1) := by decide +kernel
theorem d_Sc_nested_0 : decode b_Sc_nested 0 = .ok (.iconst 0, 1) := by decide +kernel
theorem d_Sc_nested_1 : decode b_Sc_nested 1 = .ok (.istore 5, 2) := by decide +kernel
theorem d_Sc_nested_3 : decode b_Sc_nested 3 = .ok (.iconst 0, 1) := by decide +kernel
theorem d_Sc_nested_4 : decode b_Sc_nested 4 = .ok (.istore 6, 2) := by decide +kernel
theorem d_Sc_nested_6 : decode b_Sc_nested 6 = .ok (.iconst 0, 1) := by decide +kernel
theorem d_Sc_nested_7 : decode b_Sc_nested 7 = .ok (.istore 7, 2) := by decide +kernel
theorem d_Sc_nested_9 : decode b_Sc_nested 9 = .ok (.iconst 0, 1) := by decide +kernel
theorem d_Sc_nested_10 : decode b_Sc_nested 10 = .ok (.istore 8, 2) := by decide +kernel
theorem d_Sc_nested_12 : decode b_Sc_nested 12 = .ok (.aload_n 3, 1) := by decide +kernel
theorem d_Sc_nested_13 : decode b_Sc_nested 13 = .ok (.iload 4, 2) := by decide +kernel
theorem d_Sc_nested_15 : decode b_Sc_nested 15 = .ok (.aaload, 1) := by decide +kernel
theorem d_Sc_nested_16 : decode b_Sc_nested 16 = .ok (.getfield 98, 3) := by decide +kernel
theorem d_Sc_nested_19 : decode b_Sc_nested 19 = .ok (.istore 9, 2) := by decide +kernel
theorem d_Sc_nested_21 : decode b_Sc_nested 21 = .ok (.iload 9, 2) := by decide +kernel
theorem d_Sc_nested_23 : decode b_Sc_nested 23 = .ok (.iload 4, 2) := by decide +kernel
theorem d_Sc_nested_25 : decode b_Sc_nested 25 = .ok (.if_icmp .ge 112, 3) := by decide +kernel
theorem d_Sc_nested_28 : decode b_Sc_nested 28 = .ok (.aload_n 3, 1) := by decide +kernel
theorem d_Sc_nested_29 : decode b_Sc_nested 29 = .ok (.iload 9, 2) := by decide +kernel
theorem d_Sc_nested_31 : decode b_Sc_nested 31 = .ok (.aaload, 1) := by decide +kernel
theorem d_Sc_nested_32 : decode b_Sc_nested 32 = .ok (.getfield 101, 3) := by decide +kernel
theorem d_Sc_nested_35 : decode b_Sc_nested 35 = .ok (.aload_n 3, 1) := by decide +kernel
theorem d_Sc_nested_36 : decode b_Sc_nested 36 = .ok (.iload 4, 2) := by decide +kernel
theorem d_Sc_nested_38 : decode b_Sc_nested 38 = .ok (.aaload, 1) := by decide +kernel
theorem d_Sc_nested_39 : decode b_Sc_nested 39 = .ok (.if_acmp .ne 23, 3) := by decide +kernel
theorem d_Sc_nested_42 : decode b_Sc_nested 42 = .ok (.aload_n 3, 1) := by decide +kernel
theorem d_Sc_nested_43 : decode b_Sc_nested 43 = .ok (.iload 9, 2) := by decide +kernel
theorem d_Sc_nested_45 : decode b_Sc_nested 45 = .ok (.aaload, 1) := by decide +kernel
theorem d_Sc_nested_46 : decode b_Sc_nested 46 = .ok (.getfield 53, 3) := by decide +kernel
theorem d_Sc_nested_49 : decode b_Sc_nested 49 = .ok (.aload_n 1, 1) := by decide +kernel
theorem d_Sc_nested_50 : decode b_Sc_nested 50 = .ok (.getfield 61, 3) := by decide +kernel
theorem d_Sc_nested_53 : decode b_Sc_nested 53 = .ok (.iload_n 2, 1) := by decide +kernel
theorem d_Sc_nested_54 : decode b_Sc_nested 54 = .ok (.iaload, 1) := by decide +kernel
theorem d_Sc_nested_55 : decode b_Sc_nested 55 = .ok (.if_icmp .ne 7, 3) := by decide +kernel
theorem d_Sc_nested_58 : decode b_Sc_nested 58 = .ok (.iconst 1, 1) := by decide +kernel
theorem d_Sc_nested_59 : decode b_Sc_nested 59 = .ok (.goto 4, 3) := by decide +kernel
theorem d_Sc_nested_62 : decode b_Sc_nested 62 = .ok (.iconst 0, 1) := by decide +kernel
theorem d_Sc_nested_63 : decode b_Sc_nested 63 = .ok (.istore 10, 2) := by decide +kernel
theorem d_Sc_nested_65 : decode b_Sc_nested 65 = .ok (.iload 10, 2) := by decide +kernel
theorem d_Sc_nested_67 : decode b_Sc_nested 67 = .ok (.ifCond .eq 17, 3) := by decide +kernel
theorem d_Sc_nested_70 : decode b_Sc_nested 70 = .ok (.aload_n 0, 1) := by decide +kernel
theorem d_Sc_nested_71 : decode b_Sc_nested 71 = .ok (.getfield 20, 3) := by decide +kernel
theorem d_Sc_nested_74 : decode b_Sc_nested 74 = .ok (.iload_n 2, 1) := by decide +kernel
theorem d_Sc_nested_75 : decode b_Sc_nested 75 = .ok (.iconst 1, 1) := by decide +kernel
theorem d_Sc_nested_76 : decode b_Sc_nested 76 = .ok (.iadd, 1) := by decide +kernel
theorem d_Sc_nested_77 : decode b_Sc_nested 77 = .ok (.aaload, 1) := by decide +kernel
theorem d_Sc_nested_78 : decode b_Sc_nested 78 = .ok (.iload 9, 2) := by decide +kernel
theorem d_Sc_nested_80 : decode b_Sc_nested 80 = .ok (.iaload, 1) := by decide +kernel
theorem d_Sc_nested_81 : decode b_Sc_nested 81 = .ok (.goto 4, 3) := by decide +kernel
theorem d_Sc_nested_84 : decode b_Sc_nested 84 = .ok (.iconst (-1), 1) := by decide +kernel
theorem d_Sc_nested_85 : decode b_Sc_nested 85 = .ok (.istore 11, 2) := by decide +kernel
theorem d_Sc_nested_87 : decode b_Sc_nested 87 = .ok (.iload 11, 2) := by decide +kernel
theorem d_Sc_nested_89 : decode b_Sc_nested 89 = .ok (.iconst (-1), 1) := by decide +kernel
theorem d_Sc_nested_90 : decode b_Sc_nested 90 = .ok (.if_icmp .eq 41, 3) := by decide +kernel
theorem d_Sc_nested_93 : decode b_Sc_nested 93 = .ok (.iload 5, 2) := by decide +kernel
theorem d_Sc_nested_95 : decode b_Sc_nested 95 = .ok (.ifCond .ne 8, 3) := by decide +kernel
theorem d_Sc_nested_98 : decode b_Sc_nested 98 = .ok (.iload 11, 2) := by decide +kernel
theorem d_Sc_nested_100 : decode b_Sc_nested 100 = .ok (.goto 10, 3) := by decide +kernel
theorem d_Sc_nested_103 : decode b_Sc_nested 103 = .ok (.iload 7, 2) := by decide +kernel
theorem d_Sc_nested_105 : decode b_Sc_nested 105 = .ok (.iload 11, 2) := by decide +kernel
theorem d_Sc_nested_107 : decode b_Sc_nested 107 = .ok (.invokestatic 105, 3) := by decide +kernel
theorem d_Sc_nested_110 : decode b_Sc_nested 110 = .ok (.istore 7, 2) := by decide +kernel
theorem d_Sc_nested_112 : decode b_Sc_nested 112 = .ok (.iload 8, 2) := by decide +kernel
theorem d_Sc_nested_114 : decode b_Sc_nested 114 = .ok (.iload 11, 2) := by decide +kernel
theorem d_Sc_nested_116 : decode b_Sc_nested 116 = .ok (.invokestatic 110, 3) := by decide +kernel
theorem d_Sc_nested_119 : decode b_Sc_nested 119 = .ok (.istore 8, 2) := by decide +kernel
theorem d_Sc_nested_121 : decode b_Sc_nested 121 = .ok (.iload 6, 2) := by decide +kernel
theorem d_Sc_nested_123 : decode b_Sc_nested 123 = .ok (.iload 11, 2) := by decide +kernel
theorem d_Sc_nested_125 : decode b_Sc_nested 125 = .ok (.iadd, 1) := by decide +kernel
theorem d_Sc_nested_126 : decode b_Sc_nested 126 = .ok (.istore 6, 2) := by decide +kernel
theorem d_Sc_nested_128 : decode b_Sc_nested 128 = .ok (.iinc 5 1, 3) := by decide +kernel
theorem d_Sc_nested_131 : decode b_Sc_nested 131 = .ok (.iinc 9 1, 3) := by decide +kernel
theorem d_Sc_nested_134 : decode b_Sc_nested 134 = .ok (.goto (-113), 3) := by decide +kernel
theorem d_Sc_nested_137 : decode b_Sc_nested 137 = .ok (.iload 5, 2) := by decide +kernel
theorem d_Sc_nested_139 : decode b_Sc_nested 139 = .ok (.ifCond .ne 5, 3) := by decide +kernel
theorem d_Sc_nested_142 : decode b_Sc_nested 142 = .ok (.iconst (-1), 1) := by decide +kernel
theorem d_Sc_nested_143 : decode b_Sc_nested 143 = .ok (.ireturn, 1) := by decide +kernel
theorem d_Sc_nested_144 : decode b_Sc_nested 144 = .ok (.aload_n 1, 1) := by decide +kernel
theorem d_Sc_nested_145 : decode b_Sc_nested 145 = .ok (.getfield 64, 3) := by decide +kernel
theorem d_Sc_nested_148 : decode b_Sc_nested 148 = .ok (.iload_n 2, 1) := by decide +kernel
theorem d_Sc_nested_149 : decode b_Sc_nested 149 = .ok (.iaload, 1) := by decide +kernel
theorem d_Sc_nested_150 : decode b_Sc_nested 150 = .ok (.tableswitch 45 1 4 #[30, 33, 39, 42], 30) := by decide +kernel
theorem d_Sc_nested_180 : decode b_Sc_nested 180 = .ok (.iload 6, 2) := by decide +kernel
theorem d_Sc_nested_182 : decode b_Sc_nested 182 = .ok (.ireturn, 1) := by decide +kernel
theorem d_Sc_nested_183 : decode b_Sc_nested 183 = .ok (.iload 6, 2) := by decide +kernel
theorem d_Sc_nested_185 : decode b_Sc_nested 185 = .ok (.iload 5, 2) := by decide +kernel
theorem d_Sc_nested_187 : decode b_Sc_nested 187 = .ok (.idiv, 1) := by decide +kernel
theorem d_Sc_nested_188 : decode b_Sc_nested 188 = .ok (.ireturn, 1) := by decide +kernel
theorem d_Sc_nested_189 : decode b_Sc_nested 189 = .ok (.iload 7, 2) := by decide +kernel
theorem d_Sc_nested_191 : decode b_Sc_nested 191 = .ok (.ireturn, 1) := by decide +kernel
theorem d_Sc_nested_192 : decode b_Sc_nested 192 = .ok (.iload 8, 2) := by decide +kernel
theorem d_Sc_nested_194 : decode b_Sc_nested 194 = .ok (.ireturn, 1) := by decide +kernel
theorem d_Sc_nested_195 : decode b_Sc_nested 195 = .ok (.iconst 0, 1) := by decide +kernel
theorem d_Sc_nested_196 : decode b_Sc_nested 196 = .ok (.ireturn, 1) := by decide +kernel
theorem d_Sn_init_0 : decode b_Sn_init 0 = .ok (.aload_n 0, 1) := by decide +kernel
theorem d_Sn_init_1 : decode b_Sn_init 1 = .ok (.invokespecial 3, 3) := by decide +kernel
theorem d_Sn_init_4 : decode b_Sn_init 4 = .ok (.aload_n 0, 1) := by decide +kernel
theorem d_Sn_init_5 : decode b_Sn_init 5 = .ok (.iconst 0, 1) := by decide +kernel
theorem d_Sn_init_6 : decode b_Sn_init 6 = .ok (.putfield 9, 3) := by decide +kernel
theorem d_Sn_init_9 : decode b_Sn_init 9 = .ok (.aload_n 0, 1) := by decide +kernel
theorem d_Sn_init_10 : decode b_Sn_init 10 = .ok (.iconst 0, 1) := by decide +kernel
theorem d_Sn_init_11 : decode b_Sn_init 11 = .ok (.putfield 15, 3) := by decide +kernel
theorem d_Sn_init_14 : decode b_Sn_init 14 = .ok (.aload_n 0, 1) := by decide +kernel
theorem d_Sn_init_15 : decode b_Sn_init 15 = .ok (.bipush 120, 2) := by decide +kernel
theorem d_Sn_init_17 : decode b_Sn_init 17 = .ok (.anewarray 19, 3) := by decide +kernel
theorem d_Sn_init_20 : decode b_Sn_init 20 = .ok (.putfield 21, 3) := by decide +kernel
theorem d_Sn_init_23 : decode b_Sn_init 23 = .ok (.aload_n 0, 1) := by decide +kernel
theorem d_Sn_init_24 : decode b_Sn_init 24 = .ok (.bipush 120, 2) := by decide +kernel
theorem d_Sn_init_26 : decode b_Sn_init 26 = .ok (.newarray .boolean, 2) := by decide +kernel
theorem d_Sn_init_28 : decode b_Sn_init 28 = .ok (.putfield 25, 3) := by decide +kernel
theorem d_Sn_init_31 : decode b_Sn_init 31 = .ok (.aload_n 0, 1) := by decide +kernel
theorem d_Sn_init_32 : decode b_Sn_init 32 = .ok (.bipush 120, 2) := by decide +kernel
theorem d_Sn_init_34 : decode b_Sn_init 34 = .ok (.newarray .int, 2) := by decide +kernel
theorem d_Sn_init_36 : decode b_Sn_init 36 = .ok (.putfield 29, 3) := by decide +kernel
theorem d_Sn_init_39 : decode b_Sn_init 39 = .ok (.aload_n 0, 1) := by decide +kernel
theorem d_Sn_init_40 : decode b_Sn_init 40 = .ok (.bipush 120, 2) := by decide +kernel
theorem d_Sn_init_42 : decode b_Sn_init 42 = .ok (.newarray .int, 2) := by decide +kernel
theorem d_Sn_init_44 : decode b_Sn_init 44 = .ok (.putfield 33, 3) := by decide +kernel
theorem d_Sn_init_47 : decode b_Sn_init 47 = .ok (.return_, 1) := by decide +kernel
theorem d_Sn_begin_0 : decode b_Sn_begin 0 = .ok (.aload_n 0, 1) := by decide +kernel
theorem d_Sn_begin_1 : decode b_Sn_begin 1 = .ok (.iconst 1, 1) := by decide +kernel
theorem d_Sn_begin_2 : decode b_Sn_begin 2 = .ok (.putfield 9, 3) := by decide +kernel
theorem d_Sn_begin_5 : decode b_Sn_begin 5 = .ok (.aload_n 0, 1) := by decide +kernel
theorem d_Sn_begin_6 : decode b_Sn_begin 6 = .ok (.iconst 0, 1) := by decide +kernel
theorem d_Sn_begin_7 : decode b_Sn_begin 7 = .ok (.putfield 15, 3) := by decide +kernel
theorem d_Sn_begin_10 : decode b_Sn_begin 10 = .ok (.return_, 1) := by decide +kernel
theorem d_Sn_takeIn_0 : decode b_Sn_takeIn 0 = .ok (.iconst 0, 1) := by decide +kernel
theorem d_Sn_takeIn_1 : decode b_Sn_takeIn 1 = .ok (.istore_n 3, 1) := by decide +kernel
theorem d_Sn_takeIn_2 : decode b_Sn_takeIn 2 = .ok (.iconst 0, 1) := by decide +kernel
theorem d_Sn_takeIn_3 : decode b_Sn_takeIn 3 = .ok (.istore 4, 2) := by decide +kernel
theorem d_Sn_takeIn_5 : decode b_Sn_takeIn 5 = .ok (.iload 4, 2) := by decide +kernel
theorem d_Sn_takeIn_7 : decode b_Sn_takeIn 7 = .ok (.aload_n 2, 1) := by decide +kernel
theorem d_Sn_takeIn_8 : decode b_Sn_takeIn 8 = .ok (.getfield 36, 3) := by decide +kernel
theorem d_Sn_takeIn_11 : decode b_Sn_takeIn 11 = .ok (.if_icmp .ge 93, 3) := by decide +kernel
theorem d_Sn_takeIn_14 : decode b_Sn_takeIn 14 = .ok (.aload_n 0, 1) := by decide +kernel
theorem d_Sn_takeIn_15 : decode b_Sn_takeIn 15 = .ok (.getfield 15, 3) := by decide +kernel
theorem d_Sn_takeIn_18 : decode b_Sn_takeIn 18 = .ok (.bipush 120, 2) := by decide +kernel
theorem d_Sn_takeIn_20 : decode b_Sn_takeIn 20 = .ok (.if_icmp .ge 84, 3) := by decide +kernel
theorem d_Sn_takeIn_23 : decode b_Sn_takeIn 23 = .ok (.aload_n 2, 1) := by decide +kernel
theorem d_Sn_takeIn_24 : decode b_Sn_takeIn 24 = .ok (.getfield 39, 3) := by decide +kernel
theorem d_Sn_takeIn_27 : decode b_Sn_takeIn 27 = .ok (.iload 4, 2) := by decide +kernel
theorem d_Sn_takeIn_29 : decode b_Sn_takeIn 29 = .ok (.aaload, 1) := by decide +kernel
theorem d_Sn_takeIn_30 : decode b_Sn_takeIn 30 = .ok (.astore 5, 2) := by decide +kernel
theorem d_Sn_takeIn_32 : decode b_Sn_takeIn 32 = .ok (.iload_n 3, 1) := by decide +kernel
theorem d_Sn_takeIn_33 : decode b_Sn_takeIn 33 = .ok (.aload 5, 2) := by decide +kernel
theorem d_Sn_takeIn_35 : decode b_Sn_takeIn 35 = .ok (.getfield 40, 3) := by decide +kernel
theorem d_Sn_takeIn_38 : decode b_Sn_takeIn 38 = .ok (.arraylength, 1) := by decide +kernel
theorem d_Sn_takeIn_39 : decode b_Sn_takeIn 39 = .ok (.iadd, 1) := by decide +kernel
theorem d_Sn_takeIn_40 : decode b_Sn_takeIn 40 = .ok (.istore_n 3, 1) := by decide +kernel
theorem d_Sn_takeIn_41 : decode b_Sn_takeIn 41 = .ok (.aload_n 0, 1) := by decide +kernel
theorem d_Sn_takeIn_42 : decode b_Sn_takeIn 42 = .ok (.getfield 21, 3) := by decide +kernel
theorem d_Sn_takeIn_45 : decode b_Sn_takeIn 45 = .ok (.aload_n 0, 1) := by decide +kernel
theorem d_Sn_takeIn_46 : decode b_Sn_takeIn 46 = .ok (.getfield 15, 3) := by decide +kernel
theorem d_Sn_takeIn_49 : decode b_Sn_takeIn 49 = .ok (.aload 5, 2) := by decide +kernel
theorem d_Sn_takeIn_51 : decode b_Sn_takeIn 51 = .ok (.aastore, 1) := by decide +kernel
theorem d_Sn_takeIn_52 : decode b_Sn_takeIn 52 = .ok (.aload_n 0, 1) := by decide +kernel
theorem d_Sn_takeIn_53 : decode b_Sn_takeIn 53 = .ok (.getfield 25, 3) := by decide +kernel
theorem d_Sn_takeIn_56 : decode b_Sn_takeIn 56 = .ok (.aload_n 0, 1) := by decide +kernel
theorem d_Sn_takeIn_57 : decode b_Sn_takeIn 57 = .ok (.getfield 15, 3) := by decide +kernel
theorem d_Sn_takeIn_60 : decode b_Sn_takeIn 60 = .ok (.aload 5, 2) := by decide +kernel
theorem d_Sn_takeIn_62 : decode b_Sn_takeIn 62 = .ok (.getfield 44, 3) := by decide +kernel
theorem d_Sn_takeIn_65 : decode b_Sn_takeIn 65 = .ok (.bastore, 1) := by decide +kernel
theorem d_Sn_takeIn_66 : decode b_Sn_takeIn 66 = .ok (.aload_n 0, 1) := by decide +kernel
theorem d_Sn_takeIn_67 : decode b_Sn_takeIn 67 = .ok (.getfield 29, 3) := by decide +kernel
theorem d_Sn_takeIn_70 : decode b_Sn_takeIn 70 = .ok (.aload_n 0, 1) := by decide +kernel
theorem d_Sn_takeIn_71 : decode b_Sn_takeIn 71 = .ok (.getfield 15, 3) := by decide +kernel
theorem d_Sn_takeIn_74 : decode b_Sn_takeIn 74 = .ok (.iload_n 1, 1) := by decide +kernel
theorem d_Sn_takeIn_75 : decode b_Sn_takeIn 75 = .ok (.iastore, 1) := by decide +kernel
theorem d_Sn_takeIn_76 : decode b_Sn_takeIn 76 = .ok (.aload_n 0, 1) := by decide +kernel
theorem d_Sn_takeIn_77 : decode b_Sn_takeIn 77 = .ok (.getfield 33, 3) := by decide +kernel
theorem d_Sn_takeIn_80 : decode b_Sn_takeIn 80 = .ok (.aload_n 0, 1) := by decide +kernel
theorem d_Sn_takeIn_81 : decode b_Sn_takeIn 81 = .ok (.getfield 15, 3) := by decide +kernel
theorem d_Sn_takeIn_84 : decode b_Sn_takeIn 84 = .ok (.iload_n 3, 1) := by decide +kernel
theorem d_Sn_takeIn_85 : decode b_Sn_takeIn 85 = .ok (.iconst 1, 1) := by decide +kernel
theorem d_Sn_takeIn_86 : decode b_Sn_takeIn 86 = .ok (.isub, 1) := by decide +kernel
theorem d_Sn_takeIn_87 : decode b_Sn_takeIn 87 = .ok (.iastore, 1) := by decide +kernel
theorem d_Sn_takeIn_88 : decode b_Sn_takeIn 88 = .ok (.aload_n 0, 1) := by decide +kernel
theorem d_Sn_takeIn_89 : decode b_Sn_takeIn 89 = .ok (.dup, 1) := by decide +kernel
theorem d_Sn_takeIn_90 : decode b_Sn_takeIn 90 = .ok (.getfield 15, 3) := by decide +kernel
theorem d_Sn_takeIn_93 : decode b_Sn_takeIn 93 = .ok (.iconst 1, 1) := by decide +kernel
theorem d_Sn_takeIn_94 : decode b_Sn_takeIn 94 = .ok (.iadd, 1) := by decide +kernel
theorem d_Sn_takeIn_95 : decode b_Sn_takeIn 95 = .ok (.putfield 15, 3) := by decide +kernel
theorem d_Sn_takeIn_98 : decode b_Sn_takeIn 98 = .ok (.iinc 4 1, 3) := by decide +kernel
theorem d_Sn_takeIn_101 : decode b_Sn_takeIn 101 = .ok (.goto (-96), 3) := by decide +kernel
theorem d_Sn_takeIn_104 : decode b_Sn_takeIn 104 = .ok (.return_, 1) := by decide +kernel
theorem d_Sn_liveCount_0 : decode b_Sn_liveCount 0 = .ok (.iconst 0, 1) := by decide +kernel
theorem d_Sn_liveCount_1 : decode b_Sn_liveCount 1 = .ok (.istore_n 1, 1) := by decide +kernel
theorem d_Sn_liveCount_2 : decode b_Sn_liveCount 2 = .ok (.iconst 0, 1) := by decide +kernel
theorem d_Sn_liveCount_3 : decode b_Sn_liveCount 3 = .ok (.istore_n 2, 1) := by decide +kernel
theorem d_Sn_liveCount_4 : decode b_Sn_liveCount 4 = .ok (.iload_n 2, 1) := by decide +kernel
theorem d_Sn_liveCount_5 : decode b_Sn_liveCount 5 = .ok (.aload_n 0, 1) := by decide +kernel
theorem d_Sn_liveCount_6 : decode b_Sn_liveCount 6 = .ok (.getfield 15, 3) := by decide +kernel
theorem d_Sn_liveCount_9 : decode b_Sn_liveCount 9 = .ok (.if_icmp .ge 21, 3) := by decide +kernel
theorem d_Sn_liveCount_12 : decode b_Sn_liveCount 12 = .ok (.aload_n 0, 1) := by decide +kernel
theorem d_Sn_liveCount_13 : decode b_Sn_liveCount 13 = .ok (.getfield 25, 3) := by decide +kernel
theorem d_Sn_liveCount_16 : decode b_Sn_liveCount 16 = .ok (.iload_n 2, 1) := by decide +kernel
theorem d_Sn_liveCount_17 : decode b_Sn_liveCount 17 = .ok (.baload, 1) := by decide +kernel
theorem d_Sn_liveCount_18 : decode b_Sn_liveCount 18 = .ok (.ifCond .eq 6, 3) := by decide +kernel
theorem d_Sn_liveCount_21 : decode b_Sn_liveCount 21 = .ok (.iinc 1 1, 3) := by decide +kernel
theorem d_Sn_liveCount_24 : decode b_Sn_liveCount 24 = .ok (.iinc 2 1, 3) := by decide +kernel
theorem d_Sn_liveCount_27 : decode b_Sn_liveCount 27 = .ok (.goto (-23), 3) := by decide +kernel
theorem d_Sn_liveCount_30 : decode b_Sn_liveCount 30 = .ok (.iload_n 1, 1) := by decide +kernel
theorem d_Sn_liveCount_31 : decode b_Sn_liveCount 31 = .ok (.ireturn, 1) := by decide +kernel
theorem d_Sn_liveWith_0 : decode b_Sn_liveWith 0 = .ok (.iconst 0, 1) := by decide +kernel
theorem d_Sn_liveWith_1 : decode b_Sn_liveWith 1 = .ok (.istore_n 2, 1) := by decide +kernel
theorem d_Sn_liveWith_2 : decode b_Sn_liveWith 2 = .ok (.iload_n 2, 1) := by decide +kernel
theorem d_Sn_liveWith_3 : decode b_Sn_liveWith 3 = .ok (.aload_n 0, 1) := by decide +kernel
theorem d_Sn_liveWith_4 : decode b_Sn_liveWith 4 = .ok (.getfield 15, 3) := by decide +kernel
theorem d_Sn_liveWith_7 : decode b_Sn_liveWith 7 = .ok (.if_icmp .ge 38, 3) := by decide +kernel
theorem d_Sn_liveWith_10 : decode b_Sn_liveWith 10 = .ok (.aload_n 0, 1) := by decide +kernel
theorem d_Sn_liveWith_11 : decode b_Sn_liveWith 11 = .ok (.getfield 25, 3) := by decide +kernel
theorem d_Sn_liveWith_14 : decode b_Sn_liveWith 14 = .ok (.iload_n 2, 1) := by decide +kernel
theorem d_Sn_liveWith_15 : decode b_Sn_liveWith 15 = .ok (.baload, 1) := by decide +kernel
theorem d_Sn_liveWith_16 : decode b_Sn_liveWith 16 = .ok (.ifCond .eq 23, 3) := by decide +kernel
theorem d_Sn_liveWith_19 : decode b_Sn_liveWith 19 = .ok (.aload_n 0, 1) := by decide +kernel
theorem d_Sn_liveWith_20 : decode b_Sn_liveWith 20 = .ok (.getfield 21, 3) := by decide +kernel
theorem d_Sn_liveWith_23 : decode b_Sn_liveWith 23 = .ok (.iload_n 2, 1) := by decide +kernel
theorem d_Sn_liveWith_24 : decode b_Sn_liveWith 24 = .ok (.aaload, 1) := by decide +kernel
theorem d_Sn_liveWith_25 : decode b_Sn_liveWith 25 = .ok (.getfield 46, 3) := by decide +kernel
theorem d_Sn_liveWith_28 : decode b_Sn_liveWith 28 = .ok (.iload_n 1, 1) := by decide +kernel
theorem d_Sn_liveWith_29 : decode b_Sn_liveWith 29 = .ok (.if_icmp .ne 10, 3) := by decide +kernel
theorem d_Sn_liveWith_32 : decode b_Sn_liveWith 32 = .ok (.aload_n 0, 1) := by decide +kernel
theorem d_Sn_liveWith_33 : decode b_Sn_liveWith 33 = .ok (.getfield 21, 3) := by decide +kernel
theorem d_Sn_liveWith_36 : decode b_Sn_liveWith 36 = .ok (.iload_n 2, 1) := by decide +kernel
theorem d_Sn_liveWith_37 : decode b_Sn_liveWith 37 = .ok (.aaload, 1) := by decide +kernel
theorem d_Sn_liveWith_38 : decode b_Sn_liveWith 38 = .ok (.areturn, 1) := by decide +kernel
theorem d_Sn_liveWith_39 : decode b_Sn_liveWith 39 = .ok (.iinc 2 1, 3) := by decide +kernel
theorem d_Sn_liveWith_42 : decode b_Sn_liveWith 42 = .ok (.goto (-40), 3) := by decide +kernel
theorem d_Sn_liveWith_45 : decode b_Sn_liveWith 45 = .ok (.aconst_null, 1) := by decide +kernel
theorem d_Sn_liveWith_46 : decode b_Sn_liveWith 46 = .ok (.areturn, 1) := by decide +kernel
theorem d_L_law_0 : decode code 0 = .ok (.new 7, 3) := by decide +kernel
theorem d_L_law_3 : decode code 3 = .ok (.dup, 1) := by decide +kernel
theorem d_L_law_4 : decode code 4 = .ok (.invokespecial 9, 3) := by decide +kernel
theorem d_L_law_7 : decode code 7 = .ok (.astore_n 1, 1) := by decide +kernel
theorem d_L_law_8 : decode code 8 = .ok (.new 10, 3) := by decide +kernel
theorem d_L_law_11 : decode code 11 = .ok (.dup, 1) := by decide +kernel
theorem d_L_law_12 : decode code 12 = .ok (.invokespecial 12, 3) := by decide +kernel
theorem d_L_law_15 : decode code 15 = .ok (.astore_n 2, 1) := by decide +kernel
theorem d_L_law_16 : decode code 16 = .ok (.iconst 0, 1) := by decide +kernel
theorem d_L_law_17 : decode code 17 = .ok (.istore_n 3, 1) := by decide +kernel
theorem d_L_law_18 : decode code 18 = .ok (.iload_n 3, 1) := by decide +kernel
theorem d_L_law_19 : decode code 19 = .ok (.aload_n 0, 1) := by decide +kernel
theorem d_L_law_20 : decode code 20 = .ok (.arraylength, 1) := by decide +kernel
theorem d_L_law_21 : decode code 21 = .ok (.iconst 4, 1) := by decide +kernel
theorem d_L_law_22 : decode code 22 = .ok (.isub, 1) := by decide +kernel
theorem d_L_law_23 : decode code 23 = .ok (.if_icmp .gt 547, 3) := by decide +kernel
theorem d_L_law_26 : decode code 26 = .ok (.aload_n 0, 1) := by decide +kernel
theorem d_L_law_27 : decode code 27 = .ok (.iload_n 3, 1) := by decide +kernel
theorem d_L_law_28 : decode code 28 = .ok (.iaload, 1) := by decide +kernel
theorem d_L_law_29 : decode code 29 = .ok (.bipush 31, 2) := by decide +kernel
theorem d_L_law_31 : decode code 31 = .ok (.iand, 1) := by decide +kernel
theorem d_L_law_32 : decode code 32 = .ok (.tableswitch 532 0 17 #[88, 111, 144, 177, 190, 203, 226, 249, 262, 295, 308, 351, 364, 377, 410, 433, 476, 509], 88) := by decide +kernel
theorem d_L_law_120 : decode code 120 = .ok (.aload_n 1, 1) := by decide +kernel
theorem d_L_law_121 : decode code 121 = .ok (.aload_n 0, 1) := by decide +kernel
theorem d_L_law_122 : decode code 122 = .ok (.iload_n 3, 1) := by decide +kernel
theorem d_L_law_123 : decode code 123 = .ok (.iconst 1, 1) := by decide +kernel
theorem d_L_law_124 : decode code 124 = .ok (.iadd, 1) := by decide +kernel
theorem d_L_law_125 : decode code 125 = .ok (.iaload, 1) := by decide +kernel
theorem d_L_law_126 : decode code 126 = .ok (.invokevirtual 13, 3) := by decide +kernel
theorem d_L_law_129 : decode code 129 = .ok (.aload_n 2, 1) := by decide +kernel
theorem d_L_law_130 : decode code 130 = .ok (.aload_n 0, 1) := by decide +kernel
theorem d_L_law_131 : decode code 131 = .ok (.iload_n 3, 1) := by decide +kernel
theorem d_L_law_132 : decode code 132 = .ok (.iconst 1, 1) := by decide +kernel
theorem d_L_law_133 : decode code 133 = .ok (.iadd, 1) := by decide +kernel
theorem d_L_law_134 : decode code 134 = .ok (.iaload, 1) := by decide +kernel
theorem d_L_law_135 : decode code 135 = .ok (.invokevirtual 17, 3) := by decide +kernel
theorem d_L_law_138 : decode code 138 = .ok (.if_icmp .eq 426, 3) := by decide +kernel
theorem d_L_law_141 : decode code 141 = .ok (.iconst 0, 1) := by decide +kernel
theorem d_L_law_142 : decode code 142 = .ok (.ireturn, 1) := by decide +kernel
theorem d_L_law_143 : decode code 143 = .ok (.aload_n 1, 1) := by decide +kernel
theorem d_L_law_144 : decode code 144 = .ok (.aload_n 0, 1) := by decide +kernel
theorem d_L_law_145 : decode code 145 = .ok (.iload_n 3, 1) := by decide +kernel
theorem d_L_law_146 : decode code 146 = .ok (.iconst 1, 1) := by decide +kernel
theorem d_L_law_147 : decode code 147 = .ok (.iadd, 1) := by decide +kernel
theorem d_L_law_148 : decode code 148 = .ok (.iaload, 1) := by decide +kernel
theorem d_L_law_149 : decode code 149 = .ok (.aload_n 0, 1) := by decide +kernel
theorem d_L_law_150 : decode code 150 = .ok (.iload_n 3, 1) := by decide +kernel
theorem d_L_law_151 : decode code 151 = .ok (.iconst 2, 1) := by decide +kernel
theorem d_L_law_152 : decode code 152 = .ok (.iadd, 1) := by decide +kernel
theorem d_L_law_153 : decode code 153 = .ok (.iaload, 1) := by decide +kernel
theorem d_L_law_154 : decode code 154 = .ok (.invokevirtual 18, 3) := by decide +kernel
theorem d_L_law_157 : decode code 157 = .ok (.aload_n 2, 1) := by decide +kernel
theorem d_L_law_158 : decode code 158 = .ok (.aload_n 0, 1) := by decide +kernel
theorem d_L_law_159 : decode code 159 = .ok (.iload_n 3, 1) := by decide +kernel
theorem d_L_law_160 : decode code 160 = .ok (.iconst 1, 1) := by decide +kernel
theorem d_L_law_161 : decode code 161 = .ok (.iadd, 1) := by decide +kernel
theorem d_L_law_162 : decode code 162 = .ok (.iaload, 1) := by decide +kernel
theorem d_L_law_163 : decode code 163 = .ok (.aload_n 0, 1) := by decide +kernel
theorem d_L_law_164 : decode code 164 = .ok (.iload_n 3, 1) := by decide +kernel
theorem d_L_law_165 : decode code 165 = .ok (.iconst 2, 1) := by decide +kernel
theorem d_L_law_166 : decode code 166 = .ok (.iadd, 1) := by decide +kernel
theorem d_L_law_167 : decode code 167 = .ok (.iaload, 1) := by decide +kernel
theorem d_L_law_168 : decode code 168 = .ok (.invokevirtual 22, 3) := by decide +kernel
theorem d_L_law_171 : decode code 171 = .ok (.if_icmp .eq 393, 3) := by decide +kernel
theorem d_L_law_174 : decode code 174 = .ok (.iconst 0, 1) := by decide +kernel
theorem d_L_law_175 : decode code 175 = .ok (.ireturn, 1) := by decide +kernel
theorem d_L_law_176 : decode code 176 = .ok (.aload_n 1, 1) := by decide +kernel
theorem d_L_law_177 : decode code 177 = .ok (.aload_n 0, 1) := by decide +kernel
theorem d_L_law_178 : decode code 178 = .ok (.iload_n 3, 1) := by decide +kernel
theorem d_L_law_179 : decode code 179 = .ok (.iconst 1, 1) := by decide +kernel
theorem d_L_law_180 : decode code 180 = .ok (.iadd, 1) := by decide +kernel
theorem d_L_law_181 : decode code 181 = .ok (.iaload, 1) := by decide +kernel
theorem d_L_law_182 : decode code 182 = .ok (.aload_n 0, 1) := by decide +kernel
theorem d_L_law_183 : decode code 183 = .ok (.iload_n 3, 1) := by decide +kernel
theorem d_L_law_184 : decode code 184 = .ok (.iconst 2, 1) := by decide +kernel
theorem d_L_law_185 : decode code 185 = .ok (.iadd, 1) := by decide +kernel
theorem d_L_law_186 : decode code 186 = .ok (.iaload, 1) := by decide +kernel
theorem d_L_law_187 : decode code 187 = .ok (.invokevirtual 23, 3) := by decide +kernel
theorem d_L_law_190 : decode code 190 = .ok (.aload_n 2, 1) := by decide +kernel
theorem d_L_law_191 : decode code 191 = .ok (.aload_n 0, 1) := by decide +kernel
theorem d_L_law_192 : decode code 192 = .ok (.iload_n 3, 1) := by decide +kernel
theorem d_L_law_193 : decode code 193 = .ok (.iconst 1, 1) := by decide +kernel
theorem d_L_law_194 : decode code 194 = .ok (.iadd, 1) := by decide +kernel
theorem d_L_law_195 : decode code 195 = .ok (.iaload, 1) := by decide +kernel
theorem d_L_law_196 : decode code 196 = .ok (.aload_n 0, 1) := by decide +kernel
theorem d_L_law_197 : decode code 197 = .ok (.iload_n 3, 1) := by decide +kernel
theorem d_L_law_198 : decode code 198 = .ok (.iconst 2, 1) := by decide +kernel
theorem d_L_law_199 : decode code 199 = .ok (.iadd, 1) := by decide +kernel
theorem d_L_law_200 : decode code 200 = .ok (.iaload, 1) := by decide +kernel
theorem d_L_law_201 : decode code 201 = .ok (.invokevirtual 27, 3) := by decide +kernel
theorem d_L_law_204 : decode code 204 = .ok (.if_icmp .eq 360, 3) := by decide +kernel
theorem d_L_law_207 : decode code 207 = .ok (.iconst 0, 1) := by decide +kernel
theorem d_L_law_208 : decode code 208 = .ok (.ireturn, 1) := by decide +kernel
theorem d_L_law_209 : decode code 209 = .ok (.aload_n 1, 1) := by decide +kernel
theorem d_L_law_210 : decode code 210 = .ok (.invokevirtual 28, 3) := by decide +kernel
theorem d_L_law_213 : decode code 213 = .ok (.aload_n 2, 1) := by decide +kernel
theorem d_L_law_214 : decode code 214 = .ok (.invokevirtual 32, 3) := by decide +kernel
theorem d_L_law_217 : decode code 217 = .ok (.if_icmp .eq 347, 3) := by decide +kernel
theorem d_L_law_220 : decode code 220 = .ok (.iconst 0, 1) := by decide +kernel
theorem d_L_law_221 : decode code 221 = .ok (.ireturn, 1) := by decide +kernel
theorem d_L_law_222 : decode code 222 = .ok (.aload_n 1, 1) := by decide +kernel
theorem d_L_law_223 : decode code 223 = .ok (.invokevirtual 33, 3) := by decide +kernel
theorem d_L_law_226 : decode code 226 = .ok (.aload_n 2, 1) := by decide +kernel
theorem d_L_law_227 : decode code 227 = .ok (.invokevirtual 36, 3) := by decide +kernel
theorem d_L_law_230 : decode code 230 = .ok (.if_icmp .eq 334, 3) := by decide +kernel
theorem d_L_law_233 : decode code 233 = .ok (.iconst 0, 1) := by decide +kernel
theorem d_L_law_234 : decode code 234 = .ok (.ireturn, 1) := by decide +kernel
theorem d_L_law_235 : decode code 235 = .ok (.aload_n 1, 1) := by decide +kernel
theorem d_L_law_236 : decode code 236 = .ok (.aload_n 0, 1) := by decide +kernel
theorem d_L_law_237 : decode code 237 = .ok (.iload_n 3, 1) := by decide +kernel
theorem d_L_law_238 : decode code 238 = .ok (.iconst 1, 1) := by decide +kernel
theorem d_L_law_239 : decode code 239 = .ok (.iadd, 1) := by decide +kernel
theorem d_L_law_240 : decode code 240 = .ok (.iaload, 1) := by decide +kernel
theorem d_L_law_241 : decode code 241 = .ok (.invokevirtual 37, 3) := by decide +kernel
theorem d_L_law_244 : decode code 244 = .ok (.aload_n 2, 1) := by decide +kernel
theorem d_L_law_245 : decode code 245 = .ok (.aload_n 0, 1) := by decide +kernel
theorem d_L_law_246 : decode code 246 = .ok (.iload_n 3, 1) := by decide +kernel
theorem d_L_law_247 : decode code 247 = .ok (.iconst 1, 1) := by decide +kernel
theorem d_L_law_248 : decode code 248 = .ok (.iadd, 1) := by decide +kernel
theorem d_L_law_249 : decode code 249 = .ok (.iaload, 1) := by decide +kernel
theorem d_L_law_250 : decode code 250 = .ok (.invokevirtual 40, 3) := by decide +kernel
theorem d_L_law_253 : decode code 253 = .ok (.if_icmp .eq 311, 3) := by decide +kernel
theorem d_L_law_256 : decode code 256 = .ok (.iconst 0, 1) := by decide +kernel
theorem d_L_law_257 : decode code 257 = .ok (.ireturn, 1) := by decide +kernel
theorem d_L_law_258 : decode code 258 = .ok (.aload_n 1, 1) := by decide +kernel
theorem d_L_law_259 : decode code 259 = .ok (.aload_n 0, 1) := by decide +kernel
theorem d_L_law_260 : decode code 260 = .ok (.iload_n 3, 1) := by decide +kernel
theorem d_L_law_261 : decode code 261 = .ok (.iconst 1, 1) := by decide +kernel
theorem d_L_law_262 : decode code 262 = .ok (.iadd, 1) := by decide +kernel
theorem d_L_law_263 : decode code 263 = .ok (.iaload, 1) := by decide +kernel
theorem d_L_law_264 : decode code 264 = .ok (.invokevirtual 41, 3) := by decide +kernel
theorem d_L_law_267 : decode code 267 = .ok (.aload_n 2, 1) := by decide +kernel
theorem d_L_law_268 : decode code 268 = .ok (.aload_n 0, 1) := by decide +kernel
theorem d_L_law_269 : decode code 269 = .ok (.iload_n 3, 1) := by decide +kernel
theorem d_L_law_270 : decode code 270 = .ok (.iconst 1, 1) := by decide +kernel
theorem d_L_law_271 : decode code 271 = .ok (.iadd, 1) := by decide +kernel
theorem d_L_law_272 : decode code 272 = .ok (.iaload, 1) := by decide +kernel
theorem d_L_law_273 : decode code 273 = .ok (.invokevirtual 45, 3) := by decide +kernel
theorem d_L_law_276 : decode code 276 = .ok (.if_icmp .eq 288, 3) := by decide +kernel
theorem d_L_law_279 : decode code 279 = .ok (.iconst 0, 1) := by decide +kernel
theorem d_L_law_280 : decode code 280 = .ok (.ireturn, 1) := by decide +kernel
theorem d_L_law_281 : decode code 281 = .ok (.aload_n 1, 1) := by decide +kernel
theorem d_L_law_282 : decode code 282 = .ok (.invokevirtual 46, 3) := by decide +kernel
theorem d_L_law_285 : decode code 285 = .ok (.aload_n 2, 1) := by decide +kernel
theorem d_L_law_286 : decode code 286 = .ok (.invokevirtual 49, 3) := by decide +kernel
theorem d_L_law_289 : decode code 289 = .ok (.if_icmp .eq 275, 3) := by decide +kernel
theorem d_L_law_292 : decode code 292 = .ok (.iconst 0, 1) := by decide +kernel
theorem d_L_law_293 : decode code 293 = .ok (.ireturn, 1) := by decide +kernel
theorem d_L_law_294 : decode code 294 = .ok (.aload_n 1, 1) := by decide +kernel
theorem d_L_law_295 : decode code 295 = .ok (.aload_n 0, 1) := by decide +kernel
theorem d_L_law_296 : decode code 296 = .ok (.iload_n 3, 1) := by decide +kernel
theorem d_L_law_297 : decode code 297 = .ok (.iconst 1, 1) := by decide +kernel
theorem d_L_law_298 : decode code 298 = .ok (.iadd, 1) := by decide +kernel
theorem d_L_law_299 : decode code 299 = .ok (.iaload, 1) := by decide +kernel
theorem d_L_law_300 : decode code 300 = .ok (.aload_n 0, 1) := by decide +kernel
theorem d_L_law_301 : decode code 301 = .ok (.iload_n 3, 1) := by decide +kernel
theorem d_L_law_302 : decode code 302 = .ok (.iconst 2, 1) := by decide +kernel
theorem d_L_law_303 : decode code 303 = .ok (.iadd, 1) := by decide +kernel
theorem d_L_law_304 : decode code 304 = .ok (.iaload, 1) := by decide +kernel
theorem d_L_law_305 : decode code 305 = .ok (.invokevirtual 50, 3) := by decide +kernel
theorem d_L_law_308 : decode code 308 = .ok (.aload_n 2, 1) := by decide +kernel
theorem d_L_law_309 : decode code 309 = .ok (.aload_n 0, 1) := by decide +kernel
theorem d_L_law_310 : decode code 310 = .ok (.iload_n 3, 1) := by decide +kernel
theorem d_L_law_311 : decode code 311 = .ok (.iconst 1, 1) := by decide +kernel
theorem d_L_law_312 : decode code 312 = .ok (.iadd, 1) := by decide +kernel
theorem d_L_law_313 : decode code 313 = .ok (.iaload, 1) := by decide +kernel
theorem d_L_law_314 : decode code 314 = .ok (.aload_n 0, 1) := by decide +kernel
theorem d_L_law_315 : decode code 315 = .ok (.iload_n 3, 1) := by decide +kernel
theorem d_L_law_316 : decode code 316 = .ok (.iconst 2, 1) := by decide +kernel
theorem d_L_law_317 : decode code 317 = .ok (.iadd, 1) := by decide +kernel
theorem d_L_law_318 : decode code 318 = .ok (.iaload, 1) := by decide +kernel
theorem d_L_law_319 : decode code 319 = .ok (.invokevirtual 53, 3) := by decide +kernel
theorem d_L_law_322 : decode code 322 = .ok (.if_icmp .eq 242, 3) := by decide +kernel
theorem d_L_law_325 : decode code 325 = .ok (.iconst 0, 1) := by decide +kernel
theorem d_L_law_326 : decode code 326 = .ok (.ireturn, 1) := by decide +kernel
theorem d_L_law_327 : decode code 327 = .ok (.aload_n 1, 1) := by decide +kernel
theorem d_L_law_328 : decode code 328 = .ok (.invokevirtual 54, 3) := by decide +kernel
theorem d_L_law_331 : decode code 331 = .ok (.aload_n 2, 1) := by decide +kernel
theorem d_L_law_332 : decode code 332 = .ok (.invokevirtual 57, 3) := by decide +kernel
theorem d_L_law_335 : decode code 335 = .ok (.if_icmp .eq 229, 3) := by decide +kernel
theorem d_L_law_338 : decode code 338 = .ok (.iconst 0, 1) := by decide +kernel
theorem d_L_law_339 : decode code 339 = .ok (.ireturn, 1) := by decide +kernel
theorem d_L_law_340 : decode code 340 = .ok (.aload_n 1, 1) := by decide +kernel
theorem d_L_law_341 : decode code 341 = .ok (.aload_n 0, 1) := by decide +kernel
theorem d_L_law_342 : decode code 342 = .ok (.iload_n 3, 1) := by decide +kernel
theorem d_L_law_343 : decode code 343 = .ok (.iconst 1, 1) := by decide +kernel
theorem d_L_law_344 : decode code 344 = .ok (.iadd, 1) := by decide +kernel
theorem d_L_law_345 : decode code 345 = .ok (.iaload, 1) := by decide +kernel
theorem d_L_law_346 : decode code 346 = .ok (.aload_n 0, 1) := by decide +kernel
theorem d_L_law_347 : decode code 347 = .ok (.iload_n 3, 1) := by decide +kernel
theorem d_L_law_348 : decode code 348 = .ok (.iconst 2, 1) := by decide +kernel
theorem d_L_law_349 : decode code 349 = .ok (.iadd, 1) := by decide +kernel
theorem d_L_law_350 : decode code 350 = .ok (.iaload, 1) := by decide +kernel
theorem d_L_law_351 : decode code 351 = .ok (.aload_n 0, 1) := by decide +kernel
theorem d_L_law_352 : decode code 352 = .ok (.iload_n 3, 1) := by decide +kernel
theorem d_L_law_353 : decode code 353 = .ok (.iconst 3, 1) := by decide +kernel
theorem d_L_law_354 : decode code 354 = .ok (.iadd, 1) := by decide +kernel
theorem d_L_law_355 : decode code 355 = .ok (.iaload, 1) := by decide +kernel
theorem d_L_law_356 : decode code 356 = .ok (.invokevirtual 58, 3) := by decide +kernel
theorem d_L_law_359 : decode code 359 = .ok (.aload_n 2, 1) := by decide +kernel
theorem d_L_law_360 : decode code 360 = .ok (.aload_n 0, 1) := by decide +kernel
theorem d_L_law_361 : decode code 361 = .ok (.iload_n 3, 1) := by decide +kernel
theorem d_L_law_362 : decode code 362 = .ok (.iconst 1, 1) := by decide +kernel
theorem d_L_law_363 : decode code 363 = .ok (.iadd, 1) := by decide +kernel
theorem d_L_law_364 : decode code 364 = .ok (.iaload, 1) := by decide +kernel
theorem d_L_law_365 : decode code 365 = .ok (.aload_n 0, 1) := by decide +kernel
theorem d_L_law_366 : decode code 366 = .ok (.iload_n 3, 1) := by decide +kernel
theorem d_L_law_367 : decode code 367 = .ok (.iconst 2, 1) := by decide +kernel
theorem d_L_law_368 : decode code 368 = .ok (.iadd, 1) := by decide +kernel
theorem d_L_law_369 : decode code 369 = .ok (.iaload, 1) := by decide +kernel
theorem d_L_law_370 : decode code 370 = .ok (.aload_n 0, 1) := by decide +kernel
theorem d_L_law_371 : decode code 371 = .ok (.iload_n 3, 1) := by decide +kernel
theorem d_L_law_372 : decode code 372 = .ok (.iconst 3, 1) := by decide +kernel
theorem d_L_law_373 : decode code 373 = .ok (.iadd, 1) := by decide +kernel
theorem d_L_law_374 : decode code 374 = .ok (.iaload, 1) := by decide +kernel
theorem d_L_law_375 : decode code 375 = .ok (.invokevirtual 62, 3) := by decide +kernel
theorem d_L_law_378 : decode code 378 = .ok (.if_icmp .eq 186, 3) := by decide +kernel
theorem d_L_law_381 : decode code 381 = .ok (.iconst 0, 1) := by decide +kernel
theorem d_L_law_382 : decode code 382 = .ok (.ireturn, 1) := by decide +kernel
theorem d_L_law_383 : decode code 383 = .ok (.aload_n 1, 1) := by decide +kernel
theorem d_L_law_384 : decode code 384 = .ok (.invokevirtual 63, 3) := by decide +kernel
theorem d_L_law_387 : decode code 387 = .ok (.aload_n 2, 1) := by decide +kernel
theorem d_L_law_388 : decode code 388 = .ok (.invokevirtual 66, 3) := by decide +kernel
theorem d_L_law_391 : decode code 391 = .ok (.if_icmp .eq 173, 3) := by decide +kernel
theorem d_L_law_394 : decode code 394 = .ok (.iconst 0, 1) := by decide +kernel
theorem d_L_law_395 : decode code 395 = .ok (.ireturn, 1) := by decide +kernel
theorem d_L_law_396 : decode code 396 = .ok (.aload_n 1, 1) := by decide +kernel
theorem d_L_law_397 : decode code 397 = .ok (.invokevirtual 67, 3) := by decide +kernel
theorem d_L_law_400 : decode code 400 = .ok (.aload_n 2, 1) := by decide +kernel
theorem d_L_law_401 : decode code 401 = .ok (.invokevirtual 70, 3) := by decide +kernel
theorem d_L_law_404 : decode code 404 = .ok (.if_icmp .eq 160, 3) := by decide +kernel
theorem d_L_law_407 : decode code 407 = .ok (.iconst 0, 1) := by decide +kernel
theorem d_L_law_408 : decode code 408 = .ok (.ireturn, 1) := by decide +kernel
theorem d_L_law_409 : decode code 409 = .ok (.aload_n 1, 1) := by decide +kernel
theorem d_L_law_410 : decode code 410 = .ok (.aload_n 0, 1) := by decide +kernel
theorem d_L_law_411 : decode code 411 = .ok (.iload_n 3, 1) := by decide +kernel
theorem d_L_law_412 : decode code 412 = .ok (.iconst 1, 1) := by decide +kernel
theorem d_L_law_413 : decode code 413 = .ok (.iadd, 1) := by decide +kernel
theorem d_L_law_414 : decode code 414 = .ok (.iaload, 1) := by decide +kernel
theorem d_L_law_415 : decode code 415 = .ok (.aload_n 0, 1) := by decide +kernel
theorem d_L_law_416 : decode code 416 = .ok (.iload_n 3, 1) := by decide +kernel
theorem d_L_law_417 : decode code 417 = .ok (.iconst 2, 1) := by decide +kernel
theorem d_L_law_418 : decode code 418 = .ok (.iadd, 1) := by decide +kernel
theorem d_L_law_419 : decode code 419 = .ok (.iaload, 1) := by decide +kernel
theorem d_L_law_420 : decode code 420 = .ok (.invokevirtual 71, 3) := by decide +kernel
theorem d_L_law_423 : decode code 423 = .ok (.aload_n 2, 1) := by decide +kernel
theorem d_L_law_424 : decode code 424 = .ok (.aload_n 0, 1) := by decide +kernel
theorem d_L_law_425 : decode code 425 = .ok (.iload_n 3, 1) := by decide +kernel
theorem d_L_law_426 : decode code 426 = .ok (.iconst 1, 1) := by decide +kernel
theorem d_L_law_427 : decode code 427 = .ok (.iadd, 1) := by decide +kernel
theorem d_L_law_428 : decode code 428 = .ok (.iaload, 1) := by decide +kernel
theorem d_L_law_429 : decode code 429 = .ok (.aload_n 0, 1) := by decide +kernel
theorem d_L_law_430 : decode code 430 = .ok (.iload_n 3, 1) := by decide +kernel
theorem d_L_law_431 : decode code 431 = .ok (.iconst 2, 1) := by decide +kernel
theorem d_L_law_432 : decode code 432 = .ok (.iadd, 1) := by decide +kernel
theorem d_L_law_433 : decode code 433 = .ok (.iaload, 1) := by decide +kernel
theorem d_L_law_434 : decode code 434 = .ok (.invokevirtual 74, 3) := by decide +kernel
theorem d_L_law_437 : decode code 437 = .ok (.if_icmp .eq 127, 3) := by decide +kernel
theorem d_L_law_440 : decode code 440 = .ok (.iconst 0, 1) := by decide +kernel
theorem d_L_law_441 : decode code 441 = .ok (.ireturn, 1) := by decide +kernel
theorem d_L_law_442 : decode code 442 = .ok (.aload_n 1, 1) := by decide +kernel
theorem d_L_law_443 : decode code 443 = .ok (.aload_n 0, 1) := by decide +kernel
theorem d_L_law_444 : decode code 444 = .ok (.iload_n 3, 1) := by decide +kernel
theorem d_L_law_445 : decode code 445 = .ok (.iconst 1, 1) := by decide +kernel
theorem d_L_law_446 : decode code 446 = .ok (.iadd, 1) := by decide +kernel
theorem d_L_law_447 : decode code 447 = .ok (.iaload, 1) := by decide +kernel
theorem d_L_law_448 : decode code 448 = .ok (.invokevirtual 75, 3) := by decide +kernel
theorem d_L_law_451 : decode code 451 = .ok (.aload_n 2, 1) := by decide +kernel
theorem d_L_law_452 : decode code 452 = .ok (.aload_n 0, 1) := by decide +kernel
theorem d_L_law_453 : decode code 453 = .ok (.iload_n 3, 1) := by decide +kernel
theorem d_L_law_454 : decode code 454 = .ok (.iconst 1, 1) := by decide +kernel
theorem d_L_law_455 : decode code 455 = .ok (.iadd, 1) := by decide +kernel
theorem d_L_law_456 : decode code 456 = .ok (.iaload, 1) := by decide +kernel
theorem d_L_law_457 : decode code 457 = .ok (.invokevirtual 78, 3) := by decide +kernel
theorem d_L_law_460 : decode code 460 = .ok (.if_icmp .eq 104, 3) := by decide +kernel
theorem d_L_law_463 : decode code 463 = .ok (.iconst 0, 1) := by decide +kernel
theorem d_L_law_464 : decode code 464 = .ok (.ireturn, 1) := by decide +kernel
theorem d_L_law_465 : decode code 465 = .ok (.aload_n 1, 1) := by decide +kernel
theorem d_L_law_466 : decode code 466 = .ok (.aload_n 0, 1) := by decide +kernel
theorem d_L_law_467 : decode code 467 = .ok (.iload_n 3, 1) := by decide +kernel
theorem d_L_law_468 : decode code 468 = .ok (.iconst 1, 1) := by decide +kernel
theorem d_L_law_469 : decode code 469 = .ok (.iadd, 1) := by decide +kernel
theorem d_L_law_470 : decode code 470 = .ok (.iaload, 1) := by decide +kernel
theorem d_L_law_471 : decode code 471 = .ok (.aload_n 0, 1) := by decide +kernel
theorem d_L_law_472 : decode code 472 = .ok (.iload_n 3, 1) := by decide +kernel
theorem d_L_law_473 : decode code 473 = .ok (.iconst 2, 1) := by decide +kernel
theorem d_L_law_474 : decode code 474 = .ok (.iadd, 1) := by decide +kernel
theorem d_L_law_475 : decode code 475 = .ok (.iaload, 1) := by decide +kernel
theorem d_L_law_476 : decode code 476 = .ok (.aload_n 0, 1) := by decide +kernel
theorem d_L_law_477 : decode code 477 = .ok (.iload_n 3, 1) := by decide +kernel
theorem d_L_law_478 : decode code 478 = .ok (.iconst 3, 1) := by decide +kernel
theorem d_L_law_479 : decode code 479 = .ok (.iadd, 1) := by decide +kernel
theorem d_L_law_480 : decode code 480 = .ok (.iaload, 1) := by decide +kernel
theorem d_L_law_481 : decode code 481 = .ok (.invokevirtual 79, 3) := by decide +kernel
theorem d_L_law_484 : decode code 484 = .ok (.aload_n 2, 1) := by decide +kernel
theorem d_L_law_485 : decode code 485 = .ok (.aload_n 0, 1) := by decide +kernel
theorem d_L_law_486 : decode code 486 = .ok (.iload_n 3, 1) := by decide +kernel
theorem d_L_law_487 : decode code 487 = .ok (.iconst 1, 1) := by decide +kernel
theorem d_L_law_488 : decode code 488 = .ok (.iadd, 1) := by decide +kernel
theorem d_L_law_489 : decode code 489 = .ok (.iaload, 1) := by decide +kernel
theorem d_L_law_490 : decode code 490 = .ok (.aload_n 0, 1) := by decide +kernel
theorem d_L_law_491 : decode code 491 = .ok (.iload_n 3, 1) := by decide +kernel
theorem d_L_law_492 : decode code 492 = .ok (.iconst 2, 1) := by decide +kernel
theorem d_L_law_493 : decode code 493 = .ok (.iadd, 1) := by decide +kernel
theorem d_L_law_494 : decode code 494 = .ok (.iaload, 1) := by decide +kernel
theorem d_L_law_495 : decode code 495 = .ok (.aload_n 0, 1) := by decide +kernel
theorem d_L_law_496 : decode code 496 = .ok (.iload_n 3, 1) := by decide +kernel
theorem d_L_law_497 : decode code 497 = .ok (.iconst 3, 1) := by decide +kernel
theorem d_L_law_498 : decode code 498 = .ok (.iadd, 1) := by decide +kernel
theorem d_L_law_499 : decode code 499 = .ok (.iaload, 1) := by decide +kernel
theorem d_L_law_500 : decode code 500 = .ok (.invokevirtual 82, 3) := by decide +kernel
theorem d_L_law_503 : decode code 503 = .ok (.if_icmp .eq 61, 3) := by decide +kernel
theorem d_L_law_506 : decode code 506 = .ok (.iconst 0, 1) := by decide +kernel
theorem d_L_law_507 : decode code 507 = .ok (.ireturn, 1) := by decide +kernel
theorem d_L_law_508 : decode code 508 = .ok (.aload_n 1, 1) := by decide +kernel
theorem d_L_law_509 : decode code 509 = .ok (.aload_n 0, 1) := by decide +kernel
theorem d_L_law_510 : decode code 510 = .ok (.iload_n 3, 1) := by decide +kernel
theorem d_L_law_511 : decode code 511 = .ok (.iconst 1, 1) := by decide +kernel
theorem d_L_law_512 : decode code 512 = .ok (.iadd, 1) := by decide +kernel
theorem d_L_law_513 : decode code 513 = .ok (.iaload, 1) := by decide +kernel
theorem d_L_law_514 : decode code 514 = .ok (.aload_n 0, 1) := by decide +kernel
theorem d_L_law_515 : decode code 515 = .ok (.iload_n 3, 1) := by decide +kernel
theorem d_L_law_516 : decode code 516 = .ok (.iconst 2, 1) := by decide +kernel
theorem d_L_law_517 : decode code 517 = .ok (.iadd, 1) := by decide +kernel
theorem d_L_law_518 : decode code 518 = .ok (.iaload, 1) := by decide +kernel
theorem d_L_law_519 : decode code 519 = .ok (.invokevirtual 83, 3) := by decide +kernel
theorem d_L_law_522 : decode code 522 = .ok (.aload_n 2, 1) := by decide +kernel
theorem d_L_law_523 : decode code 523 = .ok (.aload_n 0, 1) := by decide +kernel
theorem d_L_law_524 : decode code 524 = .ok (.iload_n 3, 1) := by decide +kernel
theorem d_L_law_525 : decode code 525 = .ok (.iconst 1, 1) := by decide +kernel
theorem d_L_law_526 : decode code 526 = .ok (.iadd, 1) := by decide +kernel
theorem d_L_law_527 : decode code 527 = .ok (.iaload, 1) := by decide +kernel
theorem d_L_law_528 : decode code 528 = .ok (.aload_n 0, 1) := by decide +kernel
theorem d_L_law_529 : decode code 529 = .ok (.iload_n 3, 1) := by decide +kernel
theorem d_L_law_530 : decode code 530 = .ok (.iconst 2, 1) := by decide +kernel
theorem d_L_law_531 : decode code 531 = .ok (.iadd, 1) := by decide +kernel
theorem d_L_law_532 : decode code 532 = .ok (.iaload, 1) := by decide +kernel
theorem d_L_law_533 : decode code 533 = .ok (.invokevirtual 86, 3) := by decide +kernel
theorem d_L_law_536 : decode code 536 = .ok (.if_icmp .eq 28, 3) := by decide +kernel
theorem d_L_law_539 : decode code 539 = .ok (.iconst 0, 1) := by decide +kernel
theorem d_L_law_540 : decode code 540 = .ok (.ireturn, 1) := by decide +kernel
theorem d_L_law_541 : decode code 541 = .ok (.aload_n 1, 1) := by decide +kernel
theorem d_L_law_542 : decode code 542 = .ok (.aload_n 0, 1) := by decide +kernel
theorem d_L_law_543 : decode code 543 = .ok (.iload_n 3, 1) := by decide +kernel
theorem d_L_law_544 : decode code 544 = .ok (.iconst 1, 1) := by decide +kernel
theorem d_L_law_545 : decode code 545 = .ok (.iadd, 1) := by decide +kernel
theorem d_L_law_546 : decode code 546 = .ok (.iaload, 1) := by decide +kernel
theorem d_L_law_547 : decode code 547 = .ok (.invokevirtual 87, 3) := by decide +kernel
theorem d_L_law_550 : decode code 550 = .ok (.aload_n 2, 1) := by decide +kernel
theorem d_L_law_551 : decode code 551 = .ok (.aload_n 0, 1) := by decide +kernel
theorem d_L_law_552 : decode code 552 = .ok (.iload_n 3, 1) := by decide +kernel
theorem d_L_law_553 : decode code 553 = .ok (.iconst 1, 1) := by decide +kernel
theorem d_L_law_554 : decode code 554 = .ok (.iadd, 1) := by decide +kernel
theorem d_L_law_555 : decode code 555 = .ok (.iaload, 1) := by decide +kernel
theorem d_L_law_556 : decode code 556 = .ok (.invokevirtual 90, 3) := by decide +kernel
theorem d_L_law_559 : decode code 559 = .ok (.if_icmp .eq 5, 3) := by decide +kernel
theorem d_L_law_562 : decode code 562 = .ok (.iconst 0, 1) := by decide +kernel
theorem d_L_law_563 : decode code 563 = .ok (.ireturn, 1) := by decide +kernel
theorem d_L_law_564 : decode code 564 = .ok (.iinc 3 4, 3) := by decide +kernel
theorem d_L_law_567 : decode code 567 = .ok (.goto (-549), 3) := by decide +kernel
theorem d_L_law_570 : decode code 570 = .ok (.iconst 1, 1) := by decide +kernel
theorem d_L_law_571 : decode code 571 = .ok (.ireturn, 1) := by decide +kernel

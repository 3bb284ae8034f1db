theorem d_RRef_keep_320 : decode b_RRef_keep 320 = .ok (.iload 4, 2) := by decide +kernel
theorem d_RRef_keep_322 : decode b_RRef_keep 322 = .ok (.iconst 1, 1) := by decide +kernel
theorem d_RRef_keep_323 : decode b_RRef_keep 323 = .ok (.iload_n 3, 1) := by decide +kernel
theorem d_RRef_keep_324 : decode b_RRef_keep 324 = .ok (.iadd, 1) := by decide +kernel
theorem d_RRef_keep_325 : decode b_RRef_keep 325 = .ok (.invokevirtual 182, 3) := by decide +kernel
theorem d_RRef_keep_328 : decode b_RRef_keep 328 = .ok (.ifCond .ne 6, 3) := by decide +kernel
theorem d_RRef_keep_331 : decode b_RRef_keep 331 = .ok (.bipush (-5), 2) := by decide +kernel
theorem d_RRef_keep_333 : decode b_RRef_keep 333 = .ok (.ireturn, 1) := by decide +kernel
theorem d_RRef_keep_334 : decode b_RRef_keep 334 = .ok (.aload_n 0, 1) := by decide +kernel
theorem d_RRef_keep_335 : decode b_RRef_keep 335 = .ok (.getfield 44, 3) := by decide +kernel
theorem d_RRef_keep_338 : decode b_RRef_keep 338 = .ok (.iload_n 2, 1) := by decide +kernel
theorem d_RRef_keep_339 : decode b_RRef_keep 339 = .ok (.iload 4, 2) := by decide +kernel
theorem d_RRef_keep_341 : decode b_RRef_keep 341 = .ok (.iastore, 1) := by decide +kernel
theorem d_RRef_keep_342 : decode b_RRef_keep 342 = .ok (.iconst 1, 1) := by decide +kernel
theorem d_RRef_keep_343 : decode b_RRef_keep 343 = .ok (.ireturn, 1) := by decide +kernel
theorem d_RRef_kind_0 : decode b_RRef_kind 0 = .ok (.aload_n 0, 1) := by decide +kernel
theorem d_RRef_kind_1 : decode b_RRef_kind 1 = .ok (.getfield 7, 3) := by decide +kernel
theorem d_RRef_kind_4 : decode b_RRef_kind 4 = .ok (.bipush 32, 2) := by decide +kernel
theorem d_RRef_kind_6 : decode b_RRef_kind 6 = .ok (.iload_n 1, 1) := by decide +kernel
theorem d_RRef_kind_7 : decode b_RRef_kind 7 = .ok (.imul, 1) := by decide +kernel
theorem d_RRef_kind_8 : decode b_RRef_kind 8 = .ok (.baload, 1) := by decide +kernel
theorem d_RRef_kind_9 : decode b_RRef_kind 9 = .ok (.sipush 255, 3) := by decide +kernel
theorem d_RRef_kind_12 : decode b_RRef_kind 12 = .ok (.iand, 1) := by decide +kernel
theorem d_RRef_kind_13 : decode b_RRef_kind 13 = .ok (.ireturn, 1) := by decide +kernel
theorem d_RRef_learnMark_0 : decode b_RRef_learnMark 0 = .ok (.bipush 32, 2) := by decide +kernel
theorem d_RRef_learnMark_2 : decode b_RRef_learnMark 2 = .ok (.iload_n 1, 1) := by decide +kernel
theorem d_RRef_learnMark_3 : decode b_RRef_learnMark 3 = .ok (.imul, 1) := by decide +kernel
theorem d_RRef_learnMark_4 : decode b_RRef_learnMark 4 = .ok (.istore_n 2, 1) := by decide +kernel
theorem d_RRef_learnMark_5 : decode b_RRef_learnMark 5 = .ok (.aload_n 0, 1) := by decide +kernel
theorem d_RRef_learnMark_6 : decode b_RRef_learnMark 6 = .ok (.getfield 7, 3) := by decide +kernel
theorem d_RRef_learnMark_9 : decode b_RRef_learnMark 9 = .ok (.iload_n 2, 1) := by decide +kernel
theorem d_RRef_learnMark_10 : decode b_RRef_learnMark 10 = .ok (.iconst 4, 1) := by decide +kernel
theorem d_RRef_learnMark_11 : decode b_RRef_learnMark 11 = .ok (.iadd, 1) := by decide +kernel
theorem d_RRef_learnMark_12 : decode b_RRef_learnMark 12 = .ok (.iconst 4, 1) := by decide +kernel
theorem d_RRef_learnMark_13 : decode b_RRef_learnMark 13 = .ok (.invokestatic 85, 3) := by decide +kernel
theorem d_RRef_learnMark_16 : decode b_RRef_learnMark 16 = .ok (.l2i, 1) := by decide +kernel
theorem d_RRef_learnMark_17 : decode b_RRef_learnMark 17 = .ok (.istore_n 3, 1) := by decide +kernel
theorem d_RRef_learnMark_18 : decode b_RRef_learnMark 18 = .ok (.aload_n 0, 1) := by decide +kernel
theorem d_RRef_learnMark_19 : decode b_RRef_learnMark 19 = .ok (.iload_n 3, 1) := by decide +kernel
theorem d_RRef_learnMark_20 : decode b_RRef_learnMark 20 = .ok (.invokevirtual 150, 3) := by decide +kernel
theorem d_RRef_learnMark_23 : decode b_RRef_learnMark 23 = .ok (.iconst (-1), 1) := by decide +kernel
theorem d_RRef_learnMark_24 : decode b_RRef_learnMark 24 = .ok (.if_icmp .eq 4, 3) := by decide +kernel
theorem d_RRef_learnMark_27 : decode b_RRef_learnMark 27 = .ok (.return_, 1) := by decide +kernel
theorem d_RRef_learnMark_28 : decode b_RRef_learnMark 28 = .ok (.aload_n 0, 1) := by decide +kernel
theorem d_RRef_learnMark_29 : decode b_RRef_learnMark 29 = .ok (.getfield 41, 3) := by decide +kernel
theorem d_RRef_learnMark_32 : decode b_RRef_learnMark 32 = .ok (.aload_n 0, 1) := by decide +kernel
theorem d_RRef_learnMark_33 : decode b_RRef_learnMark 33 = .ok (.getfield 109, 3) := by decide +kernel
theorem d_RRef_learnMark_36 : decode b_RRef_learnMark 36 = .ok (.iload_n 3, 1) := by decide +kernel
theorem d_RRef_learnMark_37 : decode b_RRef_learnMark 37 = .ok (.iastore, 1) := by decide +kernel
theorem d_RRef_learnMark_38 : decode b_RRef_learnMark 38 = .ok (.aload_n 0, 1) := by decide +kernel
theorem d_RRef_learnMark_39 : decode b_RRef_learnMark 39 = .ok (.getfield 44, 3) := by decide +kernel
theorem d_RRef_learnMark_42 : decode b_RRef_learnMark 42 = .ok (.aload_n 0, 1) := by decide +kernel
theorem d_RRef_learnMark_43 : decode b_RRef_learnMark 43 = .ok (.getfield 109, 3) := by decide +kernel
theorem d_RRef_learnMark_46 : decode b_RRef_learnMark 46 = .ok (.iload_n 1, 1) := by decide +kernel
theorem d_RRef_learnMark_47 : decode b_RRef_learnMark 47 = .ok (.iastore, 1) := by decide +kernel
theorem d_RRef_learnMark_48 : decode b_RRef_learnMark 48 = .ok (.aload_n 0, 1) := by decide +kernel
theorem d_RRef_learnMark_49 : decode b_RRef_learnMark 49 = .ok (.getfield 47, 3) := by decide +kernel
theorem d_RRef_learnMark_52 : decode b_RRef_learnMark 52 = .ok (.aload_n 0, 1) := by decide +kernel
theorem d_RRef_learnMark_53 : decode b_RRef_learnMark 53 = .ok (.getfield 109, 3) := by decide +kernel
theorem d_RRef_learnMark_56 : decode b_RRef_learnMark 56 = .ok (.aload_n 0, 1) := by decide +kernel
theorem d_RRef_learnMark_57 : decode b_RRef_learnMark 57 = .ok (.getfield 7, 3) := by decide +kernel
theorem d_RRef_learnMark_60 : decode b_RRef_learnMark 60 = .ok (.iload_n 2, 1) := by decide +kernel
theorem d_RRef_learnMark_61 : decode b_RRef_learnMark 61 = .ok (.iconst 1, 1) := by decide +kernel
theorem d_RRef_learnMark_62 : decode b_RRef_learnMark 62 = .ok (.iadd, 1) := by decide +kernel
theorem d_RRef_learnMark_63 : decode b_RRef_learnMark 63 = .ok (.baload, 1) := by decide +kernel
theorem d_RRef_learnMark_64 : decode b_RRef_learnMark 64 = .ok (.sipush 255, 3) := by decide +kernel
theorem d_RRef_learnMark_67 : decode b_RRef_learnMark 67 = .ok (.iand, 1) := by decide +kernel
theorem d_RRef_learnMark_68 : decode b_RRef_learnMark 68 = .ok (.iastore, 1) := by decide +kernel
theorem d_RRef_learnMark_69 : decode b_RRef_learnMark 69 = .ok (.aload_n 0, 1) := by decide +kernel
theorem d_RRef_learnMark_70 : decode b_RRef_learnMark 70 = .ok (.getfield 50, 3) := by decide +kernel
theorem d_RRef_learnMark_73 : decode b_RRef_learnMark 73 = .ok (.aload_n 0, 1) := by decide +kernel
theorem d_RRef_learnMark_74 : decode b_RRef_learnMark 74 = .ok (.getfield 109, 3) := by decide +kernel
theorem d_RRef_learnMark_77 : decode b_RRef_learnMark 77 = .ok (.aload_n 0, 1) := by decide +kernel
theorem d_RRef_learnMark_78 : decode b_RRef_learnMark 78 = .ok (.getfield 7, 3) := by decide +kernel
theorem d_RRef_learnMark_81 : decode b_RRef_learnMark 81 = .ok (.iload_n 2, 1) := by decide +kernel
theorem d_RRef_learnMark_82 : decode b_RRef_learnMark 82 = .ok (.bipush 8, 2) := by decide +kernel
theorem d_RRef_learnMark_84 : decode b_RRef_learnMark 84 = .ok (.iadd, 1) := by decide +kernel
theorem d_RRef_learnMark_85 : decode b_RRef_learnMark 85 = .ok (.bipush 8, 2) := by decide +kernel
theorem d_RRef_learnMark_87 : decode b_RRef_learnMark 87 = .ok (.invokestatic 85, 3) := by decide +kernel
theorem d_RRef_learnMark_90 : decode b_RRef_learnMark 90 = .ok (.lastore, 1) := by decide +kernel
theorem d_RRef_learnMark_91 : decode b_RRef_learnMark 91 = .ok (.iconst 0, 1) := by decide +kernel
theorem d_RRef_learnMark_92 : decode b_RRef_learnMark 92 = .ok (.istore 4, 2) := by decide +kernel
theorem d_RRef_learnMark_94 : decode b_RRef_learnMark 94 = .ok (.iload 4, 2) := by decide +kernel
theorem d_RRef_learnMark_96 : decode b_RRef_learnMark 96 = .ok (.aload_n 0, 1) := by decide +kernel
theorem d_RRef_learnMark_97 : decode b_RRef_learnMark 97 = .ok (.getfield 47, 3) := by decide +kernel
theorem d_RRef_learnMark_100 : decode b_RRef_learnMark 100 = .ok (.aload_n 0, 1) := by decide +kernel
theorem d_RRef_learnMark_101 : decode b_RRef_learnMark 101 = .ok (.getfield 109, 3) := by decide +kernel
theorem d_RRef_learnMark_104 : decode b_RRef_learnMark 104 = .ok (.iaload, 1) := by decide +kernel
theorem d_RRef_learnMark_105 : decode b_RRef_learnMark 105 = .ok (.if_icmp .ge 126, 3) := by decide +kernel
theorem d_RRef_learnMark_108 : decode b_RRef_learnMark 108 = .ok (.iload_n 1, 1) := by decide +kernel
theorem d_RRef_learnMark_109 : decode b_RRef_learnMark 109 = .ok (.iload 4, 2) := by decide +kernel
theorem d_RRef_learnMark_111 : decode b_RRef_learnMark 111 = .ok (.invokestatic 143, 3) := by decide +kernel
theorem d_RRef_learnMark_114 : decode b_RRef_learnMark 114 = .ok (.istore 5, 2) := by decide +kernel
theorem d_RRef_learnMark_116 : decode b_RRef_learnMark 116 = .ok (.aload_n 0, 1) := by decide +kernel
theorem d_RRef_learnMark_117 : decode b_RRef_learnMark 117 = .ok (.getfield 7, 3) := by decide +kernel
theorem d_RRef_learnMark_120 : decode b_RRef_learnMark 120 = .ok (.iload 5, 2) := by decide +kernel
theorem d_RRef_learnMark_122 : decode b_RRef_learnMark 122 = .ok (.iconst 4, 1) := by decide +kernel
theorem d_RRef_learnMark_123 : decode b_RRef_learnMark 123 = .ok (.invokestatic 85, 3) := by decide +kernel
theorem d_RRef_learnMark_126 : decode b_RRef_learnMark 126 = .ok (.l2i, 1) := by decide +kernel
theorem d_RRef_learnMark_127 : decode b_RRef_learnMark 127 = .ok (.istore 6, 2) := by decide +kernel
theorem d_RRef_learnMark_129 : decode b_RRef_learnMark 129 = .ok (.aload_n 0, 1) := by decide +kernel
theorem d_RRef_learnMark_130 : decode b_RRef_learnMark 130 = .ok (.getfield 53, 3) := by decide +kernel
theorem d_RRef_learnMark_133 : decode b_RRef_learnMark 133 = .ok (.bipush 12, 2) := by decide +kernel
theorem d_RRef_learnMark_135 : decode b_RRef_learnMark 135 = .ok (.aload_n 0, 1) := by decide +kernel
theorem d_RRef_learnMark_136 : decode b_RRef_learnMark 136 = .ok (.getfield 109, 3) := by decide +kernel
theorem d_RRef_learnMark_139 : decode b_RRef_learnMark 139 = .ok (.imul, 1) := by decide +kernel
theorem d_RRef_learnMark_140 : decode b_RRef_learnMark 140 = .ok (.iload 4, 2) := by decide +kernel
theorem d_RRef_learnMark_142 : decode b_RRef_learnMark 142 = .ok (.iadd, 1) := by decide +kernel
theorem d_RRef_learnMark_143 : decode b_RRef_learnMark 143 = .ok (.iload 6, 2) := by decide +kernel
theorem d_RRef_learnMark_145 : decode b_RRef_learnMark 145 = .ok (.iastore, 1) := by decide +kernel
theorem d_RRef_learnMark_146 : decode b_RRef_learnMark 146 = .ok (.aload_n 0, 1) := by decide +kernel
theorem d_RRef_learnMark_147 : decode b_RRef_learnMark 147 = .ok (.getfield 56, 3) := by decide +kernel
theorem d_RRef_learnMark_150 : decode b_RRef_learnMark 150 = .ok (.bipush 12, 2) := by decide +kernel
theorem d_RRef_learnMark_152 : decode b_RRef_learnMark 152 = .ok (.aload_n 0, 1) := by decide +kernel
theorem d_RRef_learnMark_153 : decode b_RRef_learnMark 153 = .ok (.getfield 109, 3) := by decide +kernel
theorem d_RRef_learnMark_156 : decode b_RRef_learnMark 156 = .ok (.imul, 1) := by decide +kernel
theorem d_RRef_learnMark_157 : decode b_RRef_learnMark 157 = .ok (.iload 4, 2) := by decide +kernel
theorem d_RRef_learnMark_159 : decode b_RRef_learnMark 159 = .ok (.iadd, 1) := by decide +kernel
theorem d_RRef_learnMark_160 : decode b_RRef_learnMark 160 = .ok (.aload_n 0, 1) := by decide +kernel
theorem d_RRef_learnMark_161 : decode b_RRef_learnMark 161 = .ok (.getfield 7, 3) := by decide +kernel
theorem d_RRef_learnMark_164 : decode b_RRef_learnMark 164 = .ok (.iload 5, 2) := by decide +kernel
theorem d_RRef_learnMark_166 : decode b_RRef_learnMark 166 = .ok (.iconst 4, 1) := by decide +kernel
theorem d_RRef_learnMark_167 : decode b_RRef_learnMark 167 = .ok (.iadd, 1) := by decide +kernel
theorem d_RRef_learnMark_168 : decode b_RRef_learnMark 168 = .ok (.iconst 2, 1) := by decide +kernel
theorem d_RRef_learnMark_169 : decode b_RRef_learnMark 169 = .ok (.invokestatic 85, 3) := by decide +kernel
theorem d_RRef_learnMark_172 : decode b_RRef_learnMark 172 = .ok (.l2i, 1) := by decide +kernel
theorem d_RRef_learnMark_173 : decode b_RRef_learnMark 173 = .ok (.iastore, 1) := by decide +kernel
theorem d_RRef_learnMark_174 : decode b_RRef_learnMark 174 = .ok (.aload_n 0, 1) := by decide +kernel
theorem d_RRef_learnMark_175 : decode b_RRef_learnMark 175 = .ok (.getfield 59, 3) := by decide +kernel
theorem d_RRef_learnMark_178 : decode b_RRef_learnMark 178 = .ok (.bipush 12, 2) := by decide +kernel
theorem d_RRef_learnMark_180 : decode b_RRef_learnMark 180 = .ok (.aload_n 0, 1) := by decide +kernel
theorem d_RRef_learnMark_181 : decode b_RRef_learnMark 181 = .ok (.getfield 109, 3) := by decide +kernel
theorem d_RRef_learnMark_184 : decode b_RRef_learnMark 184 = .ok (.imul, 1) := by decide +kernel
theorem d_RRef_learnMark_185 : decode b_RRef_learnMark 185 = .ok (.iload 4, 2) := by decide +kernel
theorem d_RRef_learnMark_187 : decode b_RRef_learnMark 187 = .ok (.iadd, 1) := by decide +kernel
theorem d_RRef_learnMark_188 : decode b_RRef_learnMark 188 = .ok (.aload_n 0, 1) := by decide +kernel
theorem d_RRef_learnMark_189 : decode b_RRef_learnMark 189 = .ok (.getfield 7, 3) := by decide +kernel
theorem d_RRef_learnMark_192 : decode b_RRef_learnMark 192 = .ok (.iload 5, 2) := by decide +kernel
theorem d_RRef_learnMark_194 : decode b_RRef_learnMark 194 = .ok (.bipush 6, 2) := by decide +kernel
theorem d_RRef_learnMark_196 : decode b_RRef_learnMark 196 = .ok (.iadd, 1) := by decide +kernel
theorem d_RRef_learnMark_197 : decode b_RRef_learnMark 197 = .ok (.bipush 8, 2) := by decide +kernel
theorem d_RRef_learnMark_199 : decode b_RRef_learnMark 199 = .ok (.invokestatic 85, 3) := by decide +kernel
theorem d_RRef_learnMark_202 : decode b_RRef_learnMark 202 = .ok (.lastore, 1) := by decide +kernel
theorem d_RRef_learnMark_203 : decode b_RRef_learnMark 203 = .ok (.aload_n 0, 1) := by decide +kernel
theorem d_RRef_learnMark_204 : decode b_RRef_learnMark 204 = .ok (.iload 6, 2) := by decide +kernel
theorem d_RRef_learnMark_206 : decode b_RRef_learnMark 206 = .ok (.aload_n 0, 1) := by decide +kernel
theorem d_RRef_learnMark_207 : decode b_RRef_learnMark 207 = .ok (.getfield 147, 3) := by decide +kernel
theorem d_RRef_learnMark_210 : decode b_RRef_learnMark 210 = .ok (.if_icmp .le 8, 3) := by decide +kernel
theorem d_RRef_learnMark_213 : decode b_RRef_learnMark 213 = .ok (.iload 6, 2) := by decide +kernel
theorem d_RRef_learnMark_215 : decode b_RRef_learnMark 215 = .ok (.goto 7, 3) := by decide +kernel
theorem d_RRef_learnMark_218 : decode b_RRef_learnMark 218 = .ok (.aload_n 0, 1) := by decide +kernel
theorem d_RRef_learnMark_219 : decode b_RRef_learnMark 219 = .ok (.getfield 147, 3) := by decide +kernel
theorem d_RRef_learnMark_222 : decode b_RRef_learnMark 222 = .ok (.putfield 147, 3) := by decide +kernel
theorem d_RRef_learnMark_225 : decode b_RRef_learnMark 225 = .ok (.iinc 4 1, 3) := by decide +kernel
theorem d_RRef_learnMark_228 : decode b_RRef_learnMark 228 = .ok (.goto (-134), 3) := by decide +kernel
theorem d_RRef_learnMark_231 : decode b_RRef_learnMark 231 = .ok (.aload_n 0, 1) := by decide +kernel
theorem d_RRef_learnMark_232 : decode b_RRef_learnMark 232 = .ok (.dup, 1) := by decide +kernel
theorem d_RRef_learnMark_233 : decode b_RRef_learnMark 233 = .ok (.getfield 109, 3) := by decide +kernel
theorem d_RRef_learnMark_236 : decode b_RRef_learnMark 236 = .ok (.iconst 1, 1) := by decide +kernel
theorem d_RRef_learnMark_237 : decode b_RRef_learnMark 237 = .ok (.iadd, 1) := by decide +kernel
theorem d_RRef_learnMark_238 : decode b_RRef_learnMark 238 = .ok (.putfield 109, 3) := by decide +kernel
theorem d_RRef_learnMark_241 : decode b_RRef_learnMark 241 = .ok (.aload_n 0, 1) := by decide +kernel
theorem d_RRef_learnMark_242 : decode b_RRef_learnMark 242 = .ok (.iload_n 3, 1) := by decide +kernel
theorem d_RRef_learnMark_243 : decode b_RRef_learnMark 243 = .ok (.aload_n 0, 1) := by decide +kernel
theorem d_RRef_learnMark_244 : decode b_RRef_learnMark 244 = .ok (.getfield 153, 3) := by decide +kernel
theorem d_RRef_learnMark_247 : decode b_RRef_learnMark 247 = .ok (.if_icmp .le 7, 3) := by decide +kernel
theorem d_RRef_learnMark_250 : decode b_RRef_learnMark 250 = .ok (.iload_n 3, 1) := by decide +kernel
theorem d_RRef_learnMark_251 : decode b_RRef_learnMark 251 = .ok (.goto 7, 3) := by decide +kernel
theorem d_RRef_learnMark_254 : decode b_RRef_learnMark 254 = .ok (.aload_n 0, 1) := by decide +kernel
theorem d_RRef_learnMark_255 : decode b_RRef_learnMark 255 = .ok (.getfield 153, 3) := by decide +kernel
theorem d_RRef_learnMark_258 : decode b_RRef_learnMark 258 = .ok (.putfield 153, 3) := by decide +kernel
theorem d_RRef_learnMark_261 : decode b_RRef_learnMark 261 = .ok (.return_, 1) := by decide +kernel
theorem d_RRef_learnPart_0 : decode b_RRef_learnPart 0 = .ok (.bipush 32, 2) := by decide +kernel
theorem d_RRef_learnPart_2 : decode b_RRef_learnPart 2 = .ok (.iload_n 1, 1) := by decide +kernel
theorem d_RRef_learnPart_3 : decode b_RRef_learnPart 3 = .ok (.imul, 1) := by decide +kernel
theorem d_RRef_learnPart_4 : decode b_RRef_learnPart 4 = .ok (.istore_n 2, 1) := by decide +kernel
theorem d_RRef_learnPart_5 : decode b_RRef_learnPart 5 = .ok (.aload_n 0, 1) := by decide +kernel
theorem d_RRef_learnPart_6 : decode b_RRef_learnPart 6 = .ok (.getfield 7, 3) := by decide +kernel
theorem d_RRef_learnPart_9 : decode b_RRef_learnPart 9 = .ok (.iload_n 2, 1) := by decide +kernel
theorem d_RRef_learnPart_10 : decode b_RRef_learnPart 10 = .ok (.iconst 4, 1) := by decide +kernel
theorem d_RRef_learnPart_11 : decode b_RRef_learnPart 11 = .ok (.iadd, 1) := by decide +kernel
theorem d_RRef_learnPart_12 : decode b_RRef_learnPart 12 = .ok (.iconst 4, 1) := by decide +kernel
theorem d_RRef_learnPart_13 : decode b_RRef_learnPart 13 = .ok (.invokestatic 85, 3) := by decide +kernel
theorem d_RRef_learnPart_16 : decode b_RRef_learnPart 16 = .ok (.l2i, 1) := by decide +kernel
theorem d_RRef_learnPart_17 : decode b_RRef_learnPart 17 = .ok (.istore_n 3, 1) := by decide +kernel
theorem d_RRef_learnPart_18 : decode b_RRef_learnPart 18 = .ok (.aload_n 0, 1) := by decide +kernel
theorem d_RRef_learnPart_19 : decode b_RRef_learnPart 19 = .ok (.iload_n 3, 1) := by decide +kernel
theorem d_RRef_learnPart_20 : decode b_RRef_learnPart 20 = .ok (.invokevirtual 129, 3) := by decide +kernel
theorem d_RRef_learnPart_23 : decode b_RRef_learnPart 23 = .ok (.iconst (-1), 1) := by decide +kernel
theorem d_RRef_learnPart_24 : decode b_RRef_learnPart 24 = .ok (.if_icmp .ne 117, 3) := by decide +kernel
theorem d_RRef_learnPart_27 : decode b_RRef_learnPart 27 = .ok (.aload_n 0, 1) := by decide +kernel
theorem d_RRef_learnPart_28 : decode b_RRef_learnPart 28 = .ok (.getfield 24, 3) := by decide +kernel
theorem d_RRef_learnPart_31 : decode b_RRef_learnPart 31 = .ok (.aload_n 0, 1) := by decide +kernel
theorem d_RRef_learnPart_32 : decode b_RRef_learnPart 32 = .ok (.getfield 106, 3) := by decide +kernel
theorem d_RRef_learnPart_35 : decode b_RRef_learnPart 35 = .ok (.iload_n 3, 1) := by decide +kernel
theorem d_RRef_learnPart_36 : decode b_RRef_learnPart 36 = .ok (.iastore, 1) := by decide +kernel
theorem d_RRef_learnPart_37 : decode b_RRef_learnPart 37 = .ok (.aload_n 0, 1) := by decide +kernel
theorem d_RRef_learnPart_38 : decode b_RRef_learnPart 38 = .ok (.getfield 28, 3) := by decide +kernel
theorem d_RRef_learnPart_41 : decode b_RRef_learnPart 41 = .ok (.aload_n 0, 1) := by decide +kernel
theorem d_RRef_learnPart_42 : decode b_RRef_learnPart 42 = .ok (.getfield 106, 3) := by decide +kernel
theorem d_RRef_learnPart_45 : decode b_RRef_learnPart 45 = .ok (.aload_n 0, 1) := by decide +kernel
theorem d_RRef_learnPart_46 : decode b_RRef_learnPart 46 = .ok (.getfield 7, 3) := by decide +kernel
theorem d_RRef_learnPart_49 : decode b_RRef_learnPart 49 = .ok (.iload_n 2, 1) := by decide +kernel
theorem d_RRef_learnPart_50 : decode b_RRef_learnPart 50 = .ok (.iconst 1, 1) := by decide +kernel
theorem d_RRef_learnPart_51 : decode b_RRef_learnPart 51 = .ok (.iadd, 1) := by decide +kernel
theorem d_RRef_learnPart_52 : decode b_RRef_learnPart 52 = .ok (.baload, 1) := by decide +kernel
theorem d_RRef_learnPart_53 : decode b_RRef_learnPart 53 = .ok (.sipush 255, 3) := by decide +kernel
theorem d_RRef_learnPart_56 : decode b_RRef_learnPart 56 = .ok (.iand, 1) := by decide +kernel
theorem d_RRef_learnPart_57 : decode b_RRef_learnPart 57 = .ok (.iastore, 1) := by decide +kernel
theorem d_RRef_learnPart_58 : decode b_RRef_learnPart 58 = .ok (.aload_n 0, 1) := by decide +kernel
theorem d_RRef_learnPart_59 : decode b_RRef_learnPart 59 = .ok (.getfield 31, 3) := by decide +kernel
theorem d_RRef_learnPart_62 : decode b_RRef_learnPart 62 = .ok (.aload_n 0, 1) := by decide +kernel
theorem d_RRef_learnPart_63 : decode b_RRef_learnPart 63 = .ok (.getfield 106, 3) := by decide +kernel
theorem d_RRef_learnPart_66 : decode b_RRef_learnPart 66 = .ok (.aload_n 0, 1) := by decide +kernel
theorem d_RRef_learnPart_67 : decode b_RRef_learnPart 67 = .ok (.getfield 7, 3) := by decide +kernel
theorem d_RRef_learnPart_70 : decode b_RRef_learnPart 70 = .ok (.iload_n 2, 1) := by decide +kernel
theorem d_RRef_learnPart_71 : decode b_RRef_learnPart 71 = .ok (.bipush 8, 2) := by decide +kernel
theorem d_RRef_learnPart_73 : decode b_RRef_learnPart 73 = .ok (.iadd, 1) := by decide +kernel
theorem d_RRef_learnPart_74 : decode b_RRef_learnPart 74 = .ok (.bipush 8, 2) := by decide +kernel
theorem d_RRef_learnPart_76 : decode b_RRef_learnPart 76 = .ok (.invokestatic 85, 3) := by decide +kernel
theorem d_RRef_learnPart_79 : decode b_RRef_learnPart 79 = .ok (.lastore, 1) := by decide +kernel
theorem d_RRef_learnPart_80 : decode b_RRef_learnPart 80 = .ok (.aload_n 0, 1) := by decide +kernel
theorem d_RRef_learnPart_81 : decode b_RRef_learnPart 81 = .ok (.getfield 35, 3) := by decide +kernel
theorem d_RRef_learnPart_84 : decode b_RRef_learnPart 84 = .ok (.aload_n 0, 1) := by decide +kernel
theorem d_RRef_learnPart_85 : decode b_RRef_learnPart 85 = .ok (.getfield 106, 3) := by decide +kernel
theorem d_RRef_learnPart_88 : decode b_RRef_learnPart 88 = .ok (.aload_n 0, 1) := by decide +kernel
theorem d_RRef_learnPart_89 : decode b_RRef_learnPart 89 = .ok (.getfield 7, 3) := by decide +kernel
theorem d_RRef_learnPart_92 : decode b_RRef_learnPart 92 = .ok (.iload_n 2, 1) := by decide +kernel
theorem d_RRef_learnPart_93 : decode b_RRef_learnPart 93 = .ok (.iconst 2, 1) := by decide +kernel
theorem d_RRef_learnPart_94 : decode b_RRef_learnPart 94 = .ok (.iadd, 1) := by decide +kernel
theorem d_RRef_learnPart_95 : decode b_RRef_learnPart 95 = .ok (.iconst 2, 1) := by decide +kernel
theorem d_RRef_learnPart_96 : decode b_RRef_learnPart 96 = .ok (.invokestatic 85, 3) := by decide +kernel
theorem d_RRef_learnPart_99 : decode b_RRef_learnPart 99 = .ok (.l2i, 1) := by decide +kernel
theorem d_RRef_learnPart_100 : decode b_RRef_learnPart 100 = .ok (.iastore, 1) := by decide +kernel
theorem d_RRef_learnPart_101 : decode b_RRef_learnPart 101 = .ok (.aload_n 0, 1) := by decide +kernel
theorem d_RRef_learnPart_102 : decode b_RRef_learnPart 102 = .ok (.getfield 38, 3) := by decide +kernel
theorem d_RRef_learnPart_105 : decode b_RRef_learnPart 105 = .ok (.aload_n 0, 1) := by decide +kernel
theorem d_RRef_learnPart_106 : decode b_RRef_learnPart 106 = .ok (.getfield 106, 3) := by decide +kernel
theorem d_RRef_learnPart_109 : decode b_RRef_learnPart 109 = .ok (.iload_n 1, 1) := by decide +kernel
theorem d_RRef_learnPart_110 : decode b_RRef_learnPart 110 = .ok (.iastore, 1) := by decide +kernel
theorem d_RRef_learnPart_111 : decode b_RRef_learnPart 111 = .ok (.aload_n 0, 1) := by decide +kernel
theorem d_RRef_learnPart_112 : decode b_RRef_learnPart 112 = .ok (.dup, 1) := by decide +kernel
theorem d_RRef_learnPart_113 : decode b_RRef_learnPart 113 = .ok (.getfield 106, 3) := by decide +kernel
theorem d_RRef_learnPart_116 : decode b_RRef_learnPart 116 = .ok (.iconst 1, 1) := by decide +kernel
theorem d_RRef_learnPart_117 : decode b_RRef_learnPart 117 = .ok (.iadd, 1) := by decide +kernel
theorem d_RRef_learnPart_118 : decode b_RRef_learnPart 118 = .ok (.putfield 106, 3) := by decide +kernel
theorem d_RRef_learnPart_121 : decode b_RRef_learnPart 121 = .ok (.aload_n 0, 1) := by decide +kernel
theorem d_RRef_learnPart_122 : decode b_RRef_learnPart 122 = .ok (.iload_n 3, 1) := by decide +kernel
theorem d_RRef_learnPart_123 : decode b_RRef_learnPart 123 = .ok (.aload_n 0, 1) := by decide +kernel
theorem d_RRef_learnPart_124 : decode b_RRef_learnPart 124 = .ok (.getfield 147, 3) := by decide +kernel
theorem d_RRef_learnPart_127 : decode b_RRef_learnPart 127 = .ok (.if_icmp .le 7, 3) := by decide +kernel
theorem d_RRef_learnPart_130 : decode b_RRef_learnPart 130 = .ok (.iload_n 3, 1) := by decide +kernel
theorem d_RRef_learnPart_131 : decode b_RRef_learnPart 131 = .ok (.goto 7, 3) := by decide +kernel
theorem d_RRef_learnPart_134 : decode b_RRef_learnPart 134 = .ok (.aload_n 0, 1) := by decide +kernel
theorem d_RRef_learnPart_135 : decode b_RRef_learnPart 135 = .ok (.getfield 147, 3) := by decide +kernel
theorem d_RRef_learnPart_138 : decode b_RRef_learnPart 138 = .ok (.putfield 147, 3) := by decide +kernel
theorem d_RRef_learnPart_141 : decode b_RRef_learnPart 141 = .ok (.return_, 1) := by decide +kernel
theorem d_RRef_mark_0 : decode b_RRef_mark 0 = .ok (.aload_n 0, 1) := by decide +kernel
theorem d_RRef_mark_1 : decode b_RRef_mark 1 = .ok (.getfield 13, 3) := by decide +kernel
theorem d_RRef_mark_4 : decode b_RRef_mark 4 = .ok (.ifCond .ne 6, 3) := by decide +kernel
theorem d_RRef_mark_7 : decode b_RRef_mark 7 = .ok (.bipush (-3), 2) := by decide +kernel
theorem d_RRef_mark_9 : decode b_RRef_mark 9 = .ok (.ireturn, 1) := by decide +kernel
theorem d_RRef_mark_10 : decode b_RRef_mark 10 = .ok (.iload_n 1, 1) := by decide +kernel
theorem d_RRef_mark_11 : decode b_RRef_mark 11 = .ok (.iconst 1, 1) := by decide +kernel
theorem d_RRef_mark_12 : decode b_RRef_mark 12 = .ok (.bipush 12, 2) := by decide +kernel
theorem d_RRef_mark_14 : decode b_RRef_mark 14 = .ok (.invokestatic 172, 3) := by decide +kernel
theorem d_RRef_mark_17 : decode b_RRef_mark 17 = .ok (.ifCond .ne 6, 3) := by decide +kernel
theorem d_RRef_mark_20 : decode b_RRef_mark 20 = .ok (.bipush (-2), 2) := by decide +kernel
theorem d_RRef_mark_22 : decode b_RRef_mark 22 = .ok (.ireturn, 1) := by decide +kernel
theorem d_RRef_mark_23 : decode b_RRef_mark 23 = .ok (.aload_n 0, 1) := by decide +kernel
theorem d_RRef_mark_24 : decode b_RRef_mark 24 = .ok (.getfield 106, 3) := by decide +kernel
theorem d_RRef_mark_27 : decode b_RRef_mark 27 = .ok (.iload_n 1, 1) := by decide +kernel
theorem d_RRef_mark_28 : decode b_RRef_mark 28 = .ok (.if_icmp .ge 5, 3) := by decide +kernel
theorem d_RRef_mark_31 : decode b_RRef_mark 31 = .ok (.iconst (-1), 1) := by decide +kernel
theorem d_RRef_mark_32 : decode b_RRef_mark 32 = .ok (.ireturn, 1) := by decide +kernel
theorem d_RRef_mark_33 : decode b_RRef_mark 33 = .ok (.aload_n 0, 1) := by decide +kernel
theorem d_RRef_mark_34 : decode b_RRef_mark 34 = .ok (.iconst 0, 1) := by decide +kernel
theorem d_RRef_mark_35 : decode b_RRef_mark 35 = .ok (.invokevirtual 196, 3) := by decide +kernel
theorem d_RRef_mark_38 : decode b_RRef_mark 38 = .ok (.bipush 6, 2) := by decide +kernel
theorem d_RRef_mark_40 : decode b_RRef_mark 40 = .ok (.if_icmp .eq 12, 3) := by decide +kernel
theorem d_RRef_mark_43 : decode b_RRef_mark 43 = .ok (.aload_n 0, 1) := by decide +kernel
theorem d_RRef_mark_44 : decode b_RRef_mark 44 = .ok (.getfield 153, 3) := by decide +kernel
theorem d_RRef_mark_47 : decode b_RRef_mark 47 = .ok (.ldc 191, 2) := by decide +kernel
theorem d_RRef_mark_49 : decode b_RRef_mark 49 = .ok (.if_icmp .ne 6, 3) := by decide +kernel
theorem d_RRef_mark_52 : decode b_RRef_mark 52 = .ok (.bipush (-4), 2) := by decide +kernel
theorem d_RRef_mark_54 : decode b_RRef_mark 54 = .ok (.ireturn, 1) := by decide +kernel
theorem d_RRef_mark_55 : decode b_RRef_mark 55 = .ok (.ldc 200, 2) := by decide +kernel
theorem d_RRef_mark_57 : decode b_RRef_mark 57 = .ok (.istore_n 2, 1) := by decide +kernel
theorem d_RRef_mark_58 : decode b_RRef_mark 58 = .ok (.iload_n 1, 1) := by decide +kernel
theorem d_RRef_mark_59 : decode b_RRef_mark 59 = .ok (.iconst 1, 1) := by decide +kernel
theorem d_RRef_mark_60 : decode b_RRef_mark 60 = .ok (.isub, 1) := by decide +kernel
theorem d_RRef_mark_61 : decode b_RRef_mark 61 = .ok (.istore_n 3, 1) := by decide +kernel
theorem d_RRef_mark_62 : decode b_RRef_mark 62 = .ok (.iload_n 3, 1) := by decide +kernel
theorem d_RRef_mark_63 : decode b_RRef_mark 63 = .ok (.ifCond .lt 30, 3) := by decide +kernel
theorem d_RRef_mark_66 : decode b_RRef_mark 66 = .ok (.aload_n 0, 1) := by decide +kernel
theorem d_RRef_mark_67 : decode b_RRef_mark 67 = .ok (.iload_n 2, 1) := by decide +kernel
theorem d_RRef_mark_68 : decode b_RRef_mark 68 = .ok (.invokevirtual 201, 3) := by decide +kernel
theorem d_RRef_mark_71 : decode b_RRef_mark 71 = .ok (.istore_n 2, 1) := by decide +kernel
theorem d_RRef_mark_72 : decode b_RRef_mark 72 = .ok (.aload_n 0, 1) := by decide +kernel
theorem d_RRef_mark_73 : decode b_RRef_mark 73 = .ok (.getfield 53, 3) := by decide +kernel
theorem d_RRef_mark_76 : decode b_RRef_mark 76 = .ok (.bipush 12, 2) := by decide +kernel
theorem d_RRef_mark_78 : decode b_RRef_mark 78 = .ok (.aload_n 0, 1) := by decide +kernel
theorem d_RRef_mark_79 : decode b_RRef_mark 79 = .ok (.getfield 109, 3) := by decide +kernel
theorem d_RRef_mark_82 : decode b_RRef_mark 82 = .ok (.imul, 1) := by decide +kernel
theorem d_RRef_mark_83 : decode b_RRef_mark 83 = .ok (.iload_n 3, 1) := by decide +kernel
theorem d_RRef_mark_84 : decode b_RRef_mark 84 = .ok (.iadd, 1) := by decide +kernel
theorem d_RRef_mark_85 : decode b_RRef_mark 85 = .ok (.iload_n 2, 1) := by decide +kernel
theorem d_RRef_mark_86 : decode b_RRef_mark 86 = .ok (.iastore, 1) := by decide +kernel
theorem d_RRef_mark_87 : decode b_RRef_mark 87 = .ok (.iinc 3 (-1), 3) := by decide +kernel
theorem d_RRef_mark_90 : decode b_RRef_mark 90 = .ok (.goto (-28), 3) := by decide +kernel
theorem d_RRef_mark_93 : decode b_RRef_mark 93 = .ok (.aload_n 0, 1) := by decide +kernel
theorem d_RRef_mark_94 : decode b_RRef_mark 94 = .ok (.iload_n 1, 1) := by decide +kernel
theorem d_RRef_mark_95 : decode b_RRef_mark 95 = .ok (.invokevirtual 204, 3) := by decide +kernel
theorem d_RRef_mark_98 : decode b_RRef_mark 98 = .ok (.ireturn, 1) := by decide +kernel
theorem d_RRef_markAt_0 : decode b_RRef_markAt 0 = .ok (.bipush 32, 2) := by decide +kernel
theorem d_RRef_markAt_2 : decode b_RRef_markAt 2 = .ok (.iload_n 1, 1) := by decide +kernel
theorem d_RRef_markAt_3 : decode b_RRef_markAt 3 = .ok (.imul, 1) := by decide +kernel
theorem d_RRef_markAt_4 : decode b_RRef_markAt 4 = .ok (.istore_n 2, 1) := by decide +kernel
theorem d_RRef_markAt_5 : decode b_RRef_markAt 5 = .ok (.aload_n 0, 1) := by decide +kernel
theorem d_RRef_markAt_6 : decode b_RRef_markAt 6 = .ok (.getfield 7, 3) := by decide +kernel
theorem d_RRef_markAt_9 : decode b_RRef_markAt 9 = .ok (.iload_n 2, 1) := by decide +kernel
theorem d_RRef_markAt_10 : decode b_RRef_markAt 10 = .ok (.iconst 4, 1) := by decide +kernel
theorem d_RRef_markAt_11 : decode b_RRef_markAt 11 = .ok (.iadd, 1) := by decide +kernel
theorem d_RRef_markAt_12 : decode b_RRef_markAt 12 = .ok (.iconst 4, 1) := by decide +kernel
theorem d_RRef_markAt_13 : decode b_RRef_markAt 13 = .ok (.invokestatic 85, 3) := by decide +kernel
theorem d_RRef_markAt_16 : decode b_RRef_markAt 16 = .ok (.lstore_n 3, 1) := by decide +kernel
theorem d_RRef_markAt_17 : decode b_RRef_markAt 17 = .ok (.aload_n 0, 1) := by decide +kernel
theorem d_RRef_markAt_18 : decode b_RRef_markAt 18 = .ok (.getfield 7, 3) := by decide +kernel
theorem d_RRef_markAt_21 : decode b_RRef_markAt 21 = .ok (.iload_n 2, 1) := by decide +kernel
theorem d_RRef_markAt_22 : decode b_RRef_markAt 22 = .ok (.iconst 1, 1) := by decide +kernel
theorem d_RRef_markAt_23 : decode b_RRef_markAt 23 = .ok (.iadd, 1) := by decide +kernel
theorem d_RRef_markAt_24 : decode b_RRef_markAt 24 = .ok (.baload, 1) := by decide +kernel
theorem d_RRef_markAt_25 : decode b_RRef_markAt 25 = .ok (.sipush 255, 3) := by decide +kernel
theorem d_RRef_markAt_28 : decode b_RRef_markAt 28 = .ok (.iand, 1) := by decide +kernel
theorem d_RRef_markAt_29 : decode b_RRef_markAt 29 = .ok (.istore 5, 2) := by decide +kernel
theorem d_RRef_markAt_31 : decode b_RRef_markAt 31 = .ok (.iconst 1, 1) := by decide +kernel
theorem d_RRef_markAt_32 : decode b_RRef_markAt 32 = .ok (.iload 5, 2) := by decide +kernel
theorem d_RRef_markAt_34 : decode b_RRef_markAt 34 = .ok (.invokestatic 116, 3) := by decide +kernel
theorem d_RRef_markAt_37 : decode b_RRef_markAt 37 = .ok (.iadd, 1) := by decide +kernel
theorem d_RRef_markAt_38 : decode b_RRef_markAt 38 = .ok (.istore 6, 2) := by decide +kernel
theorem d_RRef_markAt_40 : decode b_RRef_markAt 40 = .ok (.aload_n 0, 1) := by decide +kernel
theorem d_RRef_markAt_41 : decode b_RRef_markAt 41 = .ok (.iload_n 1, 1) := by decide +kernel
theorem d_RRef_markAt_42 : decode b_RRef_markAt 42 = .ok (.invokevirtual 119, 3) := by decide +kernel
theorem d_RRef_markAt_45 : decode b_RRef_markAt 45 = .ok (.iconst 2, 1) := by decide +kernel
theorem d_RRef_markAt_46 : decode b_RRef_markAt 46 = .ok (.if_icmp .ne 53, 3) := by decide +kernel
theorem d_RRef_markAt_49 : decode b_RRef_markAt 49 = .ok (.aload_n 0, 1) := by decide +kernel
theorem d_RRef_markAt_50 : decode b_RRef_markAt 50 = .ok (.iload_n 1, 1) := by decide +kernel
theorem d_RRef_markAt_51 : decode b_RRef_markAt 51 = .ok (.invokevirtual 122, 3) := by decide +kernel
theorem d_RRef_markAt_54 : decode b_RRef_markAt 54 = .ok (.ifCond .eq 45, 3) := by decide +kernel
theorem d_RRef_markAt_57 : decode b_RRef_markAt 57 = .ok (.iload 5, 2) := by decide +kernel
theorem d_RRef_markAt_59 : decode b_RRef_markAt 59 = .ok (.iconst 1, 1) := by decide +kernel
theorem d_RRef_markAt_60 : decode b_RRef_markAt 60 = .ok (.if_icmp .lt 39, 3) := by decide +kernel
theorem d_RRef_markAt_63 : decode b_RRef_markAt 63 = .ok (.iload 5, 2) := by decide +kernel
theorem d_RRef_markAt_65 : decode b_RRef_markAt 65 = .ok (.bipush 12, 2) := by decide +kernel
theorem d_RRef_markAt_67 : decode b_RRef_markAt 67 = .ok (.if_icmp .gt 32, 3) := by decide +kernel
theorem d_RRef_markAt_70 : decode b_RRef_markAt 70 = .ok (.lload_n 3, 1) := by decide +kernel
theorem d_RRef_markAt_71 : decode b_RRef_markAt 71 = .ok (.lconst 1, 1) := by decide +kernel
theorem d_RRef_markAt_72 : decode b_RRef_markAt 72 = .ok (.lcmp, 1) := by decide +kernel
theorem d_RRef_markAt_73 : decode b_RRef_markAt 73 = .ok (.ifCond .lt 26, 3) := by decide +kernel
theorem d_RRef_markAt_76 : decode b_RRef_markAt 76 = .ok (.lload_n 3, 1) := by decide +kernel
theorem d_RRef_markAt_77 : decode b_RRef_markAt 77 = .ok (.ldc2_w 135, 3) := by decide +kernel
theorem d_RRef_markAt_80 : decode b_RRef_markAt 80 = .ok (.lcmp, 1) := by decide +kernel
theorem d_RRef_markAt_81 : decode b_RRef_markAt 81 = .ok (.ifCond .gt 18, 3) := by decide +kernel
theorem d_RRef_markAt_84 : decode b_RRef_markAt 84 = .ok (.iload_n 1, 1) := by decide +kernel
theorem d_RRef_markAt_85 : decode b_RRef_markAt 85 = .ok (.iload 6, 2) := by decide +kernel
theorem d_RRef_markAt_87 : decode b_RRef_markAt 87 = .ok (.iadd, 1) := by decide +kernel
theorem d_RRef_markAt_88 : decode b_RRef_markAt 88 = .ok (.aload_n 0, 1) := by decide +kernel
theorem d_RRef_markAt_89 : decode b_RRef_markAt 89 = .ok (.getfield 78, 3) := by decide +kernel
theorem d_RRef_markAt_92 : decode b_RRef_markAt 92 = .ok (.if_icmp .gt 7, 3) := by decide +kernel
theorem d_RRef_markAt_95 : decode b_RRef_markAt 95 = .ok (.iconst 1, 1) := by decide +kernel
theorem d_RRef_markAt_96 : decode b_RRef_markAt 96 = .ok (.goto 4, 3) := by decide +kernel
theorem d_RRef_markAt_99 : decode b_RRef_markAt 99 = .ok (.iconst 0, 1) := by decide +kernel
theorem d_RRef_markAt_100 : decode b_RRef_markAt 100 = .ok (.istore 7, 2) := by decide +kernel
theorem d_RRef_markAt_102 : decode b_RRef_markAt 102 = .ok (.iload 7, 2) := by decide +kernel
theorem d_RRef_markAt_104 : decode b_RRef_markAt 104 = .ok (.ifCond .eq 43, 3) := by decide +kernel
theorem d_RRef_markAt_107 : decode b_RRef_markAt 107 = .ok (.aload_n 0, 1) := by decide +kernel
theorem d_RRef_markAt_108 : decode b_RRef_markAt 108 = .ok (.getfield 7, 3) := by decide +kernel
theorem d_RRef_markAt_111 : decode b_RRef_markAt 111 = .ok (.iload_n 2, 1) := by decide +kernel
theorem d_RRef_markAt_112 : decode b_RRef_markAt 112 = .ok (.bipush 8, 2) := by decide +kernel
theorem d_RRef_markAt_114 : decode b_RRef_markAt 114 = .ok (.iadd, 1) := by decide +kernel
theorem d_RRef_markAt_115 : decode b_RRef_markAt 115 = .ok (.bipush 8, 2) := by decide +kernel
theorem d_RRef_markAt_117 : decode b_RRef_markAt 117 = .ok (.invokestatic 85, 3) := by decide +kernel
theorem d_RRef_markAt_120 : decode b_RRef_markAt 120 = .ok (.aload_n 0, 1) := by decide +kernel
theorem d_RRef_markAt_121 : decode b_RRef_markAt 121 = .ok (.getfield 7, 3) := by decide +kernel
theorem d_RRef_markAt_124 : decode b_RRef_markAt 124 = .ok (.iload_n 2, 1) := by decide +kernel
theorem d_RRef_markAt_125 : decode b_RRef_markAt 125 = .ok (.bipush 32, 2) := by decide +kernel
theorem d_RRef_markAt_127 : decode b_RRef_markAt 127 = .ok (.iadd, 1) := by decide +kernel
theorem d_RRef_markAt_128 : decode b_RRef_markAt 128 = .ok (.bipush 32, 2) := by decide +kernel
theorem d_RRef_markAt_130 : decode b_RRef_markAt 130 = .ok (.iload 5, 2) := by decide +kernel
theorem d_RRef_markAt_132 : decode b_RRef_markAt 132 = .ok (.invokestatic 116, 3) := by decide +kernel
theorem d_RRef_markAt_135 : decode b_RRef_markAt 135 = .ok (.imul, 1) := by decide +kernel
theorem d_RRef_markAt_136 : decode b_RRef_markAt 136 = .ok (.invokestatic 89, 3) := by decide +kernel
theorem d_RRef_markAt_139 : decode b_RRef_markAt 139 = .ok (.lcmp, 1) := by decide +kernel
theorem d_RRef_markAt_140 : decode b_RRef_markAt 140 = .ok (.ifCond .ne 7, 3) := by decide +kernel
theorem d_RRef_markAt_143 : decode b_RRef_markAt 143 = .ok (.iconst 1, 1) := by decide +kernel
theorem d_RRef_markAt_144 : decode b_RRef_markAt 144 = .ok (.goto 4, 3) := by decide +kernel
theorem d_RRef_markAt_147 : decode b_RRef_markAt 147 = .ok (.iconst 0, 1) := by decide +kernel
theorem d_RRef_markAt_148 : decode b_RRef_markAt 148 = .ok (.istore 7, 2) := by decide +kernel
theorem d_RRef_markAt_150 : decode b_RRef_markAt 150 = .ok (.lconst 0, 1) := by decide +kernel
theorem d_RRef_markAt_151 : decode b_RRef_markAt 151 = .ok (.lstore 8, 2) := by decide +kernel
theorem d_RRef_markAt_153 : decode b_RRef_markAt 153 = .ok (.iconst 0, 1) := by decide +kernel
theorem d_RRef_markAt_154 : decode b_RRef_markAt 154 = .ok (.istore 10, 2) := by decide +kernel
theorem d_RRef_markAt_156 : decode b_RRef_markAt 156 = .ok (.iload 10, 2) := by decide +kernel
theorem d_RRef_markAt_158 : decode b_RRef_markAt 158 = .ok (.iload 5, 2) := by decide +kernel
theorem d_RRef_markAt_160 : decode b_RRef_markAt 160 = .ok (.if_icmp .ge 58, 3) := by decide +kernel
theorem d_RRef_markAt_163 : decode b_RRef_markAt 163 = .ok (.iload 7, 2) := by decide +kernel
theorem d_RRef_markAt_165 : decode b_RRef_markAt 165 = .ok (.ifCond .eq 53, 3) := by decide +kernel
theorem d_RRef_markAt_168 : decode b_RRef_markAt 168 = .ok (.aload_n 0, 1) := by decide +kernel
theorem d_RRef_markAt_169 : decode b_RRef_markAt 169 = .ok (.getfield 7, 3) := by decide +kernel
theorem d_RRef_markAt_172 : decode b_RRef_markAt 172 = .ok (.iload_n 1, 1) := by decide +kernel
theorem d_RRef_markAt_173 : decode b_RRef_markAt 173 = .ok (.iload 10, 2) := by decide +kernel
theorem d_RRef_markAt_175 : decode b_RRef_markAt 175 = .ok (.invokestatic 143, 3) := by decide +kernel
theorem d_RRef_markAt_178 : decode b_RRef_markAt 178 = .ok (.iconst 4, 1) := by decide +kernel
theorem d_RRef_markAt_179 : decode b_RRef_markAt 179 = .ok (.invokestatic 85, 3) := by decide +kernel
theorem d_RRef_markAt_182 : decode b_RRef_markAt 182 = .ok (.lstore 11, 2) := by decide +kernel
theorem d_RRef_markAt_184 : decode b_RRef_markAt 184 = .ok (.lload 11, 2) := by decide +kernel
theorem d_RRef_markAt_186 : decode b_RRef_markAt 186 = .ok (.lload 8, 2) := by decide +kernel
theorem d_RRef_markAt_188 : decode b_RRef_markAt 188 = .ok (.lcmp, 1) := by decide +kernel
theorem d_RRef_markAt_189 : decode b_RRef_markAt 189 = .ok (.ifCond .le 16, 3) := by decide +kernel
theorem d_RRef_markAt_192 : decode b_RRef_markAt 192 = .ok (.lload 11, 2) := by decide +kernel
theorem d_RRef_markAt_194 : decode b_RRef_markAt 194 = .ok (.ldc2_w 135, 3) := by decide +kernel
theorem d_RRef_markAt_197 : decode b_RRef_markAt 197 = .ok (.lcmp, 1) := by decide +kernel
theorem d_RRef_markAt_198 : decode b_RRef_markAt 198 = .ok (.ifCond .gt 7, 3) := by decide +kernel
theorem d_RRef_markAt_201 : decode b_RRef_markAt 201 = .ok (.iconst 1, 1) := by decide +kernel
theorem d_RRef_markAt_202 : decode b_RRef_markAt 202 = .ok (.goto 4, 3) := by decide +kernel
theorem d_RRef_markAt_205 : decode b_RRef_markAt 205 = .ok (.iconst 0, 1) := by decide +kernel
theorem d_RRef_markAt_206 : decode b_RRef_markAt 206 = .ok (.istore 7, 2) := by decide +kernel
theorem d_RRef_markAt_208 : decode b_RRef_markAt 208 = .ok (.lload 11, 2) := by decide +kernel
theorem d_RRef_markAt_210 : decode b_RRef_markAt 210 = .ok (.lstore 8, 2) := by decide +kernel
theorem d_RRef_markAt_212 : decode b_RRef_markAt 212 = .ok (.iinc 10 1, 3) := by decide +kernel
theorem d_RRef_markAt_215 : decode b_RRef_markAt 215 = .ok (.goto (-59), 3) := by decide +kernel
theorem d_RRef_markAt_218 : decode b_RRef_markAt 218 = .ok (.iload 7, 2) := by decide +kernel
theorem d_RRef_markAt_220 : decode b_RRef_markAt 220 = .ok (.ifCond .eq 8, 3) := by decide +kernel
theorem d_RRef_markAt_223 : decode b_RRef_markAt 223 = .ok (.iload 6, 2) := by decide +kernel
theorem d_RRef_markAt_225 : decode b_RRef_markAt 225 = .ok (.goto 4, 3) := by decide +kernel
theorem d_RRef_markAt_228 : decode b_RRef_markAt 228 = .ok (.iconst 0, 1) := by decide +kernel
theorem d_RRef_markAt_229 : decode b_RRef_markAt 229 = .ok (.ireturn, 1) := by decide +kernel
theorem d_RRef_markOf_0 : decode b_RRef_markOf 0 = .ok (.aload_n 0, 1) := by decide +kernel
theorem d_RRef_markOf_1 : decode b_RRef_markOf 1 = .ok (.iload_n 1, 1) := by decide +kernel
theorem d_RRef_markOf_2 : decode b_RRef_markOf 2 = .ok (.invokevirtual 150, 3) := by decide +kernel
theorem d_RRef_markOf_5 : decode b_RRef_markOf 5 = .ok (.istore_n 3, 1) := by decide +kernel
theorem d_RRef_markOf_6 : decode b_RRef_markOf 6 = .ok (.aload_n 0, 1) := by decide +kernel
theorem d_RRef_markOf_7 : decode b_RRef_markOf 7 = .ok (.getfield 13, 3) := by decide +kernel
theorem d_RRef_markOf_10 : decode b_RRef_markOf 10 = .ok (.ifCond .ne 6, 3) := by decide +kernel
theorem d_RRef_markOf_13 : decode b_RRef_markOf 13 = .ok (.bipush (-3), 2) := by decide +kernel
theorem d_RRef_markOf_15 : decode b_RRef_markOf 15 = .ok (.ireturn, 1) := by decide +kernel
theorem d_RRef_markOf_16 : decode b_RRef_markOf 16 = .ok (.iload_n 3, 1) := by decide +kernel
theorem d_RRef_markOf_17 : decode b_RRef_markOf 17 = .ok (.iconst (-1), 1) := by decide +kernel
theorem d_RRef_markOf_18 : decode b_RRef_markOf 18 = .ok (.if_icmp .eq 19, 3) := by decide +kernel
theorem d_RRef_markOf_21 : decode b_RRef_markOf 21 = .ok (.iload_n 2, 1) := by decide +kernel
theorem d_RRef_markOf_22 : decode b_RRef_markOf 22 = .ok (.iconst (-1), 1) := by decide +kernel
theorem d_RRef_markOf_23 : decode b_RRef_markOf 23 = .ok (.aload_n 0, 1) := by decide +kernel
theorem d_RRef_markOf_24 : decode b_RRef_markOf 24 = .ok (.getfield 47, 3) := by decide +kernel
theorem d_RRef_markOf_27 : decode b_RRef_markOf 27 = .ok (.iload_n 3, 1) := by decide +kernel
theorem d_RRef_markOf_28 : decode b_RRef_markOf 28 = .ok (.iaload, 1) := by decide +kernel
theorem d_RRef_markOf_29 : decode b_RRef_markOf 29 = .ok (.iconst 1, 1) := by decide +kernel
theorem d_RRef_markOf_30 : decode b_RRef_markOf 30 = .ok (.isub, 1) := by decide +kernel
theorem d_RRef_markOf_31 : decode b_RRef_markOf 31 = .ok (.invokestatic 172, 3) := by decide +kernel
theorem d_RRef_markOf_34 : decode b_RRef_markOf 34 = .ok (.ifCond .ne 7, 3) := by decide +kernel
theorem d_RRef_markOf_37 : decode b_RRef_markOf 37 = .ok (.iconst (-1), 1) := by decide +kernel
theorem d_RRef_markOf_38 : decode b_RRef_markOf 38 = .ok (.goto 28, 3) := by decide +kernel
theorem d_RRef_markOf_41 : decode b_RRef_markOf 41 = .ok (.iload_n 2, 1) := by decide +kernel
theorem d_RRef_markOf_42 : decode b_RRef_markOf 42 = .ok (.iconst (-1), 1) := by decide +kernel
theorem d_RRef_markOf_43 : decode b_RRef_markOf 43 = .ok (.if_icmp .ne 12, 3) := by decide +kernel
theorem d_RRef_markOf_46 : decode b_RRef_markOf 46 = .ok (.aload_n 0, 1) := by decide +kernel
theorem d_RRef_markOf_47 : decode b_RRef_markOf 47 = .ok (.getfield 47, 3) := by decide +kernel
theorem d_RRef_markOf_50 : decode b_RRef_markOf 50 = .ok (.iload_n 3, 1) := by decide +kernel
theorem d_RRef_markOf_51 : decode b_RRef_markOf 51 = .ok (.iaload, 1) := by decide +kernel
theorem d_RRef_markOf_52 : decode b_RRef_markOf 52 = .ok (.goto 14, 3) := by decide +kernel
theorem d_RRef_markOf_55 : decode b_RRef_markOf 55 = .ok (.aload_n 0, 1) := by decide +kernel
theorem d_RRef_markOf_56 : decode b_RRef_markOf 56 = .ok (.getfield 53, 3) := by decide +kernel
theorem d_RRef_markOf_59 : decode b_RRef_markOf 59 = .ok (.bipush 12, 2) := by decide +kernel
theorem d_RRef_markOf_61 : decode b_RRef_markOf 61 = .ok (.iload_n 3, 1) := by decide +kernel
theorem d_RRef_markOf_62 : decode b_RRef_markOf 62 = .ok (.imul, 1) := by decide +kernel
theorem d_RRef_markOf_63 : decode b_RRef_markOf 63 = .ok (.iload_n 2, 1) := by decide +kernel
theorem d_RRef_markOf_64 : decode b_RRef_markOf 64 = .ok (.iadd, 1) := by decide +kernel
theorem d_RRef_markOf_65 : decode b_RRef_markOf 65 = .ok (.iaload, 1) := by decide +kernel
theorem d_RRef_markOf_66 : decode b_RRef_markOf 66 = .ok (.ireturn, 1) := by decide +kernel
theorem d_RRef_marks_0 : decode b_RRef_marks 0 = .ok (.aload_n 0, 1) := by decide +kernel
theorem d_RRef_marks_1 : decode b_RRef_marks 1 = .ok (.getfield 13, 3) := by decide +kernel
theorem d_RRef_marks_4 : decode b_RRef_marks 4 = .ok (.ifCond .ne 6, 3) := by decide +kernel
theorem d_RRef_marks_7 : decode b_RRef_marks 7 = .ok (.bipush (-3), 2) := by decide +kernel
theorem d_RRef_marks_9 : decode b_RRef_marks 9 = .ok (.ireturn, 1) := by decide +kernel
theorem d_RRef_marks_10 : decode b_RRef_marks 10 = .ok (.aload_n 0, 1) := by decide +kernel
theorem d_RRef_marks_11 : decode b_RRef_marks 11 = .ok (.iconst 1, 1) := by decide +kernel
theorem d_RRef_marks_12 : decode b_RRef_marks 12 = .ok (.invokevirtual 196, 3) := by decide +kernel
theorem d_RRef_marks_15 : decode b_RRef_marks 15 = .ok (.istore_n 2, 1) := by decide +kernel
theorem d_RRef_marks_16 : decode b_RRef_marks 16 = .ok (.iload_n 1, 1) := by decide +kernel
theorem d_RRef_marks_17 : decode b_RRef_marks 17 = .ok (.iconst (-1), 1) := by decide +kernel
theorem d_RRef_marks_18 : decode b_RRef_marks 18 = .ok (.if_icmp .ne 5, 3) := by decide +kernel
theorem d_RRef_marks_21 : decode b_RRef_marks 21 = .ok (.iload_n 2, 1) := by decide +kernel
theorem d_RRef_marks_22 : decode b_RRef_marks 22 = .ok (.ireturn, 1) := by decide +kernel
theorem d_RRef_marks_23 : decode b_RRef_marks 23 = .ok (.iconst 0, 1) := by decide +kernel
theorem d_RRef_marks_24 : decode b_RRef_marks 24 = .ok (.istore_n 3, 1) := by decide +kernel
theorem d_RRef_marks_25 : decode b_RRef_marks 25 = .ok (.iload_n 3, 1) := by decide +kernel
theorem d_RRef_marks_26 : decode b_RRef_marks 26 = .ok (.aload_n 0, 1) := by decide +kernel
theorem d_RRef_marks_27 : decode b_RRef_marks 27 = .ok (.getfield 109, 3) := by decide +kernel
theorem d_RRef_marks_30 : decode b_RRef_marks 30 = .ok (.if_icmp .ge 90, 3) := by decide +kernel
theorem d_RRef_marks_33 : decode b_RRef_marks 33 = .ok (.iconst 0, 1) := by decide +kernel
theorem d_RRef_marks_34 : decode b_RRef_marks 34 = .ok (.istore 4, 2) := by decide +kernel
theorem d_RRef_marks_36 : decode b_RRef_marks 36 = .ok (.iconst 0, 1) := by decide +kernel
theorem d_RRef_marks_37 : decode b_RRef_marks 37 = .ok (.istore 5, 2) := by decide +kernel
theorem d_RRef_marks_39 : decode b_RRef_marks 39 = .ok (.iload 5, 2) := by decide +kernel
theorem d_RRef_marks_41 : decode b_RRef_marks 41 = .ok (.aload_n 0, 1) := by decide +kernel
theorem d_RRef_marks_42 : decode b_RRef_marks 42 = .ok (.getfield 109, 3) := by decide +kernel
theorem d_RRef_marks_45 : decode b_RRef_marks 45 = .ok (.if_icmp .ge 46, 3) := by decide +kernel
theorem d_RRef_marks_48 : decode b_RRef_marks 48 = .ok (.iload 4, 2) := by decide +kernel
theorem d_RRef_marks_50 : decode b_RRef_marks 50 = .ok (.aload_n 0, 1) := by decide +kernel
theorem d_RRef_marks_51 : decode b_RRef_marks 51 = .ok (.getfield 44, 3) := by decide +kernel
theorem d_RRef_marks_54 : decode b_RRef_marks 54 = .ok (.iload 5, 2) := by decide +kernel
theorem d_RRef_marks_56 : decode b_RRef_marks 56 = .ok (.iaload, 1) := by decide +kernel
theorem d_RRef_marks_57 : decode b_RRef_marks 57 = .ok (.iconst (-1), 1) := by decide +kernel
theorem d_RRef_marks_58 : decode b_RRef_marks 58 = .ok (.if_icmp .eq 23, 3) := by decide +kernel
theorem d_RRef_marks_61 : decode b_RRef_marks 61 = .ok (.aload_n 0, 1) := by decide +kernel
theorem d_RRef_marks_62 : decode b_RRef_marks 62 = .ok (.getfield 41, 3) := by decide +kernel
theorem d_RRef_marks_65 : decode b_RRef_marks 65 = .ok (.iload 5, 2) := by decide +kernel
theorem d_RRef_marks_67 : decode b_RRef_marks 67 = .ok (.iaload, 1) := by decide +kernel
theorem d_RRef_marks_68 : decode b_RRef_marks 68 = .ok (.aload_n 0, 1) := by decide +kernel
theorem d_RRef_marks_69 : decode b_RRef_marks 69 = .ok (.getfield 41, 3) := by decide +kernel
theorem d_RRef_marks_72 : decode b_RRef_marks 72 = .ok (.iload_n 3, 1) := by decide +kernel
theorem d_RRef_marks_73 : decode b_RRef_marks 73 = .ok (.iaload, 1) := by decide +kernel
theorem d_RRef_marks_74 : decode b_RRef_marks 74 = .ok (.if_icmp .ge 7, 3) := by decide +kernel
theorem d_RRef_marks_77 : decode b_RRef_marks 77 = .ok (.iconst 1, 1) := by decide +kernel
theorem d_RRef_marks_78 : decode b_RRef_marks 78 = .ok (.goto 4, 3) := by decide +kernel
theorem d_RRef_marks_81 : decode b_RRef_marks 81 = .ok (.iconst 0, 1) := by decide +kernel
theorem d_RRef_marks_82 : decode b_RRef_marks 82 = .ok (.iadd, 1) := by decide +kernel
theorem d_RRef_marks_83 : decode b_RRef_marks 83 = .ok (.istore 4, 2) := by decide +kernel
theorem d_RRef_marks_85 : decode b_RRef_marks 85 = .ok (.iinc 5 1, 3) := by decide +kernel
theorem d_RRef_marks_88 : decode b_RRef_marks 88 = .ok (.goto (-49), 3) := by decide +kernel
theorem d_RRef_marks_91 : decode b_RRef_marks 91 = .ok (.aload_n 0, 1) := by decide +kernel
theorem d_RRef_marks_92 : decode b_RRef_marks 92 = .ok (.getfield 44, 3) := by decide +kernel
theorem d_RRef_marks_95 : decode b_RRef_marks 95 = .ok (.iload_n 3, 1) := by decide +kernel
theorem d_RRef_marks_96 : decode b_RRef_marks 96 = .ok (.iaload, 1) := by decide +kernel
theorem d_RRef_marks_97 : decode b_RRef_marks 97 = .ok (.iconst (-1), 1) := by decide +kernel
theorem d_RRef_marks_98 : decode b_RRef_marks 98 = .ok (.if_icmp .eq 16, 3) := by decide +kernel
theorem d_RRef_marks_101 : decode b_RRef_marks 101 = .ok (.iload 4, 2) := by decide +kernel
theorem d_RRef_marks_103 : decode b_RRef_marks 103 = .ok (.iload_n 1, 1) := by decide +kernel
theorem d_RRef_marks_104 : decode b_RRef_marks 104 = .ok (.if_icmp .ne 10, 3) := by decide +kernel
theorem d_RRef_marks_107 : decode b_RRef_marks 107 = .ok (.aload_n 0, 1) := by decide +kernel
theorem d_RRef_marks_108 : decode b_RRef_marks 108 = .ok (.getfield 41, 3) := by decide +kernel
theorem d_RRef_marks_111 : decode b_RRef_marks 111 = .ok (.iload_n 3, 1) := by decide +kernel
theorem d_RRef_marks_112 : decode b_RRef_marks 112 = .ok (.iaload, 1) := by decide +kernel
theorem d_RRef_marks_113 : decode b_RRef_marks 113 = .ok (.ireturn, 1) := by decide +kernel
theorem d_RRef_marks_114 : decode b_RRef_marks 114 = .ok (.iinc 3 1, 3) := by decide +kernel
theorem d_RRef_marks_117 : decode b_RRef_marks 117 = .ok (.goto (-92), 3) := by decide +kernel
theorem d_RRef_marks_120 : decode b_RRef_marks 120 = .ok (.iconst (-1), 1) := by decide +kernel
theorem d_RRef_marks_121 : decode b_RRef_marks 121 = .ok (.ireturn, 1) := by decide +kernel
theorem d_RRef_marksUsed_0 : decode b_RRef_marksUsed 0 = .ok (.iconst 0, 1) := by decide +kernel
theorem d_RRef_marksUsed_1 : decode b_RRef_marksUsed 1 = .ok (.istore_n 1, 1) := by decide +kernel
theorem d_RRef_marksUsed_2 : decode b_RRef_marksUsed 2 = .ok (.iload_n 1, 1) := by decide +kernel
theorem d_RRef_marksUsed_3 : decode b_RRef_marksUsed 3 = .ok (.sipush 512, 3) := by decide +kernel
theorem d_RRef_marksUsed_6 : decode b_RRef_marksUsed 6 = .ok (.if_icmp .ge 33, 3) := by decide +kernel
theorem d_RRef_marksUsed_9 : decode b_RRef_marksUsed 9 = .ok (.aload_n 0, 1) := by decide +kernel
theorem d_RRef_marksUsed_10 : decode b_RRef_marksUsed 10 = .ok (.getfield 65, 3) := by decide +kernel
theorem d_RRef_marksUsed_13 : decode b_RRef_marksUsed 13 = .ok (.iload_n 1, 1) := by decide +kernel
theorem d_RRef_marksUsed_14 : decode b_RRef_marksUsed 14 = .ok (.iload_n 1, 1) := by decide +kernel
theorem d_RRef_marksUsed_15 : decode b_RRef_marksUsed 15 = .ok (.iconst 2, 1) := by decide +kernel
theorem d_RRef_marksUsed_16 : decode b_RRef_marksUsed 16 = .ok (.if_icmp .lt 11, 3) := by decide +kernel
theorem d_RRef_marksUsed_19 : decode b_RRef_marksUsed 19 = .ok (.iload_n 1, 1) := by decide +kernel
theorem d_RRef_marksUsed_20 : decode b_RRef_marksUsed 20 = .ok (.aload_n 0, 1) := by decide +kernel
theorem d_RRef_marksUsed_21 : decode b_RRef_marksUsed 21 = .ok (.getfield 78, 3) := by decide +kernel
theorem d_RRef_marksUsed_24 : decode b_RRef_marksUsed 24 = .ok (.if_icmp .lt 7, 3) := by decide +kernel
theorem d_RRef_marksUsed_27 : decode b_RRef_marksUsed 27 = .ok (.iconst 1, 1) := by decide +kernel
theorem d_RRef_marksUsed_28 : decode b_RRef_marksUsed 28 = .ok (.goto 4, 3) := by decide +kernel
theorem d_RRef_marksUsed_31 : decode b_RRef_marksUsed 31 = .ok (.iconst 0, 1) := by decide +kernel
theorem d_RRef_marksUsed_32 : decode b_RRef_marksUsed 32 = .ok (.bastore, 1) := by decide +kernel
theorem d_RRef_marksUsed_33 : decode b_RRef_marksUsed 33 = .ok (.iinc 1 1, 3) := by decide +kernel
theorem d_RRef_marksUsed_36 : decode b_RRef_marksUsed 36 = .ok (.goto (-34), 3) := by decide +kernel
theorem d_RRef_marksUsed_39 : decode b_RRef_marksUsed 39 = .ok (.iconst 0, 1) := by decide +kernel
theorem d_RRef_marksUsed_40 : decode b_RRef_marksUsed 40 = .ok (.istore_n 1, 1) := by decide +kernel
theorem d_RRef_marksUsed_41 : decode b_RRef_marksUsed 41 = .ok (.iload_n 1, 1) := by decide +kernel
theorem d_RRef_marksUsed_42 : decode b_RRef_marksUsed 42 = .ok (.aload_n 0, 1) := by decide +kernel
theorem d_RRef_marksUsed_43 : decode b_RRef_marksUsed 43 = .ok (.getfield 106, 3) := by decide +kernel
theorem d_RRef_marksUsed_46 : decode b_RRef_marksUsed 46 = .ok (.if_icmp .ge 44, 3) := by decide +kernel
theorem d_RRef_marksUsed_49 : decode b_RRef_marksUsed 49 = .ok (.iconst 0, 1) := by decide +kernel
theorem d_RRef_marksUsed_50 : decode b_RRef_marksUsed 50 = .ok (.istore_n 2, 1) := by decide +kernel
theorem d_RRef_marksUsed_51 : decode b_RRef_marksUsed 51 = .ok (.iload_n 2, 1) := by decide +kernel
theorem d_RRef_marksUsed_52 : decode b_RRef_marksUsed 52 = .ok (.aload_n 0, 1) := by decide +kernel
theorem d_RRef_marksUsed_53 : decode b_RRef_marksUsed 53 = .ok (.getfield 35, 3) := by decide +kernel
theorem d_RRef_marksUsed_56 : decode b_RRef_marksUsed 56 = .ok (.iload_n 1, 1) := by decide +kernel
theorem d_RRef_marksUsed_57 : decode b_RRef_marksUsed 57 = .ok (.iaload, 1) := by decide +kernel
theorem d_RRef_marksUsed_58 : decode b_RRef_marksUsed 58 = .ok (.invokestatic 112, 3) := by decide +kernel
theorem d_RRef_marksUsed_61 : decode b_RRef_marksUsed 61 = .ok (.if_icmp .gt 23, 3) := by decide +kernel
theorem d_RRef_marksUsed_64 : decode b_RRef_marksUsed 64 = .ok (.aload_n 0, 1) := by decide +kernel
theorem d_RRef_marksUsed_65 : decode b_RRef_marksUsed 65 = .ok (.getfield 65, 3) := by decide +kernel
theorem d_RRef_marksUsed_68 : decode b_RRef_marksUsed 68 = .ok (.aload_n 0, 1) := by decide +kernel
theorem d_RRef_marksUsed_69 : decode b_RRef_marksUsed 69 = .ok (.getfield 38, 3) := by decide +kernel
theorem d_RRef_marksUsed_72 : decode b_RRef_marksUsed 72 = .ok (.iload_n 1, 1) := by decide +kernel
theorem d_RRef_marksUsed_73 : decode b_RRef_marksUsed 73 = .ok (.iaload, 1) := by decide +kernel
theorem d_RRef_marksUsed_74 : decode b_RRef_marksUsed 74 = .ok (.iload_n 2, 1) := by decide +kernel
theorem d_RRef_marksUsed_75 : decode b_RRef_marksUsed 75 = .ok (.iadd, 1) := by decide +kernel
theorem d_RRef_marksUsed_76 : decode b_RRef_marksUsed 76 = .ok (.iconst 1, 1) := by decide +kernel
theorem d_RRef_marksUsed_77 : decode b_RRef_marksUsed 77 = .ok (.bastore, 1) := by decide +kernel
theorem d_RRef_marksUsed_78 : decode b_RRef_marksUsed 78 = .ok (.iinc 2 1, 3) := by decide +kernel
theorem d_RRef_marksUsed_81 : decode b_RRef_marksUsed 81 = .ok (.goto (-30), 3) := by decide +kernel
theorem d_RRef_marksUsed_84 : decode b_RRef_marksUsed 84 = .ok (.iinc 1 1, 3) := by decide +kernel
theorem d_RRef_marksUsed_87 : decode b_RRef_marksUsed 87 = .ok (.goto (-46), 3) := by decide +kernel
theorem d_RRef_marksUsed_90 : decode b_RRef_marksUsed 90 = .ok (.iconst 0, 1) := by decide +kernel
theorem d_RRef_marksUsed_91 : decode b_RRef_marksUsed 91 = .ok (.istore_n 1, 1) := by decide +kernel
theorem d_RRef_marksUsed_92 : decode b_RRef_marksUsed 92 = .ok (.iload_n 1, 1) := by decide +kernel
theorem d_RRef_marksUsed_93 : decode b_RRef_marksUsed 93 = .ok (.aload_n 0, 1) := by decide +kernel
theorem d_RRef_marksUsed_94 : decode b_RRef_marksUsed 94 = .ok (.getfield 109, 3) := by decide +kernel
theorem d_RRef_marksUsed_97 : decode b_RRef_marksUsed 97 = .ok (.if_icmp .ge 54, 3) := by decide +kernel
theorem d_RRef_marksUsed_100 : decode b_RRef_marksUsed 100 = .ok (.iconst 0, 1) := by decide +kernel
theorem d_RRef_marksUsed_101 : decode b_RRef_marksUsed 101 = .ok (.istore_n 2, 1) := by decide +kernel
theorem d_RRef_marksUsed_102 : decode b_RRef_marksUsed 102 = .ok (.aload_n 0, 1) := by decide +kernel
theorem d_RRef_marksUsed_103 : decode b_RRef_marksUsed 103 = .ok (.getfield 44, 3) := by decide +kernel
theorem d_RRef_marksUsed_106 : decode b_RRef_marksUsed 106 = .ok (.iload_n 1, 1) := by decide +kernel
theorem d_RRef_marksUsed_107 : decode b_RRef_marksUsed 107 = .ok (.iaload, 1) := by decide +kernel
theorem d_RRef_marksUsed_108 : decode b_RRef_marksUsed 108 = .ok (.iconst (-1), 1) := by decide +kernel
theorem d_RRef_marksUsed_109 : decode b_RRef_marksUsed 109 = .ok (.if_icmp .eq 36, 3) := by decide +kernel
theorem d_RRef_marksUsed_112 : decode b_RRef_marksUsed 112 = .ok (.iload_n 2, 1) := by decide +kernel
theorem d_RRef_marksUsed_113 : decode b_RRef_marksUsed 113 = .ok (.aload_n 0, 1) := by decide +kernel
theorem d_RRef_marksUsed_114 : decode b_RRef_marksUsed 114 = .ok (.getfield 47, 3) := by decide +kernel
theorem d_RRef_marksUsed_117 : decode b_RRef_marksUsed 117 = .ok (.iload_n 1, 1) := by decide +kernel
theorem d_RRef_marksUsed_118 : decode b_RRef_marksUsed 118 = .ok (.iaload, 1) := by decide +kernel
theorem d_RRef_marksUsed_119 : decode b_RRef_marksUsed 119 = .ok (.invokestatic 116, 3) := by decide +kernel
theorem d_RRef_marksUsed_122 : decode b_RRef_marksUsed 122 = .ok (.if_icmp .gt 23, 3) := by decide +kernel
theorem d_RRef_marksUsed_125 : decode b_RRef_marksUsed 125 = .ok (.aload_n 0, 1) := by decide +kernel
theorem d_RRef_marksUsed_126 : decode b_RRef_marksUsed 126 = .ok (.getfield 65, 3) := by decide +kernel
theorem d_RRef_marksUsed_129 : decode b_RRef_marksUsed 129 = .ok (.aload_n 0, 1) := by decide +kernel
theorem d_RRef_marksUsed_130 : decode b_RRef_marksUsed 130 = .ok (.getfield 44, 3) := by decide +kernel
theorem d_RRef_marksUsed_133 : decode b_RRef_marksUsed 133 = .ok (.iload_n 1, 1) := by decide +kernel
theorem d_RRef_marksUsed_134 : decode b_RRef_marksUsed 134 = .ok (.iaload, 1) := by decide +kernel
theorem d_RRef_marksUsed_135 : decode b_RRef_marksUsed 135 = .ok (.iload_n 2, 1) := by decide +kernel
theorem d_RRef_marksUsed_136 : decode b_RRef_marksUsed 136 = .ok (.iadd, 1) := by decide +kernel
theorem d_RRef_marksUsed_137 : decode b_RRef_marksUsed 137 = .ok (.iconst 1, 1) := by decide +kernel
theorem d_RRef_marksUsed_138 : decode b_RRef_marksUsed 138 = .ok (.bastore, 1) := by decide +kernel
theorem d_RRef_marksUsed_139 : decode b_RRef_marksUsed 139 = .ok (.iinc 2 1, 3) := by decide +kernel
theorem d_RRef_marksUsed_142 : decode b_RRef_marksUsed 142 = .ok (.goto (-40), 3) := by decide +kernel
theorem d_RRef_marksUsed_145 : decode b_RRef_marksUsed 145 = .ok (.iinc 1 1, 3) := by decide +kernel
theorem d_RRef_marksUsed_148 : decode b_RRef_marksUsed 148 = .ok (.goto (-56), 3) := by decide +kernel
theorem d_RRef_marksUsed_151 : decode b_RRef_marksUsed 151 = .ok (.return_, 1) := by decide +kernel
theorem d_RRef_named_0 : decode b_RRef_named 0 = .ok (.aload_n 0, 1) := by decide +kernel
theorem d_RRef_named_1 : decode b_RRef_named 1 = .ok (.getfield 13, 3) := by decide +kernel
theorem d_RRef_named_4 : decode b_RRef_named 4 = .ok (.ifCond .eq 11, 3) := by decide +kernel
theorem d_RRef_named_7 : decode b_RRef_named 7 = .ok (.aload_n 0, 1) := by decide +kernel
theorem d_RRef_named_8 : decode b_RRef_named 8 = .ok (.iload_n 1, 1) := by decide +kernel
theorem d_RRef_named_9 : decode b_RRef_named 9 = .ok (.invokevirtual 218, 3) := by decide +kernel
theorem d_RRef_named_12 : decode b_RRef_named 12 = .ok (.goto 5, 3) := by decide +kernel
theorem d_RRef_named_15 : decode b_RRef_named 15 = .ok (.bipush (-3), 2) := by decide +kernel
theorem d_RRef_named_17 : decode b_RRef_named 17 = .ok (.ireturn, 1) := by decide +kernel
theorem d_RRef_named0_0 : decode b_RRef_named0 0 = .ok (.iconst 0, 1) := by decide +kernel
theorem d_RRef_named0_1 : decode b_RRef_named0 1 = .ok (.istore_n 2, 1) := by decide +kernel
theorem d_RRef_named0_2 : decode b_RRef_named0 2 = .ok (.iconst 0, 1) := by decide +kernel
theorem d_RRef_named0_3 : decode b_RRef_named0 3 = .ok (.istore_n 3, 1) := by decide +kernel
theorem d_RRef_named0_4 : decode b_RRef_named0 4 = .ok (.iload_n 3, 1) := by decide +kernel
theorem d_RRef_named0_5 : decode b_RRef_named0 5 = .ok (.aload_n 0, 1) := by decide +kernel
theorem d_RRef_named0_6 : decode b_RRef_named0 6 = .ok (.getfield 109, 3) := by decide +kernel
theorem d_RRef_named0_9 : decode b_RRef_named0 9 = .ok (.if_icmp .ge 53, 3) := by decide +kernel
theorem d_RRef_named0_12 : decode b_RRef_named0 12 = .ok (.iconst 0, 1) := by decide +kernel
theorem d_RRef_named0_13 : decode b_RRef_named0 13 = .ok (.istore 4, 2) := by decide +kernel
theorem d_RRef_named0_15 : decode b_RRef_named0 15 = .ok (.iload 4, 2) := by decide +kernel
theorem d_RRef_named0_17 : decode b_RRef_named0 17 = .ok (.aload_n 0, 1) := by decide +kernel
theorem d_RRef_named0_18 : decode b_RRef_named0 18 = .ok (.getfield 47, 3) := by decide +kernel
theorem d_RRef_named0_21 : decode b_RRef_named0 21 = .ok (.iload_n 3, 1) := by decide +kernel
theorem d_RRef_named0_22 : decode b_RRef_named0 22 = .ok (.iaload, 1) := by decide +kernel
theorem d_RRef_named0_23 : decode b_RRef_named0 23 = .ok (.if_icmp .ge 33, 3) := by decide +kernel
theorem d_RRef_named0_26 : decode b_RRef_named0 26 = .ok (.iload_n 2, 1) := by decide +kernel
theorem d_RRef_named0_27 : decode b_RRef_named0 27 = .ok (.aload_n 0, 1) := by decide +kernel
theorem d_RRef_named0_28 : decode b_RRef_named0 28 = .ok (.getfield 53, 3) := by decide +kernel
theorem d_RRef_named0_31 : decode b_RRef_named0 31 = .ok (.bipush 12, 2) := by decide +kernel
theorem d_RRef_named0_33 : decode b_RRef_named0 33 = .ok (.iload_n 3, 1) := by decide +kernel
theorem d_RRef_named0_34 : decode b_RRef_named0 34 = .ok (.imul, 1) := by decide +kernel
theorem d_RRef_named0_35 : decode b_RRef_named0 35 = .ok (.iload 4, 2) := by decide +kernel
theorem d_RRef_named0_37 : decode b_RRef_named0 37 = .ok (.iadd, 1) := by decide +kernel
theorem d_RRef_named0_38 : decode b_RRef_named0 38 = .ok (.iaload, 1) := by decide +kernel
theorem d_RRef_named0_39 : decode b_RRef_named0 39 = .ok (.iload_n 1, 1) := by decide +kernel
theorem d_RRef_named0_40 : decode b_RRef_named0 40 = .ok (.if_icmp .ne 7, 3) := by decide +kernel
theorem d_RRef_named0_43 : decode b_RRef_named0 43 = .ok (.iconst 1, 1) := by decide +kernel
theorem d_RRef_named0_44 : decode b_RRef_named0 44 = .ok (.goto 4, 3) := by decide +kernel
theorem d_RRef_named0_47 : decode b_RRef_named0 47 = .ok (.iconst 0, 1) := by decide +kernel
theorem d_RRef_named0_48 : decode b_RRef_named0 48 = .ok (.iadd, 1) := by decide +kernel
theorem d_RRef_named0_49 : decode b_RRef_named0 49 = .ok (.istore_n 2, 1) := by decide +kernel
theorem d_RRef_named0_50 : decode b_RRef_named0 50 = .ok (.iinc 4 1, 3) := by decide +kernel
theorem d_RRef_named0_53 : decode b_RRef_named0 53 = .ok (.goto (-38), 3) := by decide +kernel
theorem d_RRef_named0_56 : decode b_RRef_named0 56 = .ok (.iinc 3 1, 3) := by decide +kernel
theorem d_RRef_named0_59 : decode b_RRef_named0 59 = .ok (.goto (-55), 3) := by decide +kernel
theorem d_RRef_named0_62 : decode b_RRef_named0 62 = .ok (.iload_n 2, 1) := by decide +kernel
theorem d_RRef_named0_63 : decode b_RRef_named0 63 = .ok (.ireturn, 1) := by decide +kernel
theorem d_RRef_newMark_0 : decode b_RRef_newMark 0 = .ok (.aload_n 0, 1) := by decide +kernel
theorem d_RRef_newMark_1 : decode b_RRef_newMark 1 = .ok (.dup, 1) := by decide +kernel
theorem d_RRef_newMark_2 : decode b_RRef_newMark 2 = .ok (.getfield 153, 3) := by decide +kernel
theorem d_RRef_newMark_5 : decode b_RRef_newMark 5 = .ok (.iconst 1, 1) := by decide +kernel
theorem d_RRef_newMark_6 : decode b_RRef_newMark 6 = .ok (.iadd, 1) := by decide +kernel
theorem d_RRef_newMark_7 : decode b_RRef_newMark 7 = .ok (.putfield 153, 3) := by decide +kernel
theorem d_RRef_newMark_10 : decode b_RRef_newMark 10 = .ok (.aload_n 0, 1) := by decide +kernel
theorem d_RRef_newMark_11 : decode b_RRef_newMark 11 = .ok (.getfield 41, 3) := by decide +kernel
theorem d_RRef_newMark_14 : decode b_RRef_newMark 14 = .ok (.aload_n 0, 1) := by decide +kernel
theorem d_RRef_newMark_15 : decode b_RRef_newMark 15 = .ok (.getfield 109, 3) := by decide +kernel
theorem d_RRef_newMark_18 : decode b_RRef_newMark 18 = .ok (.aload_n 0, 1) := by decide +kernel
theorem d_RRef_newMark_19 : decode b_RRef_newMark 19 = .ok (.getfield 153, 3) := by decide +kernel
theorem d_RRef_newMark_22 : decode b_RRef_newMark 22 = .ok (.iastore, 1) := by decide +kernel
theorem d_RRef_newMark_23 : decode b_RRef_newMark 23 = .ok (.aload_n 0, 1) := by decide +kernel
theorem d_RRef_newMark_24 : decode b_RRef_newMark 24 = .ok (.getfield 44, 3) := by decide +kernel
theorem d_RRef_newMark_27 : decode b_RRef_newMark 27 = .ok (.aload_n 0, 1) := by decide +kernel
theorem d_RRef_newMark_28 : decode b_RRef_newMark 28 = .ok (.getfield 109, 3) := by decide +kernel
theorem d_RRef_newMark_31 : decode b_RRef_newMark 31 = .ok (.iconst (-1), 1) := by decide +kernel
theorem d_RRef_newMark_32 : decode b_RRef_newMark 32 = .ok (.iastore, 1) := by decide +kernel
theorem d_RRef_newMark_33 : decode b_RRef_newMark 33 = .ok (.aload_n 0, 1) := by decide +kernel
theorem d_RRef_newMark_34 : decode b_RRef_newMark 34 = .ok (.getfield 47, 3) := by decide +kernel
theorem d_RRef_newMark_37 : decode b_RRef_newMark 37 = .ok (.aload_n 0, 1) := by decide +kernel
theorem d_RRef_newMark_38 : decode b_RRef_newMark 38 = .ok (.getfield 109, 3) := by decide +kernel
theorem d_RRef_newMark_41 : decode b_RRef_newMark 41 = .ok (.iload_n 1, 1) := by decide +kernel
theorem d_RRef_newMark_42 : decode b_RRef_newMark 42 = .ok (.iastore, 1) := by decide +kernel
theorem d_RRef_newMark_43 : decode b_RRef_newMark 43 = .ok (.aload_n 0, 1) := by decide +kernel
theorem d_RRef_newMark_44 : decode b_RRef_newMark 44 = .ok (.getfield 50, 3) := by decide +kernel
theorem d_RRef_newMark_47 : decode b_RRef_newMark 47 = .ok (.aload_n 0, 1) := by decide +kernel
theorem d_RRef_newMark_48 : decode b_RRef_newMark 48 = .ok (.getfield 109, 3) := by decide +kernel
theorem d_RRef_newMark_51 : decode b_RRef_newMark 51 = .ok (.lconst 0, 1) := by decide +kernel
theorem d_RRef_newMark_52 : decode b_RRef_newMark 52 = .ok (.lastore, 1) := by decide +kernel
theorem d_RRef_newMark_53 : decode b_RRef_newMark 53 = .ok (.aload_n 0, 1) := by decide +kernel
theorem d_RRef_newMark_54 : decode b_RRef_newMark 54 = .ok (.dup, 1) := by decide +kernel
theorem d_RRef_newMark_55 : decode b_RRef_newMark 55 = .ok (.getfield 109, 3) := by decide +kernel
theorem d_RRef_newMark_58 : decode b_RRef_newMark 58 = .ok (.iconst 1, 1) := by decide +kernel
theorem d_RRef_newMark_59 : decode b_RRef_newMark 59 = .ok (.iadd, 1) := by decide +kernel
theorem d_RRef_newMark_60 : decode b_RRef_newMark 60 = .ok (.putfield 109, 3) := by decide +kernel
theorem d_RRef_newMark_63 : decode b_RRef_newMark 63 = .ok (.aload_n 0, 1) := by decide +kernel
theorem d_RRef_newMark_64 : decode b_RRef_newMark 64 = .ok (.getfield 153, 3) := by decide +kernel
theorem d_RRef_newMark_67 : decode b_RRef_newMark 67 = .ok (.ireturn, 1) := by decide +kernel
theorem d_RRef_number_0 : decode b_RRef_number 0 = .ok (.lconst 0, 1) := by decide +kernel
theorem d_RRef_number_1 : decode b_RRef_number 1 = .ok (.lstore_n 3, 1) := by decide +kernel
theorem d_RRef_number_2 : decode b_RRef_number 2 = .ok (.iconst 0, 1) := by decide +kernel
theorem d_RRef_number_3 : decode b_RRef_number 3 = .ok (.istore 5, 2) := by decide +kernel
theorem d_RRef_number_5 : decode b_RRef_number 5 = .ok (.iload 5, 2) := by decide +kernel
theorem d_RRef_number_7 : decode b_RRef_number 7 = .ok (.iload_n 2, 1) := by decide +kernel
theorem d_RRef_number_8 : decode b_RRef_number 8 = .ok (.if_icmp .ge 26, 3) := by decide +kernel
theorem d_RRef_number_11 : decode b_RRef_number 11 = .ok (.lload_n 3, 1) := by decide +kernel
theorem d_RRef_number_12 : decode b_RRef_number 12 = .ok (.bipush 8, 2) := by decide +kernel
theorem d_RRef_number_14 : decode b_RRef_number 14 = .ok (.lshl, 1) := by decide +kernel
theorem d_RRef_number_15 : decode b_RRef_number 15 = .ok (.aload_n 0, 1) := by decide +kernel
theorem d_RRef_number_16 : decode b_RRef_number 16 = .ok (.iload_n 1, 1) := by decide +kernel
theorem d_RRef_number_17 : decode b_RRef_number 17 = .ok (.iload 5, 2) := by decide +kernel
theorem d_RRef_number_19 : decode b_RRef_number 19 = .ok (.iadd, 1) := by decide +kernel
theorem d_RRef_number_20 : decode b_RRef_number 20 = .ok (.baload, 1) := by decide +kernel
theorem d_RRef_number_21 : decode b_RRef_number 21 = .ok (.i2l, 1) := by decide +kernel
theorem d_RRef_number_22 : decode b_RRef_number 22 = .ok (.ldc2_w 81, 3) := by decide +kernel
theorem d_RRef_number_25 : decode b_RRef_number 25 = .ok (.land, 1) := by decide +kernel
theorem d_RRef_number_26 : decode b_RRef_number 26 = .ok (.lor, 1) := by decide +kernel
theorem d_RRef_number_27 : decode b_RRef_number 27 = .ok (.lstore_n 3, 1) := by decide +kernel
theorem d_RRef_number_28 : decode b_RRef_number 28 = .ok (.iinc 5 1, 3) := by decide +kernel
theorem d_RRef_number_31 : decode b_RRef_number 31 = .ok (.goto (-26), 3) := by decide +kernel
theorem d_RRef_number_34 : decode b_RRef_number 34 = .ok (.lload_n 3, 1) := by decide +kernel
theorem d_RRef_number_35 : decode b_RRef_number 35 = .ok (.lreturn, 1) := by decide +kernel
theorem d_RRef_oldest_0 : decode b_RRef_oldest 0 = .ok (.iconst (-1), 1) := by decide +kernel
theorem d_RRef_oldest_1 : decode b_RRef_oldest 1 = .ok (.istore_n 1, 1) := by decide +kernel
theorem d_RRef_oldest_2 : decode b_RRef_oldest 2 = .ok (.iconst 0, 1) := by decide +kernel
theorem d_RRef_oldest_3 : decode b_RRef_oldest 3 = .ok (.istore_n 2, 1) := by decide +kernel
theorem d_RRef_oldest_4 : decode b_RRef_oldest 4 = .ok (.iload_n 2, 1) := by decide +kernel
theorem d_RRef_oldest_5 : decode b_RRef_oldest 5 = .ok (.aload_n 0, 1) := by decide +kernel
theorem d_RRef_oldest_6 : decode b_RRef_oldest 6 = .ok (.getfield 109, 3) := by decide +kernel
theorem d_RRef_oldest_9 : decode b_RRef_oldest 9 = .ok (.if_icmp .ge 45, 3) := by decide +kernel
theorem d_RRef_oldest_12 : decode b_RRef_oldest 12 = .ok (.aload_n 0, 1) := by decide +kernel
theorem d_RRef_oldest_13 : decode b_RRef_oldest 13 = .ok (.getfield 44, 3) := by decide +kernel
theorem d_RRef_oldest_16 : decode b_RRef_oldest 16 = .ok (.iload_n 2, 1) := by decide +kernel
theorem d_RRef_oldest_17 : decode b_RRef_oldest 17 = .ok (.iaload, 1) := by decide +kernel
theorem d_RRef_oldest_18 : decode b_RRef_oldest 18 = .ok (.iconst (-1), 1) := by decide +kernel
theorem d_RRef_oldest_19 : decode b_RRef_oldest 19 = .ok (.if_icmp .eq 27, 3) := by decide +kernel
theorem d_RRef_oldest_22 : decode b_RRef_oldest 22 = .ok (.iload_n 1, 1) := by decide +kernel
theorem d_RRef_oldest_23 : decode b_RRef_oldest 23 = .ok (.iconst (-1), 1) := by decide +kernel
theorem d_RRef_oldest_24 : decode b_RRef_oldest 24 = .ok (.if_icmp .eq 18, 3) := by decide +kernel
theorem d_RRef_oldest_27 : decode b_RRef_oldest 27 = .ok (.aload_n 0, 1) := by decide +kernel
theorem d_RRef_oldest_28 : decode b_RRef_oldest 28 = .ok (.getfield 41, 3) := by decide +kernel
theorem d_RRef_oldest_31 : decode b_RRef_oldest 31 = .ok (.iload_n 2, 1) := by decide +kernel
theorem d_RRef_oldest_32 : decode b_RRef_oldest 32 = .ok (.iaload, 1) := by decide +kernel
theorem d_RRef_oldest_33 : decode b_RRef_oldest 33 = .ok (.aload_n 0, 1) := by decide +kernel
theorem d_RRef_oldest_34 : decode b_RRef_oldest 34 = .ok (.getfield 41, 3) := by decide +kernel
theorem d_RRef_oldest_37 : decode b_RRef_oldest 37 = .ok (.iload_n 1, 1) := by decide +kernel
theorem d_RRef_oldest_38 : decode b_RRef_oldest 38 = .ok (.iaload, 1) := by decide +kernel
theorem d_RRef_oldest_39 : decode b_RRef_oldest 39 = .ok (.if_icmp .ge 7, 3) := by decide +kernel
theorem d_RRef_oldest_42 : decode b_RRef_oldest 42 = .ok (.iload_n 2, 1) := by decide +kernel
theorem d_RRef_oldest_43 : decode b_RRef_oldest 43 = .ok (.goto 4, 3) := by decide +kernel
theorem d_RRef_oldest_46 : decode b_RRef_oldest 46 = .ok (.iload_n 1, 1) := by decide +kernel
theorem d_RRef_oldest_47 : decode b_RRef_oldest 47 = .ok (.istore_n 1, 1) := by decide +kernel
theorem d_RRef_oldest_48 : decode b_RRef_oldest 48 = .ok (.iinc 2 1, 3) := by decide +kernel
theorem d_RRef_oldest_51 : decode b_RRef_oldest 51 = .ok (.goto (-47), 3) := by decide +kernel
theorem d_RRef_oldest_54 : decode b_RRef_oldest 54 = .ok (.iload_n 1, 1) := by decide +kernel
theorem d_RRef_oldest_55 : decode b_RRef_oldest 55 = .ok (.ireturn, 1) := by decide +kernel
theorem d_RRef_open__0 : decode b_RRef_open_ 0 = .ok (.aload_n 0, 1) := by decide +kernel
theorem d_RRef_open__1 : decode b_RRef_open_ 1 = .ok (.iconst 1, 1) := by decide +kernel
theorem d_RRef_open__2 : decode b_RRef_open_ 2 = .ok (.putfield 13, 3) := by decide +kernel
theorem d_RRef_open__5 : decode b_RRef_open_ 5 = .ok (.aload_n 0, 1) := by decide +kernel
theorem d_RRef_open__6 : decode b_RRef_open_ 6 = .ok (.iconst 0, 1) := by decide +kernel
theorem d_RRef_open__7 : decode b_RRef_open_ 7 = .ok (.putfield 106, 3) := by decide +kernel
theorem d_RRef_open__10 : decode b_RRef_open_ 10 = .ok (.aload_n 0, 1) := by decide +kernel
theorem d_RRef_open__11 : decode b_RRef_open_ 11 = .ok (.iconst 0, 1) := by decide +kernel
theorem d_RRef_open__12 : decode b_RRef_open_ 12 = .ok (.putfield 109, 3) := by decide +kernel
theorem d_RRef_open__15 : decode b_RRef_open_ 15 = .ok (.aload_n 0, 1) := by decide +kernel
theorem d_RRef_open__16 : decode b_RRef_open_ 16 = .ok (.iconst 0, 1) := by decide +kernel
theorem d_RRef_open__17 : decode b_RRef_open_ 17 = .ok (.putfield 147, 3) := by decide +kernel
theorem d_RRef_open__20 : decode b_RRef_open_ 20 = .ok (.aload_n 0, 1) := by decide +kernel
theorem d_RRef_open__21 : decode b_RRef_open_ 21 = .ok (.iconst 0, 1) := by decide +kernel
theorem d_RRef_open__22 : decode b_RRef_open_ 22 = .ok (.putfield 153, 3) := by decide +kernel
theorem d_RRef_open__25 : decode b_RRef_open_ 25 = .ok (.aload_n 0, 1) := by decide +kernel
theorem d_RRef_open__26 : decode b_RRef_open_ 26 = .ok (.invokevirtual 156, 3) := by decide +kernel
theorem d_RRef_open__29 : decode b_RRef_open_ 29 = .ok (.iconst 2, 1) := by decide +kernel
theorem d_RRef_open__30 : decode b_RRef_open_ 30 = .ok (.istore_n 1, 1) := by decide +kernel
theorem d_RRef_open__31 : decode b_RRef_open_ 31 = .ok (.iload_n 1, 1) := by decide +kernel
theorem d_RRef_open__32 : decode b_RRef_open_ 32 = .ok (.aload_n 0, 1) := by decide +kernel
theorem d_RRef_open__33 : decode b_RRef_open_ 33 = .ok (.getfield 78, 3) := by decide +kernel
theorem d_RRef_open__36 : decode b_RRef_open_ 36 = .ok (.if_icmp .ge 63, 3) := by decide +kernel
theorem d_RRef_open__39 : decode b_RRef_open_ 39 = .ok (.aload_n 0, 1) := by decide +kernel
theorem d_RRef_open__40 : decode b_RRef_open_ 40 = .ok (.iload_n 1, 1) := by decide +kernel
theorem d_RRef_open__41 : decode b_RRef_open_ 41 = .ok (.invokevirtual 159, 3) := by decide +kernel
theorem d_RRef_open__44 : decode b_RRef_open_ 44 = .ok (.istore_n 2, 1) := by decide +kernel
theorem d_RRef_open__45 : decode b_RRef_open_ 45 = .ok (.iload_n 2, 1) := by decide +kernel
theorem d_RRef_open__46 : decode b_RRef_open_ 46 = .ok (.ifCond .ne 11, 3) := by decide +kernel
theorem d_RRef_open__49 : decode b_RRef_open_ 49 = .ok (.aload_n 0, 1) := by decide +kernel
theorem d_RRef_open__50 : decode b_RRef_open_ 50 = .ok (.iload_n 1, 1) := by decide +kernel
theorem d_RRef_open__51 : decode b_RRef_open_ 51 = .ok (.invokevirtual 162, 3) := by decide +kernel
theorem d_RRef_open__54 : decode b_RRef_open_ 54 = .ok (.goto 4, 3) := by decide +kernel
theorem d_RRef_open__57 : decode b_RRef_open_ 57 = .ok (.iconst 0, 1) := by decide +kernel
theorem d_RRef_open__58 : decode b_RRef_open_ 58 = .ok (.istore_n 3, 1) := by decide +kernel
theorem d_RRef_open__59 : decode b_RRef_open_ 59 = .ok (.iload_n 2, 1) := by decide +kernel
theorem d_RRef_open__60 : decode b_RRef_open_ 60 = .ok (.ifCond .le 11, 3) := by decide +kernel
theorem d_RRef_open__63 : decode b_RRef_open_ 63 = .ok (.aload_n 0, 1) := by decide +kernel
theorem d_RRef_open__64 : decode b_RRef_open_ 64 = .ok (.iload_n 1, 1) := by decide +kernel
theorem d_RRef_open__65 : decode b_RRef_open_ 65 = .ok (.invokevirtual 165, 3) := by decide +kernel
theorem d_RRef_open__68 : decode b_RRef_open_ 68 = .ok (.goto 12, 3) := by decide +kernel
theorem d_RRef_open__71 : decode b_RRef_open_ 71 = .ok (.iload_n 3, 1) := by decide +kernel
theorem d_RRef_open__72 : decode b_RRef_open_ 72 = .ok (.ifCond .le 8, 3) := by decide +kernel
theorem d_RRef_open__75 : decode b_RRef_open_ 75 = .ok (.aload_n 0, 1) := by decide +kernel
theorem d_RRef_open__76 : decode b_RRef_open_ 76 = .ok (.iload_n 1, 1) := by decide +kernel
theorem d_RRef_open__77 : decode b_RRef_open_ 77 = .ok (.invokevirtual 169, 3) := by decide +kernel
theorem d_RRef_open__80 : decode b_RRef_open_ 80 = .ok (.iload_n 1, 1) := by decide +kernel
theorem d_RRef_open__81 : decode b_RRef_open_ 81 = .ok (.iload_n 2, 1) := by decide +kernel
theorem d_RRef_open__82 : decode b_RRef_open_ 82 = .ok (.iload_n 3, 1) := by decide +kernel
theorem d_RRef_open__83 : decode b_RRef_open_ 83 = .ok (.iadd, 1) := by decide +kernel
theorem d_RRef_open__84 : decode b_RRef_open_ 84 = .ok (.ifCond .ne 7, 3) := by decide +kernel
theorem d_RRef_open__87 : decode b_RRef_open_ 87 = .ok (.iconst 1, 1) := by decide +kernel
theorem d_RRef_open__88 : decode b_RRef_open_ 88 = .ok (.goto 6, 3) := by decide +kernel
theorem d_RRef_open__91 : decode b_RRef_open_ 91 = .ok (.iload_n 2, 1) := by decide +kernel
theorem d_RRef_open__92 : decode b_RRef_open_ 92 = .ok (.iload_n 3, 1) := by decide +kernel
theorem d_RRef_open__93 : decode b_RRef_open_ 93 = .ok (.iadd, 1) := by decide +kernel
theorem d_RRef_open__94 : decode b_RRef_open_ 94 = .ok (.iadd, 1) := by decide +kernel
theorem d_RRef_open__95 : decode b_RRef_open_ 95 = .ok (.istore_n 1, 1) := by decide +kernel
theorem d_RRef_open__96 : decode b_RRef_open_ 96 = .ok (.goto (-65), 3) := by decide +kernel
theorem d_RRef_open__99 : decode b_RRef_open_ 99 = .ok (.aload_n 0, 1) := by decide +kernel
theorem d_RRef_open__100 : decode b_RRef_open_ 100 = .ok (.getfield 109, 3) := by decide +kernel
theorem d_RRef_open__103 : decode b_RRef_open_ 103 = .ok (.ireturn, 1) := by decide +kernel
theorem d_RRef_out_0 : decode b_RRef_out 0 = .ok (.aload_n 0, 1) := by decide +kernel
theorem d_RRef_out_1 : decode b_RRef_out 1 = .ok (.iload_n 1, 1) := by decide +kernel
theorem d_RRef_out_2 : decode b_RRef_out 2 = .ok (.invokevirtual 150, 3) := by decide +kernel
theorem d_RRef_out_5 : decode b_RRef_out 5 = .ok (.istore_n 3, 1) := by decide +kernel
theorem d_RRef_out_6 : decode b_RRef_out 6 = .ok (.aload_n 0, 1) := by decide +kernel
theorem d_RRef_out_7 : decode b_RRef_out 7 = .ok (.getfield 13, 3) := by decide +kernel
theorem d_RRef_out_10 : decode b_RRef_out 10 = .ok (.ifCond .ne 6, 3) := by decide +kernel
theorem d_RRef_out_13 : decode b_RRef_out 13 = .ok (.bipush (-3), 2) := by decide +kernel
theorem d_RRef_out_15 : decode b_RRef_out 15 = .ok (.ireturn, 1) := by decide +kernel
theorem d_RRef_out_16 : decode b_RRef_out 16 = .ok (.iload_n 3, 1) := by decide +kernel
theorem d_RRef_out_17 : decode b_RRef_out 17 = .ok (.iconst (-1), 1) := by decide +kernel
theorem d_RRef_out_18 : decode b_RRef_out 18 = .ok (.if_icmp .ne 5, 3) := by decide +kernel
theorem d_RRef_out_21 : decode b_RRef_out 21 = .ok (.iconst (-1), 1) := by decide +kernel
theorem d_RRef_out_22 : decode b_RRef_out 22 = .ok (.ireturn, 1) := by decide +kernel
theorem d_RRef_out_23 : decode b_RRef_out 23 = .ok (.aload_n 0, 1) := by decide +kernel
theorem d_RRef_out_24 : decode b_RRef_out 24 = .ok (.iload_n 3, 1) := by decide +kernel
theorem d_RRef_out_25 : decode b_RRef_out 25 = .ok (.invokevirtual 224, 3) := by decide +kernel
theorem d_RRef_out_28 : decode b_RRef_out 28 = .ok (.ifCond .ne 6, 3) := by decide +kernel
theorem d_RRef_out_31 : decode b_RRef_out 31 = .ok (.bipush (-2), 2) := by decide +kernel
theorem d_RRef_out_33 : decode b_RRef_out 33 = .ok (.ireturn, 1) := by decide +kernel
theorem d_RRef_out_34 : decode b_RRef_out 34 = .ok (.aload_n 0, 1) := by decide +kernel
theorem d_RRef_out_35 : decode b_RRef_out 35 = .ok (.iload_n 3, 1) := by decide +kernel
theorem d_RRef_out_36 : decode b_RRef_out 36 = .ok (.invokevirtual 236, 3) := by decide +kernel
theorem d_RRef_out_39 : decode b_RRef_out 39 = .ok (.istore 4, 2) := by decide +kernel
theorem d_RRef_out_41 : decode b_RRef_out 41 = .ok (.iload_n 2, 1) := by decide +kernel
theorem d_RRef_out_42 : decode b_RRef_out 42 = .ok (.iconst (-1), 1) := by decide +kernel
theorem d_RRef_out_43 : decode b_RRef_out 43 = .ok (.if_icmp .ne 8, 3) := by decide +kernel
theorem d_RRef_out_46 : decode b_RRef_out 46 = .ok (.iload 4, 2) := by decide +kernel
theorem d_RRef_out_48 : decode b_RRef_out 48 = .ok (.goto 29, 3) := by decide +kernel
theorem d_RRef_out_51 : decode b_RRef_out 51 = .ok (.iload_n 2, 1) := by decide +kernel
theorem d_RRef_out_52 : decode b_RRef_out 52 = .ok (.iconst 0, 1) := by decide +kernel
theorem d_RRef_out_53 : decode b_RRef_out 53 = .ok (.iload 4, 2) := by decide +kernel
theorem d_RRef_out_55 : decode b_RRef_out 55 = .ok (.iconst 1, 1) := by decide +kernel
theorem d_RRef_out_56 : decode b_RRef_out 56 = .ok (.isub, 1) := by decide +kernel
theorem d_RRef_out_57 : decode b_RRef_out 57 = .ok (.invokestatic 172, 3) := by decide +kernel
theorem d_RRef_out_60 : decode b_RRef_out 60 = .ok (.ifCond .eq 16, 3) := by decide +kernel
theorem d_RRef_out_63 : decode b_RRef_out 63 = .ok (.aload_n 0, 1) := by decide +kernel
theorem d_RRef_out_64 : decode b_RRef_out 64 = .ok (.getfield 72, 3) := by decide +kernel
theorem d_RRef_out_67 : decode b_RRef_out 67 = .ok (.iload_n 2, 1) := by decide +kernel
theorem d_RRef_out_68 : decode b_RRef_out 68 = .ok (.baload, 1) := by decide +kernel
theorem d_RRef_out_69 : decode b_RRef_out 69 = .ok (.sipush 255, 3) := by decide +kernel
theorem d_RRef_out_72 : decode b_RRef_out 72 = .ok (.iand, 1) := by decide +kernel
theorem d_RRef_out_73 : decode b_RRef_out 73 = .ok (.goto 4, 3) := by decide +kernel
theorem d_RRef_out_76 : decode b_RRef_out 76 = .ok (.iconst (-1), 1) := by decide +kernel
theorem d_RRef_out_77 : decode b_RRef_out 77 = .ok (.ireturn, 1) := by decide +kernel
theorem d_RRef_owner_0 : decode b_RRef_owner 0 = .ok (.aload_n 0, 1) := by decide +kernel
theorem d_RRef_owner_1 : decode b_RRef_owner 1 = .ok (.getfield 13, 3) := by decide +kernel
theorem d_RRef_owner_4 : decode b_RRef_owner 4 = .ok (.ifCond .ne 6, 3) := by decide +kernel
theorem d_RRef_owner_7 : decode b_RRef_owner 7 = .ok (.bipush (-3), 2) := by decide +kernel
theorem d_RRef_owner_9 : decode b_RRef_owner 9 = .ok (.ireturn, 1) := by decide +kernel
theorem d_RRef_owner_10 : decode b_RRef_owner 10 = .ok (.iload_n 1, 1) := by decide +kernel
theorem d_RRef_owner_11 : decode b_RRef_owner 11 = .ok (.iconst 0, 1) := by decide +kernel
theorem d_RRef_owner_12 : decode b_RRef_owner 12 = .ok (.bipush 7, 2) := by decide +kernel
theorem d_RRef_owner_14 : decode b_RRef_owner 14 = .ok (.invokestatic 172, 3) := by decide +kernel
theorem d_RRef_owner_17 : decode b_RRef_owner 17 = .ok (.ifCond .ne 6, 3) := by decide +kernel
theorem d_RRef_owner_20 : decode b_RRef_owner 20 = .ok (.bipush (-2), 2) := by decide +kernel
theorem d_RRef_owner_22 : decode b_RRef_owner 22 = .ok (.ireturn, 1) := by decide +kernel
theorem d_RRef_owner_23 : decode b_RRef_owner 23 = .ok (.aload_n 0, 1) := by decide +kernel
theorem d_RRef_owner_24 : decode b_RRef_owner 24 = .ok (.getfield 62, 3) := by decide +kernel
theorem d_RRef_owner_27 : decode b_RRef_owner 27 = .ok (.iload_n 1, 1) := by decide +kernel
theorem d_RRef_owner_28 : decode b_RRef_owner 28 = .ok (.iaload, 1) := by decide +kernel
theorem d_RRef_owner_29 : decode b_RRef_owner 29 = .ok (.ldc 210, 2) := by decide +kernel
theorem d_RRef_owner_31 : decode b_RRef_owner 31 = .ok (.if_icmp .eq 12, 3) := by decide +kernel
theorem d_RRef_owner_34 : decode b_RRef_owner 34 = .ok (.aload_n 0, 1) := by decide +kernel
theorem d_RRef_owner_35 : decode b_RRef_owner 35 = .ok (.getfield 137, 3) := by decide +kernel
theorem d_RRef_owner_38 : decode b_RRef_owner 38 = .ok (.ldc 191, 2) := by decide +kernel
theorem d_RRef_owner_40 : decode b_RRef_owner 40 = .ok (.if_icmp .ne 6, 3) := by decide +kernel
theorem d_RRef_owner_43 : decode b_RRef_owner 43 = .ok (.bipush (-4), 2) := by decide +kernel
theorem d_RRef_owner_45 : decode b_RRef_owner 45 = .ok (.ireturn, 1) := by decide +kernel
theorem d_RRef_owner_46 : decode b_RRef_owner 46 = .ok (.aload_n 0, 1) := by decide +kernel
theorem d_RRef_owner_47 : decode b_RRef_owner 47 = .ok (.invokevirtual 99, 3) := by decide +kernel
theorem d_RRef_owner_50 : decode b_RRef_owner 50 = .ok (.aload_n 0, 1) := by decide +kernel
theorem d_RRef_owner_51 : decode b_RRef_owner 51 = .ok (.getfield 62, 3) := by decide +kernel
theorem d_RRef_owner_54 : decode b_RRef_owner 54 = .ok (.iload_n 1, 1) := by decide +kernel
theorem d_RRef_owner_55 : decode b_RRef_owner 55 = .ok (.dup2, 1) := by decide +kernel
theorem d_RRef_owner_56 : decode b_RRef_owner 56 = .ok (.iaload, 1) := by decide +kernel
theorem d_RRef_owner_57 : decode b_RRef_owner 57 = .ok (.iconst 1, 1) := by decide +kernel
theorem d_RRef_owner_58 : decode b_RRef_owner 58 = .ok (.iadd, 1) := by decide +kernel
theorem d_RRef_owner_59 : decode b_RRef_owner 59 = .ok (.iastore, 1) := by decide +kernel
theorem d_RRef_owner_60 : decode b_RRef_owner 60 = .ok (.aload_n 0, 1) := by decide +kernel
theorem d_RRef_owner_61 : decode b_RRef_owner 61 = .ok (.dup, 1) := by decide +kernel
theorem d_RRef_owner_62 : decode b_RRef_owner 62 = .ok (.getfield 137, 3) := by decide +kernel
theorem d_RRef_owner_65 : decode b_RRef_owner 65 = .ok (.iconst 1, 1) := by decide +kernel
theorem d_RRef_owner_66 : decode b_RRef_owner 66 = .ok (.iadd, 1) := by decide +kernel
theorem d_RRef_owner_67 : decode b_RRef_owner 67 = .ok (.putfield 137, 3) := by decide +kernel
theorem d_RRef_owner_70 : decode b_RRef_owner 70 = .ok (.aload_n 0, 1) := by decide +kernel
theorem d_RRef_owner_71 : decode b_RRef_owner 71 = .ok (.getfield 69, 3) := by decide +kernel
theorem d_RRef_owner_74 : decode b_RRef_owner 74 = .ok (.iconst 0, 1) := by decide +kernel
theorem d_RRef_owner_75 : decode b_RRef_owner 75 = .ok (.iconst 4, 1) := by decide +kernel
theorem d_RRef_owner_76 : decode b_RRef_owner 76 = .ok (.bastore, 1) := by decide +kernel
theorem d_RRef_owner_77 : decode b_RRef_owner 77 = .ok (.aload_n 0, 1) := by decide +kernel
theorem d_RRef_owner_78 : decode b_RRef_owner 78 = .ok (.getfield 69, 3) := by decide +kernel
theorem d_RRef_owner_81 : decode b_RRef_owner 81 = .ok (.iconst 4, 1) := by decide +kernel
theorem d_RRef_owner_82 : decode b_RRef_owner 82 = .ok (.iconst 4, 1) := by decide +kernel
theorem d_RRef_owner_83 : decode b_RRef_owner 83 = .ok (.aload_n 0, 1) := by decide +kernel
theorem d_RRef_owner_84 : decode b_RRef_owner 84 = .ok (.getfield 137, 3) := by decide +kernel
theorem d_RRef_owner_87 : decode b_RRef_owner 87 = .ok (.i2l, 1) := by decide +kernel
theorem d_RRef_owner_88 : decode b_RRef_owner 88 = .ok (.invokestatic 102, 3) := by decide +kernel
theorem d_RRef_owner_91 : decode b_RRef_owner 91 = .ok (.iconst 0, 1) := by decide +kernel
theorem d_RRef_owner_92 : decode b_RRef_owner 92 = .ok (.istore_n 2, 1) := by decide +kernel
theorem d_RRef_owner_93 : decode b_RRef_owner 93 = .ok (.iload_n 2, 1) := by decide +kernel
theorem d_RRef_owner_94 : decode b_RRef_owner 94 = .ok (.bipush 8, 2) := by decide +kernel
theorem d_RRef_owner_96 : decode b_RRef_owner 96 = .ok (.if_icmp .ge 30, 3) := by decide +kernel
theorem d_RRef_owner_99 : decode b_RRef_owner 99 = .ok (.aload_n 0, 1) := by decide +kernel
theorem d_RRef_owner_100 : decode b_RRef_owner 100 = .ok (.getfield 69, 3) := by decide +kernel
theorem d_RRef_owner_103 : decode b_RRef_owner 103 = .ok (.bipush 8, 2) := by decide +kernel
theorem d_RRef_owner_105 : decode b_RRef_owner 105 = .ok (.iconst 2, 1) := by decide +kernel
theorem d_RRef_owner_106 : decode b_RRef_owner 106 = .ok (.iload_n 2, 1) := by decide +kernel
theorem d_RRef_owner_107 : decode b_RRef_owner 107 = .ok (.imul, 1) := by decide +kernel
theorem d_RRef_owner_108 : decode b_RRef_owner 108 = .ok (.iadd, 1) := by decide +kernel
theorem d_RRef_owner_109 : decode b_RRef_owner 109 = .ok (.iconst 2, 1) := by decide +kernel
theorem d_RRef_owner_110 : decode b_RRef_owner 110 = .ok (.aload_n 0, 1) := by decide +kernel
theorem d_RRef_owner_111 : decode b_RRef_owner 111 = .ok (.getfield 62, 3) := by decide +kernel
theorem d_RRef_owner_114 : decode b_RRef_owner 114 = .ok (.iload_n 2, 1) := by decide +kernel
theorem d_RRef_owner_115 : decode b_RRef_owner 115 = .ok (.iaload, 1) := by decide +kernel
theorem d_RRef_owner_116 : decode b_RRef_owner 116 = .ok (.i2l, 1) := by decide +kernel
theorem d_RRef_owner_117 : decode b_RRef_owner 117 = .ok (.invokestatic 102, 3) := by decide +kernel
theorem d_RRef_owner_120 : decode b_RRef_owner 120 = .ok (.iinc 2 1, 3) := by decide +kernel
theorem d_RRef_owner_123 : decode b_RRef_owner 123 = .ok (.goto (-30), 3) := by decide +kernel
theorem d_RRef_owner_126 : decode b_RRef_owner 126 = .ok (.aload_n 0, 1) := by decide +kernel
theorem d_RRef_owner_127 : decode b_RRef_owner 127 = .ok (.invokevirtual 179, 3) := by decide +kernel
theorem d_RRef_owner_130 : decode b_RRef_owner 130 = .ok (.aload_n 0, 1) := by decide +kernel
theorem d_RRef_owner_131 : decode b_RRef_owner 131 = .ok (.aload_n 0, 1) := by decide +kernel
theorem d_RRef_owner_132 : decode b_RRef_owner 132 = .ok (.getfield 137, 3) := by decide +kernel
theorem d_RRef_owner_135 : decode b_RRef_owner 135 = .ok (.iconst 2, 1) := by decide +kernel
theorem d_RRef_owner_136 : decode b_RRef_owner 136 = .ok (.irem, 1) := by decide +kernel
theorem d_RRef_owner_137 : decode b_RRef_owner 137 = .ok (.iconst 0, 1) := by decide +kernel
theorem d_RRef_owner_138 : decode b_RRef_owner 138 = .ok (.invokevirtual 95, 3) := by decide +kernel
theorem d_RRef_owner_141 : decode b_RRef_owner 141 = .ok (.ifCond .eq 12, 3) := by decide +kernel
theorem d_RRef_owner_144 : decode b_RRef_owner 144 = .ok (.aload_n 0, 1) := by decide +kernel
theorem d_RRef_owner_145 : decode b_RRef_owner 145 = .ok (.getfield 62, 3) := by decide +kernel
theorem d_RRef_owner_148 : decode b_RRef_owner 148 = .ok (.iload_n 1, 1) := by decide +kernel
theorem d_RRef_owner_149 : decode b_RRef_owner 149 = .ok (.iaload, 1) := by decide +kernel
theorem d_RRef_owner_150 : decode b_RRef_owner 150 = .ok (.goto 5, 3) := by decide +kernel
theorem d_RRef_owner_153 : decode b_RRef_owner 153 = .ok (.bipush (-5), 2) := by decide +kernel
theorem d_RRef_owner_155 : decode b_RRef_owner 155 = .ok (.ireturn, 1) := by decide +kernel
theorem d_RRef_part_0 : decode b_RRef_part 0 = .ok (.aload_n 0, 1) := by decide +kernel
theorem d_RRef_part_1 : decode b_RRef_part 1 = .ok (.getfield 176, 3) := by decide +kernel
theorem d_RRef_part_4 : decode b_RRef_part 4 = .ok (.istore 4, 2) := by decide +kernel
theorem d_RRef_part_6 : decode b_RRef_part 6 = .ok (.aload_n 0, 1) := by decide +kernel
theorem d_RRef_part_7 : decode b_RRef_part 7 = .ok (.iconst 0, 1) := by decide +kernel
theorem d_RRef_part_8 : decode b_RRef_part 8 = .ok (.putfield 176, 3) := by decide +kernel
theorem d_RRef_part_11 : decode b_RRef_part 11 = .ok (.aload_n 0, 1) := by decide +kernel
theorem d_RRef_part_12 : decode b_RRef_part 12 = .ok (.getfield 13, 3) := by decide +kernel
theorem d_RRef_part_15 : decode b_RRef_part 15 = .ok (.ifCond .ne 6, 3) := by decide +kernel
theorem d_RRef_part_18 : decode b_RRef_part 18 = .ok (.bipush (-3), 2) := by decide +kernel
theorem d_RRef_part_20 : decode b_RRef_part 20 = .ok (.ireturn, 1) := by decide +kernel
theorem d_RRef_part_21 : decode b_RRef_part 21 = .ok (.iload_n 1, 1) := by decide +kernel
theorem d_RRef_part_22 : decode b_RRef_part 22 = .ok (.iconst 0, 1) := by decide +kernel
theorem d_RRef_part_23 : decode b_RRef_part 23 = .ok (.bipush 7, 2) := by decide +kernel
theorem d_RRef_part_25 : decode b_RRef_part 25 = .ok (.invokestatic 172, 3) := by decide +kernel
theorem d_RRef_part_28 : decode b_RRef_part 28 = .ok (.ifCond .eq 11, 3) := by decide +kernel
theorem d_RRef_part_31 : decode b_RRef_part 31 = .ok (.iload 4, 2) := by decide +kernel
theorem d_RRef_part_33 : decode b_RRef_part 33 = .ok (.sipush 155, 3) := by decide +kernel
theorem d_RRef_part_36 : decode b_RRef_part 36 = .ok (.if_icmp .le 6, 3) := by decide +kernel
theorem d_RRef_part_39 : decode b_RRef_part 39 = .ok (.bipush (-2), 2) := by decide +kernel
theorem d_RRef_part_41 : decode b_RRef_part 41 = .ok (.ireturn, 1) := by decide +kernel
theorem d_RRef_part_42 : decode b_RRef_part 42 = .ok (.aload_n 0, 1) := by decide +kernel
theorem d_RRef_part_43 : decode b_RRef_part 43 = .ok (.invokevirtual 185, 3) := by decide +kernel
theorem d_RRef_part_46 : decode b_RRef_part 46 = .ok (.aload_n 0, 1) := by decide +kernel
theorem d_RRef_part_47 : decode b_RRef_part 47 = .ok (.iconst 1, 1) := by decide +kernel
theorem d_RRef_part_48 : decode b_RRef_part 48 = .ok (.iload 4, 2) := by decide +kernel
theorem d_RRef_part_50 : decode b_RRef_part 50 = .ok (.invokestatic 112, 3) := by decide +kernel
theorem d_RRef_part_53 : decode b_RRef_part 53 = .ok (.iadd, 1) := by decide +kernel
theorem d_RRef_part_54 : decode b_RRef_part 54 = .ok (.invokevirtual 188, 3) := by decide +kernel
theorem d_RRef_part_57 : decode b_RRef_part 57 = .ok (.istore 5, 2) := by decide +kernel
theorem d_RRef_part_59 : decode b_RRef_part 59 = .ok (.iload 5, 2) := by decide +kernel
theorem d_RRef_part_61 : decode b_RRef_part 61 = .ok (.iconst (-1), 1) := by decide +kernel
theorem d_RRef_part_62 : decode b_RRef_part 62 = .ok (.if_icmp .eq 12, 3) := by decide +kernel
theorem d_RRef_part_65 : decode b_RRef_part 65 = .ok (.aload_n 0, 1) := by decide +kernel
theorem d_RRef_part_66 : decode b_RRef_part 66 = .ok (.getfield 147, 3) := by decide +kernel
theorem d_RRef_part_69 : decode b_RRef_part 69 = .ok (.ldc 191, 2) := by decide +kernel
theorem d_RRef_part_71 : decode b_RRef_part 71 = .ok (.if_icmp .ne 8, 3) := by decide +kernel
theorem d_RRef_part_74 : decode b_RRef_part 74 = .ok (.bipush (-4), 2) := by decide +kernel
theorem d_RRef_part_76 : decode b_RRef_part 76 = .ok (.goto 18, 3) := by decide +kernel
theorem d_RRef_part_79 : decode b_RRef_part 79 = .ok (.aload_n 0, 1) := by decide +kernel
theorem d_RRef_part_80 : decode b_RRef_part 80 = .ok (.iload_n 1, 1) := by decide +kernel
theorem d_RRef_part_81 : decode b_RRef_part 81 = .ok (.lload_n 2, 1) := by decide +kernel
theorem d_RRef_part_82 : decode b_RRef_part 82 = .ok (.aload_n 0, 1) := by decide +kernel
theorem d_RRef_part_83 : decode b_RRef_part 83 = .ok (.getfield 21, 3) := by decide +kernel
theorem d_RRef_part_86 : decode b_RRef_part 86 = .ok (.iconst 0, 1) := by decide +kernel
theorem d_RRef_part_87 : decode b_RRef_part 87 = .ok (.iload 4, 2) := by decide +kernel
theorem d_RRef_part_89 : decode b_RRef_part 89 = .ok (.iload 5, 2) := by decide +kernel
theorem d_RRef_part_91 : decode b_RRef_part 91 = .ok (.invokevirtual 192, 3) := by decide +kernel
theorem d_RRef_part_94 : decode b_RRef_part 94 = .ok (.ireturn, 1) := by decide +kernel
theorem d_RRef_partAt_0 : decode b_RRef_partAt 0 = .ok (.bipush 32, 2) := by decide +kernel
theorem d_RRef_partAt_2 : decode b_RRef_partAt 2 = .ok (.iload_n 1, 1) := by decide +kernel
theorem d_RRef_partAt_3 : decode b_RRef_partAt 3 = .ok (.imul, 1) := by decide +kernel
theorem d_RRef_partAt_4 : decode b_RRef_partAt 4 = .ok (.istore_n 2, 1) := by decide +kernel
theorem d_RRef_partAt_5 : decode b_RRef_partAt 5 = .ok (.aload_n 0, 1) := by decide +kernel
theorem d_RRef_partAt_6 : decode b_RRef_partAt 6 = .ok (.getfield 7, 3) := by decide +kernel
theorem d_RRef_partAt_9 : decode b_RRef_partAt 9 = .ok (.iload_n 2, 1) := by decide +kernel
theorem d_RRef_partAt_10 : decode b_RRef_partAt 10 = .ok (.iconst 4, 1) := by decide +kernel
theorem d_RRef_partAt_11 : decode b_RRef_partAt 11 = .ok (.iadd, 1) := by decide +kernel
theorem d_RRef_partAt_12 : decode b_RRef_partAt 12 = .ok (.iconst 4, 1) := by decide +kernel
theorem d_RRef_partAt_13 : decode b_RRef_partAt 13 = .ok (.invokestatic 85, 3) := by decide +kernel
theorem d_RRef_partAt_16 : decode b_RRef_partAt 16 = .ok (.lstore_n 3, 1) := by decide +kernel
theorem d_RRef_partAt_17 : decode b_RRef_partAt 17 = .ok (.aload_n 0, 1) := by decide +kernel
theorem d_RRef_partAt_18 : decode b_RRef_partAt 18 = .ok (.getfield 7, 3) := by decide +kernel
theorem d_RRef_partAt_21 : decode b_RRef_partAt 21 = .ok (.iload_n 2, 1) := by decide +kernel
theorem d_RRef_partAt_22 : decode b_RRef_partAt 22 = .ok (.iconst 2, 1) := by decide +kernel
theorem d_RRef_partAt_23 : decode b_RRef_partAt 23 = .ok (.iadd, 1) := by decide +kernel
theorem d_RRef_partAt_24 : decode b_RRef_partAt 24 = .ok (.iconst 2, 1) := by decide +kernel
theorem d_RRef_partAt_25 : decode b_RRef_partAt 25 = .ok (.invokestatic 85, 3) := by decide +kernel
theorem d_RRef_partAt_28 : decode b_RRef_partAt 28 = .ok (.l2i, 1) := by decide +kernel
theorem d_RRef_partAt_29 : decode b_RRef_partAt 29 = .ok (.istore 5, 2) := by decide +kernel
theorem d_RRef_partAt_31 : decode b_RRef_partAt 31 = .ok (.aload_n 0, 1) := by decide +kernel
theorem d_RRef_partAt_32 : decode b_RRef_partAt 32 = .ok (.iload_n 1, 1) := by decide +kernel
theorem d_RRef_partAt_33 : decode b_RRef_partAt 33 = .ok (.invokevirtual 119, 3) := by decide +kernel
theorem d_RRef_partAt_36 : decode b_RRef_partAt 36 = .ok (.iconst 1, 1) := by decide +kernel
theorem d_RRef_partAt_37 : decode b_RRef_partAt 37 = .ok (.if_icmp .ne 54, 3) := by decide +kernel
theorem d_RRef_partAt_40 : decode b_RRef_partAt 40 = .ok (.aload_n 0, 1) := by decide +kernel
theorem d_RRef_partAt_41 : decode b_RRef_partAt 41 = .ok (.iload_n 1, 1) := by decide +kernel
theorem d_RRef_partAt_42 : decode b_RRef_partAt 42 = .ok (.invokevirtual 122, 3) := by decide +kernel
theorem d_RRef_partAt_45 : decode b_RRef_partAt 45 = .ok (.ifCond .eq 46, 3) := by decide +kernel
theorem d_RRef_partAt_48 : decode b_RRef_partAt 48 = .ok (.aload_n 0, 1) := by decide +kernel
theorem d_RRef_partAt_49 : decode b_RRef_partAt 49 = .ok (.getfield 7, 3) := by decide +kernel
theorem d_RRef_partAt_52 : decode b_RRef_partAt 52 = .ok (.iload_n 2, 1) := by decide +kernel
theorem d_RRef_partAt_53 : decode b_RRef_partAt 53 = .ok (.iconst 1, 1) := by decide +kernel
theorem d_RRef_partAt_54 : decode b_RRef_partAt 54 = .ok (.iadd, 1) := by decide +kernel
theorem d_RRef_partAt_55 : decode b_RRef_partAt 55 = .ok (.baload, 1) := by decide +kernel
theorem d_RRef_partAt_56 : decode b_RRef_partAt 56 = .ok (.sipush 255, 3) := by decide +kernel
theorem d_RRef_partAt_59 : decode b_RRef_partAt 59 = .ok (.iand, 1) := by decide +kernel
theorem d_RRef_partAt_60 : decode b_RRef_partAt 60 = .ok (.bipush 8, 2) := by decide +kernel
theorem d_RRef_partAt_62 : decode b_RRef_partAt 62 = .ok (.if_icmp .ge 29, 3) := by decide +kernel
theorem d_RRef_partAt_65 : decode b_RRef_partAt 65 = .ok (.iload 5, 2) := by decide +kernel
theorem d_RRef_partAt_67 : decode b_RRef_partAt 67 = .ok (.sipush 155, 3) := by decide +kernel
theorem d_RRef_partAt_70 : decode b_RRef_partAt 70 = .ok (.if_icmp .gt 21, 3) := by decide +kernel
theorem d_RRef_partAt_73 : decode b_RRef_partAt 73 = .ok (.lload_n 3, 1) := by decide +kernel
theorem d_RRef_partAt_74 : decode b_RRef_partAt 74 = .ok (.lconst 1, 1) := by decide +kernel
theorem d_RRef_partAt_75 : decode b_RRef_partAt 75 = .ok (.lcmp, 1) := by decide +kernel
theorem d_RRef_partAt_76 : decode b_RRef_partAt 76 = .ok (.ifCond .lt 15, 3) := by decide +kernel
theorem d_RRef_partAt_79 : decode b_RRef_partAt 79 = .ok (.lload_n 3, 1) := by decide +kernel
theorem d_RRef_partAt_80 : decode b_RRef_partAt 80 = .ok (.ldc2_w 135, 3) := by decide +kernel
theorem d_RRef_partAt_83 : decode b_RRef_partAt 83 = .ok (.lcmp, 1) := by decide +kernel
theorem d_RRef_partAt_84 : decode b_RRef_partAt 84 = .ok (.ifCond .gt 7, 3) := by decide +kernel
theorem d_RRef_partAt_87 : decode b_RRef_partAt 87 = .ok (.iconst 1, 1) := by decide +kernel
theorem d_RRef_partAt_88 : decode b_RRef_partAt 88 = .ok (.goto 4, 3) := by decide +kernel
theorem d_RRef_partAt_91 : decode b_RRef_partAt 91 = .ok (.iconst 0, 1) := by decide +kernel
theorem d_RRef_partAt_92 : decode b_RRef_partAt 92 = .ok (.istore 6, 2) := by decide +kernel
theorem d_RRef_partAt_94 : decode b_RRef_partAt 94 = .ok (.iconst 1, 1) := by decide +kernel
theorem d_RRef_partAt_95 : decode b_RRef_partAt 95 = .ok (.iload 5, 2) := by decide +kernel
theorem d_RRef_partAt_97 : decode b_RRef_partAt 97 = .ok (.invokestatic 112, 3) := by decide +kernel
theorem d_RRef_partAt_100 : decode b_RRef_partAt 100 = .ok (.iadd, 1) := by decide +kernel
theorem d_RRef_partAt_101 : decode b_RRef_partAt 101 = .ok (.istore 7, 2) := by decide +kernel
theorem d_RRef_partAt_103 : decode b_RRef_partAt 103 = .ok (.iload 6, 2) := by decide +kernel
theorem d_RRef_partAt_105 : decode b_RRef_partAt 105 = .ok (.ifCond .eq 19, 3) := by decide +kernel
theorem d_RRef_partAt_108 : decode b_RRef_partAt 108 = .ok (.iload_n 1, 1) := by decide +kernel
theorem d_RRef_partAt_109 : decode b_RRef_partAt 109 = .ok (.iload 7, 2) := by decide +kernel
theorem d_RRef_partAt_111 : decode b_RRef_partAt 111 = .ok (.iadd, 1) := by decide +kernel
theorem d_RRef_partAt_112 : decode b_RRef_partAt 112 = .ok (.aload_n 0, 1) := by decide +kernel
theorem d_RRef_partAt_113 : decode b_RRef_partAt 113 = .ok (.getfield 78, 3) := by decide +kernel
theorem d_RRef_partAt_116 : decode b_RRef_partAt 116 = .ok (.if_icmp .gt 8, 3) := by decide +kernel
theorem d_RRef_partAt_119 : decode b_RRef_partAt 119 = .ok (.iload 7, 2) := by decide +kernel
theorem d_RRef_partAt_121 : decode b_RRef_partAt 121 = .ok (.goto 4, 3) := by decide +kernel
theorem d_RRef_partAt_124 : decode b_RRef_partAt 124 = .ok (.iconst 0, 1) := by decide +kernel
theorem d_RRef_partAt_125 : decode b_RRef_partAt 125 = .ok (.ireturn, 1) := by decide +kernel
theorem d_RRef_partByte_0 : decode b_RRef_partByte 0 = .ok (.aload_n 0, 1) := by decide +kernel
theorem d_RRef_partByte_1 : decode b_RRef_partByte 1 = .ok (.iload_n 1, 1) := by decide +kernel
theorem d_RRef_partByte_2 : decode b_RRef_partByte 2 = .ok (.invokevirtual 129, 3) := by decide +kernel
theorem d_RRef_partByte_5 : decode b_RRef_partByte 5 = .ok (.istore_n 3, 1) := by decide +kernel
theorem d_RRef_partByte_6 : decode b_RRef_partByte 6 = .ok (.aload_n 0, 1) := by decide +kernel
theorem d_RRef_partByte_7 : decode b_RRef_partByte 7 = .ok (.getfield 13, 3) := by decide +kernel
theorem d_RRef_partByte_10 : decode b_RRef_partByte 10 = .ok (.ifCond .ne 8, 3) := by decide +kernel
theorem d_RRef_partByte_13 : decode b_RRef_partByte 13 = .ok (.bipush (-3), 2) := by decide +kernel
theorem d_RRef_partByte_15 : decode b_RRef_partByte 15 = .ok (.goto 34, 3) := by decide +kernel
theorem d_RRef_partByte_18 : decode b_RRef_partByte 18 = .ok (.iload_n 3, 1) := by decide +kernel
theorem d_RRef_partByte_19 : decode b_RRef_partByte 19 = .ok (.iconst (-1), 1) := by decide +kernel
theorem d_RRef_partByte_20 : decode b_RRef_partByte 20 = .ok (.if_icmp .eq 19, 3) := by decide +kernel
theorem d_RRef_partByte_23 : decode b_RRef_partByte 23 = .ok (.iload_n 2, 1) := by decide +kernel
theorem d_RRef_partByte_24 : decode b_RRef_partByte 24 = .ok (.iconst 0, 1) := by decide +kernel
theorem d_RRef_partByte_25 : decode b_RRef_partByte 25 = .ok (.aload_n 0, 1) := by decide +kernel
theorem d_RRef_partByte_26 : decode b_RRef_partByte 26 = .ok (.getfield 35, 3) := by decide +kernel
theorem d_RRef_partByte_29 : decode b_RRef_partByte 29 = .ok (.iload_n 3, 1) := by decide +kernel
theorem d_RRef_partByte_30 : decode b_RRef_partByte 30 = .ok (.iaload, 1) := by decide +kernel
theorem d_RRef_partByte_31 : decode b_RRef_partByte 31 = .ok (.iconst 1, 1) := by decide +kernel
theorem d_RRef_partByte_32 : decode b_RRef_partByte 32 = .ok (.isub, 1) := by decide +kernel
theorem d_RRef_partByte_33 : decode b_RRef_partByte 33 = .ok (.invokestatic 172, 3) := by decide +kernel
theorem d_RRef_partByte_36 : decode b_RRef_partByte 36 = .ok (.ifCond .ne 7, 3) := by decide +kernel
theorem d_RRef_partByte_39 : decode b_RRef_partByte 39 = .ok (.iconst (-1), 1) := by decide +kernel
theorem d_RRef_partByte_40 : decode b_RRef_partByte 40 = .ok (.goto 9, 3) := by decide +kernel
theorem d_RRef_partByte_43 : decode b_RRef_partByte 43 = .ok (.aload_n 0, 1) := by decide +kernel
theorem d_RRef_partByte_44 : decode b_RRef_partByte 44 = .ok (.iload_n 3, 1) := by decide +kernel
theorem d_RRef_partByte_45 : decode b_RRef_partByte 45 = .ok (.iload_n 2, 1) := by decide +kernel
theorem d_RRef_partByte_46 : decode b_RRef_partByte 46 = .ok (.invokevirtual 233, 3) := by decide +kernel
theorem d_RRef_partByte_49 : decode b_RRef_partByte 49 = .ok (.ireturn, 1) := by decide +kernel
theorem d_RRef_partOf_0 : decode b_RRef_partOf 0 = .ok (.aload_n 0, 1) := by decide +kernel
theorem d_RRef_partOf_1 : decode b_RRef_partOf 1 = .ok (.getfield 13, 3) := by decide +kernel
theorem d_RRef_partOf_4 : decode b_RRef_partOf 4 = .ok (.ifCond .ne 7, 3) := by decide +kernel
theorem d_RRef_partOf_7 : decode b_RRef_partOf 7 = .ok (.ldc2_w 227, 3) := by decide +kernel
theorem d_RRef_partOf_10 : decode b_RRef_partOf 10 = .ok (.lreturn, 1) := by decide +kernel
theorem d_RRef_partOf_11 : decode b_RRef_partOf 11 = .ok (.iload_n 2, 1) := by decide +kernel
theorem d_RRef_partOf_12 : decode b_RRef_partOf 12 = .ok (.iconst 0, 1) := by decide +kernel
theorem d_RRef_partOf_13 : decode b_RRef_partOf 13 = .ok (.iconst 5, 1) := by decide +kernel
theorem d_RRef_partOf_14 : decode b_RRef_partOf 14 = .ok (.invokestatic 172, 3) := by decide +kernel
theorem d_RRef_partOf_17 : decode b_RRef_partOf 17 = .ok (.ifCond .ne 7, 3) := by decide +kernel
theorem d_RRef_partOf_20 : decode b_RRef_partOf 20 = .ok (.ldc2_w 229, 3) := by decide +kernel
theorem d_RRef_partOf_23 : decode b_RRef_partOf 23 = .ok (.lreturn, 1) := by decide +kernel
theorem d_RRef_partOf_24 : decode b_RRef_partOf 24 = .ok (.aload_n 0, 1) := by decide +kernel
theorem d_RRef_partOf_25 : decode b_RRef_partOf 25 = .ok (.iload_n 1, 1) := by decide +kernel
theorem d_RRef_partOf_26 : decode b_RRef_partOf 26 = .ok (.invokevirtual 129, 3) := by decide +kernel
theorem d_RRef_partOf_29 : decode b_RRef_partOf 29 = .ok (.istore_n 3, 1) := by decide +kernel
theorem d_RRef_partOf_30 : decode b_RRef_partOf 30 = .ok (.iload_n 3, 1) := by decide +kernel
theorem d_RRef_partOf_31 : decode b_RRef_partOf 31 = .ok (.iconst (-1), 1) := by decide +kernel
theorem d_RRef_partOf_32 : decode b_RRef_partOf 32 = .ok (.if_icmp .ne 7, 3) := by decide +kernel
theorem d_RRef_partOf_35 : decode b_RRef_partOf 35 = .ok (.ldc2_w 231, 3) := by decide +kernel
theorem d_RRef_partOf_38 : decode b_RRef_partOf 38 = .ok (.lreturn, 1) := by decide +kernel
theorem d_RRef_partOf_39 : decode b_RRef_partOf 39 = .ok (.iload_n 2, 1) := by decide +kernel
theorem d_RRef_partOf_40 : decode b_RRef_partOf 40 = .ok (.tableswitch 81 0 4 #[36, 44, 51, 59, 67], 36) := by decide +kernel
theorem d_RRef_partOf_76 : decode b_RRef_partOf 76 = .ok (.aload_n 0, 1) := by decide +kernel
theorem d_RRef_partOf_77 : decode b_RRef_partOf 77 = .ok (.getfield 28, 3) := by decide +kernel
theorem d_RRef_partOf_80 : decode b_RRef_partOf 80 = .ok (.iload_n 3, 1) := by decide +kernel
theorem d_RRef_partOf_81 : decode b_RRef_partOf 81 = .ok (.iaload, 1) := by decide +kernel
theorem d_RRef_partOf_82 : decode b_RRef_partOf 82 = .ok (.i2l, 1) := by decide +kernel
theorem d_RRef_partOf_83 : decode b_RRef_partOf 83 = .ok (.lreturn, 1) := by decide +kernel
theorem d_RRef_partOf_84 : decode b_RRef_partOf 84 = .ok (.aload_n 0, 1) := by decide +kernel
theorem d_RRef_partOf_85 : decode b_RRef_partOf 85 = .ok (.getfield 31, 3) := by decide +kernel
theorem d_RRef_partOf_88 : decode b_RRef_partOf 88 = .ok (.iload_n 3, 1) := by decide +kernel
theorem d_RRef_partOf_89 : decode b_RRef_partOf 89 = .ok (.laload, 1) := by decide +kernel
theorem d_RRef_partOf_90 : decode b_RRef_partOf 90 = .ok (.lreturn, 1) := by decide +kernel
theorem d_RRef_partOf_91 : decode b_RRef_partOf 91 = .ok (.aload_n 0, 1) := by decide +kernel
theorem d_RRef_partOf_92 : decode b_RRef_partOf 92 = .ok (.getfield 35, 3) := by decide +kernel
theorem d_RRef_partOf_95 : decode b_RRef_partOf 95 = .ok (.iload_n 3, 1) := by decide +kernel
theorem d_RRef_partOf_96 : decode b_RRef_partOf 96 = .ok (.iaload, 1) := by decide +kernel
theorem d_RRef_partOf_97 : decode b_RRef_partOf 97 = .ok (.i2l, 1) := by decide +kernel
theorem d_RRef_partOf_98 : decode b_RRef_partOf 98 = .ok (.lreturn, 1) := by decide +kernel
theorem d_RRef_partOf_99 : decode b_RRef_partOf 99 = .ok (.aload_n 0, 1) := by decide +kernel
theorem d_RRef_partOf_100 : decode b_RRef_partOf 100 = .ok (.getfield 38, 3) := by decide +kernel
theorem d_RRef_partOf_103 : decode b_RRef_partOf 103 = .ok (.iload_n 3, 1) := by decide +kernel
theorem d_RRef_partOf_104 : decode b_RRef_partOf 104 = .ok (.iaload, 1) := by decide +kernel
theorem d_RRef_partOf_105 : decode b_RRef_partOf 105 = .ok (.i2l, 1) := by decide +kernel
theorem d_RRef_partOf_106 : decode b_RRef_partOf 106 = .ok (.lreturn, 1) := by decide +kernel
theorem d_RRef_partOf_107 : decode b_RRef_partOf 107 = .ok (.aload_n 0, 1) := by decide +kernel
theorem d_RRef_partOf_108 : decode b_RRef_partOf 108 = .ok (.iload_n 3, 1) := by decide +kernel
theorem d_RRef_partOf_109 : decode b_RRef_partOf 109 = .ok (.invokevirtual 132, 3) := by decide +kernel
theorem d_RRef_partOf_112 : decode b_RRef_partOf 112 = .ok (.ifCond .eq 7, 3) := by decide +kernel
theorem d_RRef_partOf_115 : decode b_RRef_partOf 115 = .ok (.lconst 1, 1) := by decide +kernel
theorem d_RRef_partOf_116 : decode b_RRef_partOf 116 = .ok (.goto 4, 3) := by decide +kernel
theorem d_RRef_partOf_119 : decode b_RRef_partOf 119 = .ok (.lconst 0, 1) := by decide +kernel
theorem d_RRef_partOf_120 : decode b_RRef_partOf 120 = .ok (.lreturn, 1) := by decide +kernel
theorem d_RRef_partOf_121 : decode b_RRef_partOf 121 = .ok (.aload_n 0, 1) := by decide +kernel
theorem d_RRef_partOf_122 : decode b_RRef_partOf 122 = .ok (.iload_n 1, 1) := by decide +kernel
theorem d_RRef_partOf_123 : decode b_RRef_partOf 123 = .ok (.invokevirtual 218, 3) := by decide +kernel
theorem d_RRef_partOf_126 : decode b_RRef_partOf 126 = .ok (.i2l, 1) := by decide +kernel
theorem d_RRef_partOf_127 : decode b_RRef_partOf 127 = .ok (.lreturn, 1) := by decide +kernel
theorem d_RRef_poke_0 : decode b_RRef_poke 0 = .ok (.iload_n 1, 1) := by decide +kernel
theorem d_RRef_poke_1 : decode b_RRef_poke 1 = .ok (.iconst 0, 1) := by decide +kernel
theorem d_RRef_poke_2 : decode b_RRef_poke 2 = .ok (.aload_n 0, 1) := by decide +kernel
theorem d_RRef_poke_3 : decode b_RRef_poke 3 = .ok (.getfield 78, 3) := by decide +kernel
theorem d_RRef_poke_6 : decode b_RRef_poke 6 = .ok (.iconst 1, 1) := by decide +kernel
theorem d_RRef_poke_7 : decode b_RRef_poke 7 = .ok (.isub, 1) := by decide +kernel
theorem d_RRef_poke_8 : decode b_RRef_poke 8 = .ok (.invokestatic 172, 3) := by decide +kernel
theorem d_RRef_poke_11 : decode b_RRef_poke 11 = .ok (.ifCond .eq 24, 3) := by decide +kernel
theorem d_RRef_poke_14 : decode b_RRef_poke 14 = .ok (.iload_n 2, 1) := by decide +kernel
theorem d_RRef_poke_15 : decode b_RRef_poke 15 = .ok (.iconst 0, 1) := by decide +kernel
theorem d_RRef_poke_16 : decode b_RRef_poke 16 = .ok (.bipush 31, 2) := by decide +kernel
theorem d_RRef_poke_18 : decode b_RRef_poke 18 = .ok (.invokestatic 172, 3) := by decide +kernel
theorem d_RRef_poke_21 : decode b_RRef_poke 21 = .ok (.ifCond .eq 14, 3) := by decide +kernel
theorem d_RRef_poke_24 : decode b_RRef_poke 24 = .ok (.iload_n 3, 1) := by decide +kernel
theorem d_RRef_poke_25 : decode b_RRef_poke 25 = .ok (.iconst 1, 1) := by decide +kernel
theorem d_RRef_poke_26 : decode b_RRef_poke 26 = .ok (.sipush 255, 3) := by decide +kernel
theorem d_RRef_poke_29 : decode b_RRef_poke 29 = .ok (.invokestatic 172, 3) := by decide +kernel
theorem d_RRef_poke_32 : decode b_RRef_poke 32 = .ok (.ifCond .ne 6, 3) := by decide +kernel
theorem d_RRef_poke_35 : decode b_RRef_poke 35 = .ok (.bipush (-2), 2) := by decide +kernel
theorem d_RRef_poke_37 : decode b_RRef_poke 37 = .ok (.ireturn, 1) := by decide +kernel
theorem d_RRef_poke_38 : decode b_RRef_poke 38 = .ok (.aload_n 0, 1) := by decide +kernel
theorem d_RRef_poke_39 : decode b_RRef_poke 39 = .ok (.getfield 7, 3) := by decide +kernel
theorem d_RRef_poke_42 : decode b_RRef_poke 42 = .ok (.bipush 32, 2) := by decide +kernel
theorem d_RRef_poke_44 : decode b_RRef_poke 44 = .ok (.iload_n 1, 1) := by decide +kernel
theorem d_RRef_poke_45 : decode b_RRef_poke 45 = .ok (.imul, 1) := by decide +kernel
theorem d_RRef_poke_46 : decode b_RRef_poke 46 = .ok (.iload_n 2, 1) := by decide +kernel
theorem d_RRef_poke_47 : decode b_RRef_poke 47 = .ok (.iadd, 1) := by decide +kernel
theorem d_RRef_poke_48 : decode b_RRef_poke 48 = .ok (.dup2, 1) := by decide +kernel
theorem d_RRef_poke_49 : decode b_RRef_poke 49 = .ok (.baload, 1) := by decide +kernel
theorem d_RRef_poke_50 : decode b_RRef_poke 50 = .ok (.iload_n 3, 1) := by decide +kernel
theorem d_RRef_poke_51 : decode b_RRef_poke 51 = .ok (.ixor, 1) := by decide +kernel
theorem d_RRef_poke_52 : decode b_RRef_poke 52 = .ok (.i2b, 1) := by decide +kernel
theorem d_RRef_poke_53 : decode b_RRef_poke 53 = .ok (.bastore, 1) := by decide +kernel
theorem d_RRef_poke_54 : decode b_RRef_poke 54 = .ok (.aload_n 0, 1) := by decide +kernel
theorem d_RRef_poke_55 : decode b_RRef_poke 55 = .ok (.getfield 7, 3) := by decide +kernel
theorem d_RRef_poke_58 : decode b_RRef_poke 58 = .ok (.bipush 32, 2) := by decide +kernel
theorem d_RRef_poke_60 : decode b_RRef_poke 60 = .ok (.iload_n 1, 1) := by decide +kernel
theorem d_RRef_poke_61 : decode b_RRef_poke 61 = .ok (.imul, 1) := by decide +kernel
theorem d_RRef_poke_62 : decode b_RRef_poke 62 = .ok (.iload_n 2, 1) := by decide +kernel
theorem d_RRef_poke_63 : decode b_RRef_poke 63 = .ok (.iadd, 1) := by decide +kernel
theorem d_RRef_poke_64 : decode b_RRef_poke 64 = .ok (.baload, 1) := by decide +kernel
theorem d_RRef_poke_65 : decode b_RRef_poke 65 = .ok (.sipush 255, 3) := by decide +kernel
theorem d_RRef_poke_68 : decode b_RRef_poke 68 = .ok (.iand, 1) := by decide +kernel
theorem d_RRef_poke_69 : decode b_RRef_poke 69 = .ok (.ireturn, 1) := by decide +kernel
theorem d_RRef_put_0 : decode b_RRef_put 0 = .ok (.iconst 0, 1) := by decide +kernel
theorem d_RRef_put_1 : decode b_RRef_put 1 = .ok (.istore 5, 2) := by decide +kernel
theorem d_RRef_put_3 : decode b_RRef_put 3 = .ok (.iload 5, 2) := by decide +kernel
theorem d_RRef_put_5 : decode b_RRef_put 5 = .ok (.iload_n 2, 1) := by decide +kernel
theorem d_RRef_put_6 : decode b_RRef_put 6 = .ok (.if_icmp .ge 28, 3) := by decide +kernel
theorem d_RRef_put_9 : decode b_RRef_put 9 = .ok (.aload_n 0, 1) := by decide +kernel
theorem d_RRef_put_10 : decode b_RRef_put 10 = .ok (.iload_n 1, 1) := by decide +kernel
theorem d_RRef_put_11 : decode b_RRef_put 11 = .ok (.iload 5, 2) := by decide +kernel
theorem d_RRef_put_13 : decode b_RRef_put 13 = .ok (.iadd, 1) := by decide +kernel
theorem d_RRef_put_14 : decode b_RRef_put 14 = .ok (.lload_n 3, 1) := by decide +kernel
theorem d_RRef_put_15 : decode b_RRef_put 15 = .ok (.bipush 8, 2) := by decide +kernel
theorem d_RRef_put_17 : decode b_RRef_put 17 = .ok (.iload_n 2, 1) := by decide +kernel
theorem d_RRef_put_18 : decode b_RRef_put 18 = .ok (.iconst 1, 1) := by decide +kernel
theorem d_RRef_put_19 : decode b_RRef_put 19 = .ok (.isub, 1) := by decide +kernel
theorem d_RRef_put_20 : decode b_RRef_put 20 = .ok (.iload 5, 2) := by decide +kernel
theorem d_RRef_put_22 : decode b_RRef_put 22 = .ok (.isub, 1) := by decide +kernel
theorem d_RRef_put_23 : decode b_RRef_put 23 = .ok (.imul, 1) := by decide +kernel
theorem d_RRef_put_24 : decode b_RRef_put 24 = .ok (.lshr, 1) := by decide +kernel
theorem d_RRef_put_25 : decode b_RRef_put 25 = .ok (.l2i, 1) := by decide +kernel
theorem d_RRef_put_26 : decode b_RRef_put 26 = .ok (.i2b, 1) := by decide +kernel
theorem d_RRef_put_27 : decode b_RRef_put 27 = .ok (.bastore, 1) := by decide +kernel
theorem d_RRef_put_28 : decode b_RRef_put 28 = .ok (.iinc 5 1, 3) := by decide +kernel
theorem d_RRef_put_31 : decode b_RRef_put 31 = .ok (.goto (-28), 3) := by decide +kernel
theorem d_RRef_put_34 : decode b_RRef_put 34 = .ok (.return_, 1) := by decide +kernel
theorem d_RRef_room_0 : decode b_RRef_room 0 = .ok (.iconst 0, 1) := by decide +kernel
theorem d_RRef_room_1 : decode b_RRef_room 1 = .ok (.istore_n 2, 1) := by decide +kernel
theorem d_RRef_room_2 : decode b_RRef_room 2 = .ok (.iconst 2, 1) := by decide +kernel
theorem d_RRef_room_3 : decode b_RRef_room 3 = .ok (.istore_n 3, 1) := by decide +kernel
theorem d_RRef_room_4 : decode b_RRef_room 4 = .ok (.iload_n 3, 1) := by decide +kernel
theorem d_RRef_room_5 : decode b_RRef_room 5 = .ok (.aload_n 0, 1) := by decide +kernel
theorem d_RRef_room_6 : decode b_RRef_room 6 = .ok (.getfield 78, 3) := by decide +kernel
theorem d_RRef_room_9 : decode b_RRef_room 9 = .ok (.if_icmp .ge 37, 3) := by decide +kernel
theorem d_RRef_room_12 : decode b_RRef_room 12 = .ok (.aload_n 0, 1) := by decide +kernel
theorem d_RRef_room_13 : decode b_RRef_room 13 = .ok (.getfield 65, 3) := by decide +kernel
theorem d_RRef_room_16 : decode b_RRef_room 16 = .ok (.iload_n 3, 1) := by decide +kernel
theorem d_RRef_room_17 : decode b_RRef_room 17 = .ok (.baload, 1) := by decide +kernel
theorem d_RRef_room_18 : decode b_RRef_room 18 = .ok (.ifCond .eq 7, 3) := by decide +kernel
theorem d_RRef_room_21 : decode b_RRef_room 21 = .ok (.iconst 0, 1) := by decide +kernel
theorem d_RRef_room_22 : decode b_RRef_room 22 = .ok (.goto 6, 3) := by decide +kernel
theorem d_RRef_room_25 : decode b_RRef_room 25 = .ok (.iload_n 2, 1) := by decide +kernel
theorem d_RRef_room_26 : decode b_RRef_room 26 = .ok (.iconst 1, 1) := by decide +kernel
theorem d_RRef_room_27 : decode b_RRef_room 27 = .ok (.iadd, 1) := by decide +kernel
theorem d_RRef_room_28 : decode b_RRef_room 28 = .ok (.istore_n 2, 1) := by decide +kernel
theorem d_RRef_room_29 : decode b_RRef_room 29 = .ok (.iload_n 2, 1) := by decide +kernel
theorem d_RRef_room_30 : decode b_RRef_room 30 = .ok (.iload_n 1, 1) := by decide +kernel
theorem d_RRef_room_31 : decode b_RRef_room 31 = .ok (.if_icmp .ne 9, 3) := by decide +kernel
theorem d_RRef_room_34 : decode b_RRef_room 34 = .ok (.iload_n 3, 1) := by decide +kernel
theorem d_RRef_room_35 : decode b_RRef_room 35 = .ok (.iload_n 1, 1) := by decide +kernel
theorem d_RRef_room_36 : decode b_RRef_room 36 = .ok (.isub, 1) := by decide +kernel
theorem d_RRef_room_37 : decode b_RRef_room 37 = .ok (.iconst 1, 1) := by decide +kernel
theorem d_RRef_room_38 : decode b_RRef_room 38 = .ok (.iadd, 1) := by decide +kernel
theorem d_RRef_room_39 : decode b_RRef_room 39 = .ok (.ireturn, 1) := by decide +kernel
theorem d_RRef_room_40 : decode b_RRef_room 40 = .ok (.iinc 3 1, 3) := by decide +kernel
theorem d_RRef_room_43 : decode b_RRef_room 43 = .ok (.goto (-39), 3) := by decide +kernel
theorem d_RRef_room_46 : decode b_RRef_room 46 = .ok (.iconst (-1), 1) := by decide +kernel
theorem d_RRef_room_47 : decode b_RRef_room 47 = .ok (.ireturn, 1) := by decide +kernel
theorem d_RRef_savepoint_0 : decode b_RRef_savepoint 0 = .ok (.aload_n 0, 1) := by decide +kernel
theorem d_RRef_savepoint_1 : decode b_RRef_savepoint 1 = .ok (.getfield 72, 3) := by decide +kernel
theorem d_RRef_savepoint_4 : decode b_RRef_savepoint 4 = .ok (.iconst 0, 1) := by decide +kernel
theorem d_RRef_savepoint_5 : decode b_RRef_savepoint 5 = .ok (.bipush 77, 2) := by decide +kernel
theorem d_RRef_savepoint_7 : decode b_RRef_savepoint 7 = .ok (.bastore, 1) := by decide +kernel
theorem d_RRef_savepoint_8 : decode b_RRef_savepoint 8 = .ok (.aload_n 0, 1) := by decide +kernel
theorem d_RRef_savepoint_9 : decode b_RRef_savepoint 9 = .ok (.getfield 72, 3) := by decide +kernel
theorem d_RRef_savepoint_12 : decode b_RRef_savepoint 12 = .ok (.iconst 1, 1) := by decide +kernel
theorem d_RRef_savepoint_13 : decode b_RRef_savepoint 13 = .ok (.aload_n 0, 1) := by decide +kernel
theorem d_RRef_savepoint_14 : decode b_RRef_savepoint 14 = .ok (.getfield 47, 3) := by decide +kernel
theorem d_RRef_savepoint_17 : decode b_RRef_savepoint 17 = .ok (.iload_n 1, 1) := by decide +kernel
theorem d_RRef_savepoint_18 : decode b_RRef_savepoint 18 = .ok (.iaload, 1) := by decide +kernel
theorem d_RRef_savepoint_19 : decode b_RRef_savepoint 19 = .ok (.i2b, 1) := by decide +kernel
theorem d_RRef_savepoint_20 : decode b_RRef_savepoint 20 = .ok (.bastore, 1) := by decide +kernel
theorem d_RRef_savepoint_21 : decode b_RRef_savepoint 21 = .ok (.iconst 2, 1) := by decide +kernel
theorem d_RRef_savepoint_22 : decode b_RRef_savepoint 22 = .ok (.istore_n 2, 1) := by decide +kernel
theorem d_RRef_savepoint_23 : decode b_RRef_savepoint 23 = .ok (.iconst 0, 1) := by decide +kernel
theorem d_RRef_savepoint_24 : decode b_RRef_savepoint 24 = .ok (.istore_n 3, 1) := by decide +kernel
theorem d_RRef_savepoint_25 : decode b_RRef_savepoint 25 = .ok (.iload_n 3, 1) := by decide +kernel
theorem d_RRef_savepoint_26 : decode b_RRef_savepoint 26 = .ok (.aload_n 0, 1) := by decide +kernel
theorem d_RRef_savepoint_27 : decode b_RRef_savepoint 27 = .ok (.getfield 47, 3) := by decide +kernel
theorem d_RRef_savepoint_30 : decode b_RRef_savepoint 30 = .ok (.iload_n 1, 1) := by decide +kernel
theorem d_RRef_savepoint_31 : decode b_RRef_savepoint 31 = .ok (.iaload, 1) := by decide +kernel
theorem d_RRef_savepoint_32 : decode b_RRef_savepoint 32 = .ok (.if_icmp .ge 121, 3) := by decide +kernel
theorem d_RRef_savepoint_35 : decode b_RRef_savepoint 35 = .ok (.aload_n 0, 1) := by decide +kernel
theorem d_RRef_savepoint_36 : decode b_RRef_savepoint 36 = .ok (.aload_n 0, 1) := by decide +kernel
theorem d_RRef_savepoint_37 : decode b_RRef_savepoint 37 = .ok (.getfield 53, 3) := by decide +kernel
theorem d_RRef_savepoint_40 : decode b_RRef_savepoint 40 = .ok (.bipush 12, 2) := by decide +kernel
theorem d_RRef_savepoint_42 : decode b_RRef_savepoint 42 = .ok (.iload_n 1, 1) := by decide +kernel
theorem d_RRef_savepoint_43 : decode b_RRef_savepoint 43 = .ok (.imul, 1) := by decide +kernel
theorem d_RRef_savepoint_44 : decode b_RRef_savepoint 44 = .ok (.iload_n 3, 1) := by decide +kernel
theorem d_RRef_savepoint_45 : decode b_RRef_savepoint 45 = .ok (.iadd, 1) := by decide +kernel
theorem d_RRef_savepoint_46 : decode b_RRef_savepoint 46 = .ok (.iaload, 1) := by decide +kernel
theorem d_RRef_savepoint_47 : decode b_RRef_savepoint 47 = .ok (.invokevirtual 129, 3) := by decide +kernel
theorem d_RRef_savepoint_50 : decode b_RRef_savepoint 50 = .ok (.istore 4, 2) := by decide +kernel
theorem d_RRef_savepoint_52 : decode b_RRef_savepoint 52 = .ok (.aload_n 0, 1) := by decide +kernel
theorem d_RRef_savepoint_53 : decode b_RRef_savepoint 53 = .ok (.getfield 72, 3) := by decide +kernel
theorem d_RRef_savepoint_56 : decode b_RRef_savepoint 56 = .ok (.iload_n 2, 1) := by decide +kernel
theorem d_RRef_savepoint_57 : decode b_RRef_savepoint 57 = .ok (.aload_n 0, 1) := by decide +kernel
theorem d_RRef_savepoint_58 : decode b_RRef_savepoint 58 = .ok (.getfield 28, 3) := by decide +kernel
theorem d_RRef_savepoint_61 : decode b_RRef_savepoint 61 = .ok (.iload 4, 2) := by decide +kernel
theorem d_RRef_savepoint_63 : decode b_RRef_savepoint 63 = .ok (.iaload, 1) := by decide +kernel
theorem d_RRef_savepoint_64 : decode b_RRef_savepoint 64 = .ok (.i2b, 1) := by decide +kernel
theorem d_RRef_savepoint_65 : decode b_RRef_savepoint 65 = .ok (.bastore, 1) := by decide +kernel
theorem d_RRef_savepoint_66 : decode b_RRef_savepoint 66 = .ok (.aload_n 0, 1) := by decide +kernel
theorem d_RRef_savepoint_67 : decode b_RRef_savepoint 67 = .ok (.getfield 72, 3) := by decide +kernel
theorem d_RRef_savepoint_70 : decode b_RRef_savepoint 70 = .ok (.iload_n 2, 1) := by decide +kernel
theorem d_RRef_savepoint_71 : decode b_RRef_savepoint 71 = .ok (.iconst 1, 1) := by decide +kernel
theorem d_RRef_savepoint_72 : decode b_RRef_savepoint 72 = .ok (.iadd, 1) := by decide +kernel
theorem d_RRef_savepoint_73 : decode b_RRef_savepoint 73 = .ok (.bipush 8, 2) := by decide +kernel
theorem d_RRef_savepoint_75 : decode b_RRef_savepoint 75 = .ok (.aload_n 0, 1) := by decide +kernel
theorem d_RRef_savepoint_76 : decode b_RRef_savepoint 76 = .ok (.getfield 31, 3) := by decide +kernel
theorem d_RRef_savepoint_79 : decode b_RRef_savepoint 79 = .ok (.iload 4, 2) := by decide +kernel
theorem d_RRef_savepoint_81 : decode b_RRef_savepoint 81 = .ok (.laload, 1) := by decide +kernel
theorem d_RRef_savepoint_82 : decode b_RRef_savepoint 82 = .ok (.invokestatic 102, 3) := by decide +kernel
theorem d_RRef_savepoint_85 : decode b_RRef_savepoint 85 = .ok (.aload_n 0, 1) := by decide +kernel
theorem d_RRef_savepoint_86 : decode b_RRef_savepoint 86 = .ok (.getfield 72, 3) := by decide +kernel
theorem d_RRef_savepoint_89 : decode b_RRef_savepoint 89 = .ok (.iload_n 2, 1) := by decide +kernel
theorem d_RRef_savepoint_90 : decode b_RRef_savepoint 90 = .ok (.bipush 9, 2) := by decide +kernel
theorem d_RRef_savepoint_92 : decode b_RRef_savepoint 92 = .ok (.iadd, 1) := by decide +kernel
theorem d_RRef_savepoint_93 : decode b_RRef_savepoint 93 = .ok (.iconst 2, 1) := by decide +kernel
theorem d_RRef_savepoint_94 : decode b_RRef_savepoint 94 = .ok (.aload_n 0, 1) := by decide +kernel
theorem d_RRef_savepoint_95 : decode b_RRef_savepoint 95 = .ok (.getfield 35, 3) := by decide +kernel
theorem d_RRef_savepoint_98 : decode b_RRef_savepoint 98 = .ok (.iload 4, 2) := by decide +kernel
theorem d_RRef_savepoint_100 : decode b_RRef_savepoint 100 = .ok (.iaload, 1) := by decide +kernel
theorem d_RRef_savepoint_101 : decode b_RRef_savepoint 101 = .ok (.i2l, 1) := by decide +kernel
theorem d_RRef_savepoint_102 : decode b_RRef_savepoint 102 = .ok (.invokestatic 102, 3) := by decide +kernel
theorem d_RRef_savepoint_105 : decode b_RRef_savepoint 105 = .ok (.iinc 2 11, 3) := by decide +kernel
theorem d_RRef_savepoint_108 : decode b_RRef_savepoint 108 = .ok (.iconst 0, 1) := by decide +kernel
theorem d_RRef_savepoint_109 : decode b_RRef_savepoint 109 = .ok (.istore 5, 2) := by decide +kernel
theorem d_RRef_savepoint_111 : decode b_RRef_savepoint 111 = .ok (.iload 5, 2) := by decide +kernel
theorem d_RRef_savepoint_113 : decode b_RRef_savepoint 113 = .ok (.aload_n 0, 1) := by decide +kernel
theorem d_RRef_savepoint_114 : decode b_RRef_savepoint 114 = .ok (.getfield 35, 3) := by decide +kernel
theorem d_RRef_savepoint_117 : decode b_RRef_savepoint 117 = .ok (.iload 4, 2) := by decide +kernel
theorem d_RRef_savepoint_119 : decode b_RRef_savepoint 119 = .ok (.iaload, 1) := by decide +kernel
theorem d_RRef_savepoint_120 : decode b_RRef_savepoint 120 = .ok (.if_icmp .ge 27, 3) := by decide +kernel
theorem d_RRef_savepoint_123 : decode b_RRef_savepoint 123 = .ok (.aload_n 0, 1) := by decide +kernel
theorem d_RRef_savepoint_124 : decode b_RRef_savepoint 124 = .ok (.getfield 72, 3) := by decide +kernel
theorem d_RRef_savepoint_127 : decode b_RRef_savepoint 127 = .ok (.iload_n 2, 1) := by decide +kernel
theorem d_RRef_savepoint_128 : decode b_RRef_savepoint 128 = .ok (.aload_n 0, 1) := by decide +kernel
theorem d_RRef_savepoint_129 : decode b_RRef_savepoint 129 = .ok (.iload 4, 2) := by decide +kernel
theorem d_RRef_savepoint_131 : decode b_RRef_savepoint 131 = .ok (.iload 5, 2) := by decide +kernel
theorem d_RRef_savepoint_133 : decode b_RRef_savepoint 133 = .ok (.invokevirtual 233, 3) := by decide +kernel
theorem d_RRef_savepoint_136 : decode b_RRef_savepoint 136 = .ok (.i2b, 1) := by decide +kernel
theorem d_RRef_savepoint_137 : decode b_RRef_savepoint 137 = .ok (.bastore, 1) := by decide +kernel
theorem d_RRef_savepoint_138 : decode b_RRef_savepoint 138 = .ok (.iinc 2 1, 3) := by decide +kernel
theorem d_RRef_savepoint_141 : decode b_RRef_savepoint 141 = .ok (.iinc 5 1, 3) := by decide +kernel
theorem d_RRef_savepoint_144 : decode b_RRef_savepoint 144 = .ok (.goto (-33), 3) := by decide +kernel
theorem d_RRef_savepoint_147 : decode b_RRef_savepoint 147 = .ok (.iinc 3 1, 3) := by decide +kernel
theorem d_RRef_savepoint_150 : decode b_RRef_savepoint 150 = .ok (.goto (-125), 3) := by decide +kernel
theorem d_RRef_savepoint_153 : decode b_RRef_savepoint 153 = .ok (.aload_n 0, 1) := by decide +kernel
theorem d_RRef_savepoint_154 : decode b_RRef_savepoint 154 = .ok (.getfield 72, 3) := by decide +kernel
theorem d_RRef_savepoint_157 : decode b_RRef_savepoint 157 = .ok (.iload_n 2, 1) := by decide +kernel
theorem d_RRef_savepoint_158 : decode b_RRef_savepoint 158 = .ok (.bipush 8, 2) := by decide +kernel
theorem d_RRef_savepoint_160 : decode b_RRef_savepoint 160 = .ok (.aload_n 0, 1) := by decide +kernel
theorem d_RRef_savepoint_161 : decode b_RRef_savepoint 161 = .ok (.getfield 72, 3) := by decide +kernel
theorem d_RRef_savepoint_164 : decode b_RRef_savepoint 164 = .ok (.iconst 0, 1) := by decide +kernel
theorem d_RRef_savepoint_165 : decode b_RRef_savepoint 165 = .ok (.iload_n 2, 1) := by decide +kernel
theorem d_RRef_savepoint_166 : decode b_RRef_savepoint 166 = .ok (.invokestatic 89, 3) := by decide +kernel
theorem d_RRef_savepoint_169 : decode b_RRef_savepoint 169 = .ok (.invokestatic 102, 3) := by decide +kernel
theorem d_RRef_savepoint_172 : decode b_RRef_savepoint 172 = .ok (.iload_n 2, 1) := by decide +kernel
theorem d_RRef_savepoint_173 : decode b_RRef_savepoint 173 = .ok (.bipush 8, 2) := by decide +kernel
theorem d_RRef_savepoint_175 : decode b_RRef_savepoint 175 = .ok (.iadd, 1) := by decide +kernel
theorem d_RRef_savepoint_176 : decode b_RRef_savepoint 176 = .ok (.ireturn, 1) := by decide +kernel
theorem d_RRef_sumDraft_0 : decode b_RRef_sumDraft 0 = .ok (.aload_n 0, 1) := by decide +kernel
theorem d_RRef_sumDraft_1 : decode b_RRef_sumDraft 1 = .ok (.getfield 69, 3) := by decide +kernel
theorem d_RRef_sumDraft_4 : decode b_RRef_sumDraft 4 = .ok (.bipush 24, 2) := by decide +kernel
theorem d_RRef_sumDraft_6 : decode b_RRef_sumDraft 6 = .ok (.bipush 8, 2) := by decide +kernel
theorem d_RRef_sumDraft_8 : decode b_RRef_sumDraft 8 = .ok (.aload_n 0, 1) := by decide +kernel
theorem d_RRef_sumDraft_9 : decode b_RRef_sumDraft 9 = .ok (.getfield 69, 3) := by decide +kernel
theorem d_RRef_sumDraft_12 : decode b_RRef_sumDraft 12 = .ok (.iconst 0, 1) := by decide +kernel
theorem d_RRef_sumDraft_13 : decode b_RRef_sumDraft 13 = .ok (.bipush 24, 2) := by decide +kernel
theorem d_RRef_sumDraft_15 : decode b_RRef_sumDraft 15 = .ok (.invokestatic 89, 3) := by decide +kernel
theorem d_RRef_sumDraft_18 : decode b_RRef_sumDraft 18 = .ok (.invokestatic 102, 3) := by decide +kernel
theorem d_RRef_sumDraft_21 : decode b_RRef_sumDraft 21 = .ok (.return_, 1) := by decide +kernel
theorem d_RRef_takeBack_0 : decode b_RRef_takeBack 0 = .ok (.aload_n 0, 1) := by decide +kernel
theorem d_RRef_takeBack_1 : decode b_RRef_takeBack 1 = .ok (.invokevirtual 99, 3) := by decide +kernel
theorem d_RRef_takeBack_4 : decode b_RRef_takeBack 4 = .ok (.iconst 1, 1) := by decide +kernel
theorem d_RRef_takeBack_5 : decode b_RRef_takeBack 5 = .ok (.istore_n 3, 1) := by decide +kernel
theorem d_RRef_takeBack_6 : decode b_RRef_takeBack 6 = .ok (.iconst 0, 1) := by decide +kernel
theorem d_RRef_takeBack_7 : decode b_RRef_takeBack 7 = .ok (.istore 4, 2) := by decide +kernel
theorem d_RRef_takeBack_9 : decode b_RRef_takeBack 9 = .ok (.iload 4, 2) := by decide +kernel
theorem d_RRef_takeBack_11 : decode b_RRef_takeBack 11 = .ok (.iload_n 2, 1) := by decide +kernel
theorem d_RRef_takeBack_12 : decode b_RRef_takeBack 12 = .ok (.if_icmp .ge 23, 3) := by decide +kernel
theorem d_RRef_takeBack_15 : decode b_RRef_takeBack 15 = .ok (.iload_n 3, 1) := by decide +kernel
theorem d_RRef_takeBack_16 : decode b_RRef_takeBack 16 = .ok (.ifCond .eq 19, 3) := by decide +kernel
theorem d_RRef_takeBack_19 : decode b_RRef_takeBack 19 = .ok (.aload_n 0, 1) := by decide +kernel
theorem d_RRef_takeBack_20 : decode b_RRef_takeBack 20 = .ok (.iload_n 1, 1) := by decide +kernel
theorem d_RRef_takeBack_21 : decode b_RRef_takeBack 21 = .ok (.iload 4, 2) := by decide +kernel
theorem d_RRef_takeBack_23 : decode b_RRef_takeBack 23 = .ok (.iadd, 1) := by decide +kernel
theorem d_RRef_takeBack_24 : decode b_RRef_takeBack 24 = .ok (.iconst 0, 1) := by decide +kernel
theorem d_RRef_takeBack_25 : decode b_RRef_takeBack 25 = .ok (.invokevirtual 95, 3) := by decide +kernel
theorem d_RRef_takeBack_28 : decode b_RRef_takeBack 28 = .ok (.istore_n 3, 1) := by decide +kernel
theorem d_RRef_takeBack_29 : decode b_RRef_takeBack 29 = .ok (.iinc 4 1, 3) := by decide +kernel
theorem d_RRef_takeBack_32 : decode b_RRef_takeBack 32 = .ok (.goto (-23), 3) := by decide +kernel
theorem d_RRef_takeBack_35 : decode b_RRef_takeBack 35 = .ok (.iload_n 3, 1) := by decide +kernel
theorem d_RRef_takeBack_36 : decode b_RRef_takeBack 36 = .ok (.ireturn, 1) := by decide +kernel
theorem d_RRef_told_0 : decode b_RRef_told 0 = .ok (.iload_n 1, 1) := by decide +kernel
theorem d_RRef_told_1 : decode b_RRef_told 1 = .ok (.iconst 0, 1) := by decide +kernel
theorem d_RRef_told_2 : decode b_RRef_told 2 = .ok (.bipush 16, 2) := by decide +kernel
theorem d_RRef_told_4 : decode b_RRef_told 4 = .ok (.invokestatic 172, 3) := by decide +kernel
theorem d_RRef_told_7 : decode b_RRef_told 7 = .ok (.ifCond .ne 6, 3) := by decide +kernel
theorem d_RRef_told_10 : decode b_RRef_told 10 = .ok (.bipush (-2), 2) := by decide +kernel
theorem d_RRef_told_12 : decode b_RRef_told 12 = .ok (.ireturn, 1) := by decide +kernel
theorem d_RRef_told_13 : decode b_RRef_told 13 = .ok (.iload_n 1, 1) := by decide +kernel
theorem d_RRef_told_14 : decode b_RRef_told 14 = .ok (.iconst 3, 1) := by decide +kernel
theorem d_RRef_told_15 : decode b_RRef_told 15 = .ok (.if_icmp .ge 39, 3) := by decide +kernel
theorem d_RRef_told_18 : decode b_RRef_told 18 = .ok (.iload_n 1, 1) := by decide +kernel
theorem d_RRef_told_19 : decode b_RRef_told 19 = .ok (.ifCond .ne 18, 3) := by decide +kernel
theorem d_RRef_told_22 : decode b_RRef_told 22 = .ok (.aload_n 0, 1) := by decide +kernel
theorem d_RRef_told_23 : decode b_RRef_told 23 = .ok (.getfield 13, 3) := by decide +kernel
theorem d_RRef_told_26 : decode b_RRef_told 26 = .ok (.ifCond .eq 7, 3) := by decide +kernel
theorem d_RRef_told_29 : decode b_RRef_told 29 = .ok (.iconst 1, 1) := by decide +kernel
theorem d_RRef_told_30 : decode b_RRef_told 30 = .ok (.goto 23, 3) := by decide +kernel
theorem d_RRef_told_33 : decode b_RRef_told 33 = .ok (.iconst 0, 1) := by decide +kernel
theorem d_RRef_told_34 : decode b_RRef_told 34 = .ok (.goto 19, 3) := by decide +kernel
theorem d_RRef_told_37 : decode b_RRef_told 37 = .ok (.iload_n 1, 1) := by decide +kernel
theorem d_RRef_told_38 : decode b_RRef_told 38 = .ok (.iconst 1, 1) := by decide +kernel
theorem d_RRef_told_39 : decode b_RRef_told 39 = .ok (.if_icmp .ne 10, 3) := by decide +kernel
theorem d_RRef_told_42 : decode b_RRef_told 42 = .ok (.aload_n 0, 1) := by decide +kernel
theorem d_RRef_told_43 : decode b_RRef_told 43 = .ok (.getfield 78, 3) := by decide +kernel
theorem d_RRef_told_46 : decode b_RRef_told 46 = .ok (.goto 7, 3) := by decide +kernel
theorem d_RRef_told_49 : decode b_RRef_told 49 = .ok (.aload_n 0, 1) := by decide +kernel
theorem d_RRef_told_50 : decode b_RRef_told 50 = .ok (.getfield 92, 3) := by decide +kernel
theorem d_RRef_told_53 : decode b_RRef_told 53 = .ok (.ireturn, 1) := by decide +kernel
theorem d_RRef_told_54 : decode b_RRef_told 54 = .ok (.aload_n 0, 1) := by decide +kernel
theorem d_RRef_told_55 : decode b_RRef_told 55 = .ok (.getfield 13, 3) := by decide +kernel
theorem d_RRef_told_58 : decode b_RRef_told 58 = .ok (.ifCond .ne 5, 3) := by decide +kernel
theorem d_RRef_told_61 : decode b_RRef_told 61 = .ok (.iconst 0, 1) := by decide +kernel
theorem d_RRef_told_62 : decode b_RRef_told 62 = .ok (.ireturn, 1) := by decide +kernel
theorem d_RRef_told_63 : decode b_RRef_told 63 = .ok (.iload_n 1, 1) := by decide +kernel
theorem d_RRef_told_64 : decode b_RRef_told 64 = .ok (.iconst 3, 1) := by decide +kernel
theorem d_RRef_told_65 : decode b_RRef_told 65 = .ok (.if_icmp .ne 44, 3) := by decide +kernel
theorem d_RRef_told_68 : decode b_RRef_told 68 = .ok (.aload_n 0, 1) := by decide +kernel
theorem d_RRef_told_69 : decode b_RRef_told 69 = .ok (.invokevirtual 185, 3) := by decide +kernel
theorem d_RRef_told_72 : decode b_RRef_told 72 = .ok (.iconst 0, 1) := by decide +kernel
theorem d_RRef_told_73 : decode b_RRef_told 73 = .ok (.istore_n 2, 1) := by decide +kernel
theorem d_RRef_told_74 : decode b_RRef_told 74 = .ok (.iconst 2, 1) := by decide +kernel
theorem d_RRef_told_75 : decode b_RRef_told 75 = .ok (.istore_n 3, 1) := by decide +kernel
theorem d_RRef_told_76 : decode b_RRef_told 76 = .ok (.iload_n 3, 1) := by decide +kernel
theorem d_RRef_told_77 : decode b_RRef_told 77 = .ok (.aload_n 0, 1) := by decide +kernel
theorem d_RRef_told_78 : decode b_RRef_told 78 = .ok (.getfield 78, 3) := by decide +kernel
theorem d_RRef_told_81 : decode b_RRef_told 81 = .ok (.if_icmp .ge 26, 3) := by decide +kernel
theorem d_RRef_told_84 : decode b_RRef_told 84 = .ok (.iload_n 2, 1) := by decide +kernel
theorem d_RRef_told_85 : decode b_RRef_told 85 = .ok (.aload_n 0, 1) := by decide +kernel
theorem d_RRef_told_86 : decode b_RRef_told 86 = .ok (.getfield 65, 3) := by decide +kernel
theorem d_RRef_told_89 : decode b_RRef_told 89 = .ok (.iload_n 3, 1) := by decide +kernel
theorem d_RRef_told_90 : decode b_RRef_told 90 = .ok (.baload, 1) := by decide +kernel
theorem d_RRef_told_91 : decode b_RRef_told 91 = .ok (.ifCond .eq 7, 3) := by decide +kernel
theorem d_RRef_told_94 : decode b_RRef_told 94 = .ok (.iconst 0, 1) := by decide +kernel
theorem d_RRef_told_95 : decode b_RRef_told 95 = .ok (.goto 4, 3) := by decide +kernel
theorem d_RRef_told_98 : decode b_RRef_told 98 = .ok (.iconst 1, 1) := by decide +kernel
theorem d_RRef_told_99 : decode b_RRef_told 99 = .ok (.iadd, 1) := by decide +kernel
theorem d_RRef_told_100 : decode b_RRef_told 100 = .ok (.istore_n 2, 1) := by decide +kernel
theorem d_RRef_told_101 : decode b_RRef_told 101 = .ok (.iinc 3 1, 3) := by decide +kernel
theorem d_RRef_told_104 : decode b_RRef_told 104 = .ok (.goto (-28), 3) := by decide +kernel
theorem d_RRef_told_107 : decode b_RRef_told 107 = .ok (.iload_n 2, 1) := by decide +kernel
theorem d_RRef_told_108 : decode b_RRef_told 108 = .ok (.ireturn, 1) := by decide +kernel
theorem d_RRef_told_109 : decode b_RRef_told 109 = .ok (.iload_n 1, 1) := by decide +kernel
theorem d_RRef_told_110 : decode b_RRef_told 110 = .ok (.iconst 4, 1) := by decide +kernel
theorem d_RRef_told_111 : decode b_RRef_told 111 = .ok (.if_icmp .ne 10, 3) := by decide +kernel
theorem d_RRef_told_114 : decode b_RRef_told 114 = .ok (.aload_n 0, 1) := by decide +kernel
theorem d_RRef_told_115 : decode b_RRef_told 115 = .ok (.getfield 106, 3) := by decide +kernel
theorem d_RRef_told_118 : decode b_RRef_told 118 = .ok (.goto 64, 3) := by decide +kernel
theorem d_RRef_told_121 : decode b_RRef_told 121 = .ok (.iload_n 1, 1) := by decide +kernel
theorem d_RRef_told_122 : decode b_RRef_told 122 = .ok (.iconst 5, 1) := by decide +kernel
theorem d_RRef_told_123 : decode b_RRef_told 123 = .ok (.if_icmp .ne 10, 3) := by decide +kernel
theorem d_RRef_told_126 : decode b_RRef_told 126 = .ok (.aload_n 0, 1) := by decide +kernel
theorem d_RRef_told_127 : decode b_RRef_told 127 = .ok (.getfield 147, 3) := by decide +kernel
theorem d_RRef_told_130 : decode b_RRef_told 130 = .ok (.goto 52, 3) := by decide +kernel
theorem d_RRef_told_133 : decode b_RRef_told 133 = .ok (.iload_n 1, 1) := by decide +kernel
theorem d_RRef_told_134 : decode b_RRef_told 134 = .ok (.bipush 6, 2) := by decide +kernel
theorem d_RRef_told_136 : decode b_RRef_told 136 = .ok (.if_icmp .ne 10, 3) := by decide +kernel
theorem d_RRef_told_139 : decode b_RRef_told 139 = .ok (.aload_n 0, 1) := by decide +kernel
theorem d_RRef_told_140 : decode b_RRef_told 140 = .ok (.getfield 153, 3) := by decide +kernel
theorem d_RRef_told_143 : decode b_RRef_told 143 = .ok (.goto 39, 3) := by decide +kernel
theorem d_RRef_told_146 : decode b_RRef_told 146 = .ok (.iload_n 1, 1) := by decide +kernel
theorem d_RRef_told_147 : decode b_RRef_told 147 = .ok (.bipush 7, 2) := by decide +kernel
theorem d_RRef_told_149 : decode b_RRef_told 149 = .ok (.if_icmp .ne 10, 3) := by decide +kernel
theorem d_RRef_told_152 : decode b_RRef_told 152 = .ok (.aload_n 0, 1) := by decide +kernel
theorem d_RRef_told_153 : decode b_RRef_told 153 = .ok (.getfield 137, 3) := by decide +kernel
theorem d_RRef_told_156 : decode b_RRef_told 156 = .ok (.goto 26, 3) := by decide +kernel
theorem d_RRef_told_159 : decode b_RRef_told 159 = .ok (.iload_n 1, 1) := by decide +kernel
theorem d_RRef_told_160 : decode b_RRef_told 160 = .ok (.bipush 8, 2) := by decide +kernel
theorem d_RRef_told_162 : decode b_RRef_told 162 = .ok (.if_icmp .ne 11, 3) := by decide +kernel
theorem d_RRef_told_165 : decode b_RRef_told 165 = .ok (.aload_n 0, 1) := by decide +kernel
theorem d_RRef_told_166 : decode b_RRef_told 166 = .ok (.iconst 0, 1) := by decide +kernel
theorem d_RRef_told_167 : decode b_RRef_told 167 = .ok (.invokevirtual 196, 3) := by decide +kernel
theorem d_RRef_told_170 : decode b_RRef_told 170 = .ok (.goto 12, 3) := by decide +kernel
theorem d_RRef_told_173 : decode b_RRef_told 173 = .ok (.aload_n 0, 1) := by decide +kernel
theorem d_RRef_told_174 : decode b_RRef_told 174 = .ok (.getfield 62, 3) := by decide +kernel
theorem d_RRef_told_177 : decode b_RRef_told 177 = .ok (.iload_n 1, 1) := by decide +kernel
theorem d_RRef_told_178 : decode b_RRef_told 178 = .ok (.bipush 9, 2) := by decide +kernel
theorem d_RRef_told_180 : decode b_RRef_told 180 = .ok (.isub, 1) := by decide +kernel
theorem d_RRef_told_181 : decode b_RRef_told 181 = .ok (.iaload, 1) := by decide +kernel
theorem d_RRef_told_182 : decode b_RRef_told 182 = .ok (.ireturn, 1) := by decide +kernel
theorem d_RRef_usable_0 : decode b_RRef_usable 0 = .ok (.aload_n 0, 1) := by decide +kernel
theorem d_RRef_usable_1 : decode b_RRef_usable 1 = .ok (.getfield 13, 3) := by decide +kernel
theorem d_RRef_usable_4 : decode b_RRef_usable 4 = .ok (.ifCond .ne 6, 3) := by decide +kernel
theorem d_RRef_usable_7 : decode b_RRef_usable 7 = .ok (.bipush (-3), 2) := by decide +kernel
theorem d_RRef_usable_9 : decode b_RRef_usable 9 = .ok (.ireturn, 1) := by decide +kernel
theorem d_RRef_usable_10 : decode b_RRef_usable 10 = .ok (.iconst (-1), 1) := by decide +kernel
theorem d_RRef_usable_11 : decode b_RRef_usable 11 = .ok (.istore_n 1, 1) := by decide +kernel
theorem d_RRef_usable_12 : decode b_RRef_usable 12 = .ok (.iconst 0, 1) := by decide +kernel
theorem d_RRef_usable_13 : decode b_RRef_usable 13 = .ok (.istore_n 2, 1) := by decide +kernel
theorem d_RRef_usable_14 : decode b_RRef_usable 14 = .ok (.iload_n 2, 1) := by decide +kernel
theorem d_RRef_usable_15 : decode b_RRef_usable 15 = .ok (.aload_n 0, 1) := by decide +kernel
theorem d_RRef_usable_16 : decode b_RRef_usable 16 = .ok (.getfield 109, 3) := by decide +kernel
theorem d_RRef_usable_19 : decode b_RRef_usable 19 = .ok (.if_icmp .ge 48, 3) := by decide +kernel
theorem d_RRef_usable_22 : decode b_RRef_usable 22 = .ok (.aload_n 0, 1) := by decide +kernel
theorem d_RRef_usable_23 : decode b_RRef_usable 23 = .ok (.getfield 44, 3) := by decide +kernel
theorem d_RRef_usable_26 : decode b_RRef_usable 26 = .ok (.iload_n 2, 1) := by decide +kernel
theorem d_RRef_usable_27 : decode b_RRef_usable 27 = .ok (.iaload, 1) := by decide +kernel
theorem d_RRef_usable_28 : decode b_RRef_usable 28 = .ok (.iconst (-1), 1) := by decide +kernel
theorem d_RRef_usable_29 : decode b_RRef_usable 29 = .ok (.if_icmp .eq 30, 3) := by decide +kernel
theorem d_RRef_usable_32 : decode b_RRef_usable 32 = .ok (.aload_n 0, 1) := by decide +kernel
theorem d_RRef_usable_33 : decode b_RRef_usable 33 = .ok (.getfield 41, 3) := by decide +kernel
theorem d_RRef_usable_36 : decode b_RRef_usable 36 = .ok (.iload_n 2, 1) := by decide +kernel
theorem d_RRef_usable_37 : decode b_RRef_usable 37 = .ok (.iaload, 1) := by decide +kernel
theorem d_RRef_usable_38 : decode b_RRef_usable 38 = .ok (.iload_n 1, 1) := by decide +kernel
theorem d_RRef_usable_39 : decode b_RRef_usable 39 = .ok (.if_icmp .le 20, 3) := by decide +kernel
theorem d_RRef_usable_42 : decode b_RRef_usable 42 = .ok (.aload_n 0, 1) := by decide +kernel
theorem d_RRef_usable_43 : decode b_RRef_usable 43 = .ok (.iload_n 2, 1) := by decide +kernel
theorem d_RRef_usable_44 : decode b_RRef_usable 44 = .ok (.invokevirtual 224, 3) := by decide +kernel
theorem d_RRef_usable_47 : decode b_RRef_usable 47 = .ok (.ifCond .eq 12, 3) := by decide +kernel
theorem d_RRef_usable_50 : decode b_RRef_usable 50 = .ok (.aload_n 0, 1) := by decide +kernel
theorem d_RRef_usable_51 : decode b_RRef_usable 51 = .ok (.getfield 41, 3) := by decide +kernel
theorem d_RRef_usable_54 : decode b_RRef_usable 54 = .ok (.iload_n 2, 1) := by decide +kernel
theorem d_RRef_usable_55 : decode b_RRef_usable 55 = .ok (.iaload, 1) := by decide +kernel
theorem d_RRef_usable_56 : decode b_RRef_usable 56 = .ok (.goto 4, 3) := by decide +kernel
theorem d_RRef_usable_59 : decode b_RRef_usable 59 = .ok (.iload_n 1, 1) := by decide +kernel
theorem d_RRef_usable_60 : decode b_RRef_usable 60 = .ok (.istore_n 1, 1) := by decide +kernel
theorem d_RRef_usable_61 : decode b_RRef_usable 61 = .ok (.iinc 2 1, 3) := by decide +kernel
theorem d_RRef_usable_64 : decode b_RRef_usable 64 = .ok (.goto (-50), 3) := by decide +kernel
theorem d_RRef_usable_67 : decode b_RRef_usable 67 = .ok (.iload_n 1, 1) := by decide +kernel
theorem d_RRef_usable_68 : decode b_RRef_usable 68 = .ok (.ireturn, 1) := by decide +kernel
theorem d_RRef_whole_0 : decode b_RRef_whole 0 = .ok (.aload_n 0, 1) := by decide +kernel
theorem d_RRef_whole_1 : decode b_RRef_whole 1 = .ok (.iload_n 1, 1) := by decide +kernel
theorem d_RRef_whole_2 : decode b_RRef_whole 2 = .ok (.invokevirtual 150, 3) := by decide +kernel
theorem d_RRef_whole_5 : decode b_RRef_whole 5 = .ok (.istore_n 2, 1) := by decide +kernel
theorem d_RRef_whole_6 : decode b_RRef_whole 6 = .ok (.aload_n 0, 1) := by decide +kernel
theorem d_RRef_whole_7 : decode b_RRef_whole 7 = .ok (.getfield 13, 3) := by decide +kernel
theorem d_RRef_whole_10 : decode b_RRef_whole 10 = .ok (.ifCond .ne 8, 3) := by decide +kernel
theorem d_RRef_whole_13 : decode b_RRef_whole 13 = .ok (.bipush (-3), 2) := by decide +kernel
theorem d_RRef_whole_15 : decode b_RRef_whole 15 = .ok (.goto 25, 3) := by decide +kernel
theorem d_RRef_whole_18 : decode b_RRef_whole 18 = .ok (.iload_n 2, 1) := by decide +kernel
theorem d_RRef_whole_19 : decode b_RRef_whole 19 = .ok (.iconst (-1), 1) := by decide +kernel
theorem d_RRef_whole_20 : decode b_RRef_whole 20 = .ok (.if_icmp .ne 7, 3) := by decide +kernel
theorem d_RRef_whole_23 : decode b_RRef_whole 23 = .ok (.iconst (-1), 1) := by decide +kernel
theorem d_RRef_whole_24 : decode b_RRef_whole 24 = .ok (.goto 16, 3) := by decide +kernel
theorem d_RRef_whole_27 : decode b_RRef_whole 27 = .ok (.aload_n 0, 1) := by decide +kernel
theorem d_RRef_whole_28 : decode b_RRef_whole 28 = .ok (.iload_n 2, 1) := by decide +kernel
theorem d_RRef_whole_29 : decode b_RRef_whole 29 = .ok (.invokevirtual 224, 3) := by decide +kernel
theorem d_RRef_whole_32 : decode b_RRef_whole 32 = .ok (.ifCond .eq 7, 3) := by decide +kernel
theorem d_RRef_whole_35 : decode b_RRef_whole 35 = .ok (.iconst 1, 1) := by decide +kernel
theorem d_RRef_whole_36 : decode b_RRef_whole 36 = .ok (.goto 4, 3) := by decide +kernel
theorem d_RRef_whole_39 : decode b_RRef_whole 39 = .ok (.iconst 0, 1) := by decide +kernel
theorem d_RRef_whole_40 : decode b_RRef_whole 40 = .ok (.ireturn, 1) := by decide +kernel
theorem d_RRef_wipe_0 : decode b_RRef_wipe 0 = .ok (.aload_n 0, 1) := by decide +kernel
theorem d_RRef_wipe_1 : decode b_RRef_wipe 1 = .ok (.getfield 176, 3) := by decide +kernel
theorem d_RRef_wipe_4 : decode b_RRef_wipe 4 = .ok (.istore_n 1, 1) := by decide +kernel
theorem d_RRef_wipe_5 : decode b_RRef_wipe 5 = .ok (.aload_n 0, 1) := by decide +kernel
theorem d_RRef_wipe_6 : decode b_RRef_wipe 6 = .ok (.iconst 0, 1) := by decide +kernel
theorem d_RRef_wipe_7 : decode b_RRef_wipe 7 = .ok (.putfield 176, 3) := by decide +kernel
theorem d_RRef_wipe_10 : decode b_RRef_wipe 10 = .ok (.iload_n 1, 1) := by decide +kernel
theorem d_RRef_wipe_11 : decode b_RRef_wipe 11 = .ok (.ireturn, 1) := by decide +kernel
theorem d_RRef_write_0 : decode b_RRef_write 0 = .ok (.iconst 0, 1) := by decide +kernel
theorem d_RRef_write_1 : decode b_RRef_write 1 = .ok (.istore_n 3, 1) := by decide +kernel
theorem d_RRef_write_2 : decode b_RRef_write 2 = .ok (.iload_n 3, 1) := by decide +kernel
theorem d_RRef_write_3 : decode b_RRef_write 3 = .ok (.bipush 32, 2) := by decide +kernel
theorem d_RRef_write_5 : decode b_RRef_write 5 = .ok (.if_icmp .ge 79, 3) := by decide +kernel
theorem d_RRef_write_8 : decode b_RRef_write 8 = .ok (.aload_n 0, 1) := by decide +kernel
theorem d_RRef_write_9 : decode b_RRef_write 9 = .ok (.getfield 17, 3) := by decide +kernel
theorem d_RRef_write_12 : decode b_RRef_write 12 = .ok (.ifCond .ne 15, 3) := by decide +kernel
theorem d_RRef_write_15 : decode b_RRef_write 15 = .ok (.aload_n 0, 1) := by decide +kernel
theorem d_RRef_write_16 : decode b_RRef_write 16 = .ok (.iconst (-1), 1) := by decide +kernel
theorem d_RRef_write_17 : decode b_RRef_write 17 = .ok (.putfield 17, 3) := by decide +kernel
theorem d_RRef_write_20 : decode b_RRef_write 20 = .ok (.aload_n 0, 1) := by decide +kernel
theorem d_RRef_write_21 : decode b_RRef_write 21 = .ok (.iconst 0, 1) := by decide +kernel
theorem d_RRef_write_22 : decode b_RRef_write 22 = .ok (.putfield 13, 3) := by decide +kernel
theorem d_RRef_write_25 : decode b_RRef_write 25 = .ok (.iconst 0, 1) := by decide +kernel
theorem d_RRef_write_26 : decode b_RRef_write 26 = .ok (.ireturn, 1) := by decide +kernel
theorem d_RRef_write_27 : decode b_RRef_write 27 = .ok (.aload_n 0, 1) := by decide +kernel
theorem d_RRef_write_28 : decode b_RRef_write 28 = .ok (.aload_n 0, 1) := by decide +kernel
theorem d_RRef_write_29 : decode b_RRef_write 29 = .ok (.getfield 17, 3) := by decide +kernel
theorem d_RRef_write_32 : decode b_RRef_write 32 = .ok (.iconst (-1), 1) := by decide +kernel
theorem d_RRef_write_33 : decode b_RRef_write 33 = .ok (.if_icmp .ne 7, 3) := by decide +kernel
theorem d_RRef_write_36 : decode b_RRef_write 36 = .ok (.iconst (-1), 1) := by decide +kernel
theorem d_RRef_write_37 : decode b_RRef_write 37 = .ok (.goto 9, 3) := by decide +kernel
theorem d_RRef_write_40 : decode b_RRef_write 40 = .ok (.aload_n 0, 1) := by decide +kernel
theorem d_RRef_write_41 : decode b_RRef_write 41 = .ok (.getfield 17, 3) := by decide +kernel
theorem d_RRef_write_44 : decode b_RRef_write 44 = .ok (.iconst 1, 1) := by decide +kernel
theorem d_RRef_write_45 : decode b_RRef_write 45 = .ok (.isub, 1) := by decide +kernel
theorem d_RRef_write_46 : decode b_RRef_write 46 = .ok (.putfield 17, 3) := by decide +kernel
theorem d_RRef_write_49 : decode b_RRef_write 49 = .ok (.aload_n 0, 1) := by decide +kernel
theorem d_RRef_write_50 : decode b_RRef_write 50 = .ok (.getfield 7, 3) := by decide +kernel
theorem d_RRef_write_53 : decode b_RRef_write 53 = .ok (.bipush 32, 2) := by decide +kernel
theorem d_RRef_write_55 : decode b_RRef_write 55 = .ok (.iload_n 1, 1) := by decide +kernel
theorem d_RRef_write_56 : decode b_RRef_write 56 = .ok (.imul, 1) := by decide +kernel
theorem d_RRef_write_57 : decode b_RRef_write 57 = .ok (.iload_n 3, 1) := by decide +kernel
theorem d_RRef_write_58 : decode b_RRef_write 58 = .ok (.iadd, 1) := by decide +kernel
theorem d_RRef_write_59 : decode b_RRef_write 59 = .ok (.aload_n 0, 1) := by decide +kernel
theorem d_RRef_write_60 : decode b_RRef_write 60 = .ok (.getfield 69, 3) := by decide +kernel
theorem d_RRef_write_63 : decode b_RRef_write 63 = .ok (.iload_n 2, 1) := by decide +kernel
theorem d_RRef_write_64 : decode b_RRef_write 64 = .ok (.iload_n 3, 1) := by decide +kernel
theorem d_RRef_write_65 : decode b_RRef_write 65 = .ok (.iadd, 1) := by decide +kernel
theorem d_RRef_write_66 : decode b_RRef_write 66 = .ok (.baload, 1) := by decide +kernel
theorem d_RRef_write_67 : decode b_RRef_write 67 = .ok (.bastore, 1) := by decide +kernel
theorem d_RRef_write_68 : decode b_RRef_write 68 = .ok (.aload_n 0, 1) := by decide +kernel
theorem d_RRef_write_69 : decode b_RRef_write 69 = .ok (.dup, 1) := by decide +kernel
theorem d_RRef_write_70 : decode b_RRef_write 70 = .ok (.getfield 92, 3) := by decide +kernel
theorem d_RRef_write_73 : decode b_RRef_write 73 = .ok (.iconst 1, 1) := by decide +kernel
theorem d_RRef_write_74 : decode b_RRef_write 74 = .ok (.iadd, 1) := by decide +kernel
theorem d_RRef_write_75 : decode b_RRef_write 75 = .ok (.putfield 92, 3) := by decide +kernel
theorem d_RRef_write_78 : decode b_RRef_write 78 = .ok (.iinc 3 1, 3) := by decide +kernel
theorem d_RRef_write_81 : decode b_RRef_write 81 = .ok (.goto (-79), 3) := by decide +kernel
theorem d_RRef_write_84 : decode b_RRef_write 84 = .ok (.iconst 1, 1) := by decide +kernel
theorem d_RRef_write_85 : decode b_RRef_write 85 = .ok (.ireturn, 1) := by decide +kernel
theorem d_RRef_writeAll_0 : decode b_RRef_writeAll 0 = .ok (.iconst 1, 1) := by decide +kernel
theorem d_RRef_writeAll_1 : decode b_RRef_writeAll 1 = .ok (.istore_n 3, 1) := by decide +kernel
theorem d_RRef_writeAll_2 : decode b_RRef_writeAll 2 = .ok (.iconst 1, 1) := by decide +kernel
theorem d_RRef_writeAll_3 : decode b_RRef_writeAll 3 = .ok (.istore 4, 2) := by decide +kernel
theorem d_RRef_writeAll_5 : decode b_RRef_writeAll 5 = .ok (.iload 4, 2) := by decide +kernel
theorem d_RRef_writeAll_7 : decode b_RRef_writeAll 7 = .ok (.iload_n 2, 1) := by decide +kernel
theorem d_RRef_writeAll_8 : decode b_RRef_writeAll 8 = .ok (.if_icmp .ge 27, 3) := by decide +kernel
theorem d_RRef_writeAll_11 : decode b_RRef_writeAll 11 = .ok (.iload_n 3, 1) := by decide +kernel
theorem d_RRef_writeAll_12 : decode b_RRef_writeAll 12 = .ok (.ifCond .eq 23, 3) := by decide +kernel
theorem d_RRef_writeAll_15 : decode b_RRef_writeAll 15 = .ok (.aload_n 0, 1) := by decide +kernel
theorem d_RRef_writeAll_16 : decode b_RRef_writeAll 16 = .ok (.iload_n 1, 1) := by decide +kernel
theorem d_RRef_writeAll_17 : decode b_RRef_writeAll 17 = .ok (.iload 4, 2) := by decide +kernel
theorem d_RRef_writeAll_19 : decode b_RRef_writeAll 19 = .ok (.iadd, 1) := by decide +kernel
theorem d_RRef_writeAll_20 : decode b_RRef_writeAll 20 = .ok (.bipush 32, 2) := by decide +kernel
theorem d_RRef_writeAll_22 : decode b_RRef_writeAll 22 = .ok (.iload 4, 2) := by decide +kernel
theorem d_RRef_writeAll_24 : decode b_RRef_writeAll 24 = .ok (.imul, 1) := by decide +kernel
theorem d_RRef_writeAll_25 : decode b_RRef_writeAll 25 = .ok (.invokevirtual 95, 3) := by decide +kernel
theorem d_RRef_writeAll_28 : decode b_RRef_writeAll 28 = .ok (.istore_n 3, 1) := by decide +kernel
theorem d_RRef_writeAll_29 : decode b_RRef_writeAll 29 = .ok (.iinc 4 1, 3) := by decide +kernel
theorem d_RRef_writeAll_32 : decode b_RRef_writeAll 32 = .ok (.goto (-27), 3) := by decide +kernel
theorem d_RRef_writeAll_35 : decode b_RRef_writeAll 35 = .ok (.iload_n 3, 1) := by decide +kernel
theorem d_RRef_writeAll_36 : decode b_RRef_writeAll 36 = .ok (.ifCond .eq 16, 3) := by decide +kernel
theorem d_RRef_writeAll_39 : decode b_RRef_writeAll 39 = .ok (.aload_n 0, 1) := by decide +kernel
theorem d_RRef_writeAll_40 : decode b_RRef_writeAll 40 = .ok (.iload_n 1, 1) := by decide +kernel
theorem d_RRef_writeAll_41 : decode b_RRef_writeAll 41 = .ok (.iconst 0, 1) := by decide +kernel
theorem d_RRef_writeAll_42 : decode b_RRef_writeAll 42 = .ok (.invokevirtual 95, 3) := by decide +kernel
theorem d_RRef_writeAll_45 : decode b_RRef_writeAll 45 = .ok (.ifCond .eq 7, 3) := by decide +kernel
theorem d_RRef_writeAll_48 : decode b_RRef_writeAll 48 = .ok (.iconst 1, 1) := by decide +kernel
theorem d_RRef_writeAll_49 : decode b_RRef_writeAll 49 = .ok (.goto 4, 3) := by decide +kernel
theorem d_RRef_writeAll_52 : decode b_RRef_writeAll 52 = .ok (.iconst 0, 1) := by decide +kernel
theorem d_RRef_writeAll_53 : decode b_RRef_writeAll 53 = .ok (.ireturn, 1) := by decide +kernel
theorem d_RRef_writePart_0 : decode b_RRef_writePart 0 = .ok (.aload_n 0, 1) := by decide +kernel
theorem d_RRef_writePart_1 : decode b_RRef_writePart 1 = .ok (.invokevirtual 99, 3) := by decide +kernel
theorem d_RRef_writePart_4 : decode b_RRef_writePart 4 = .ok (.iconst 0, 1) := by decide +kernel
theorem d_RRef_writePart_5 : decode b_RRef_writePart 5 = .ok (.istore 8, 2) := by decide +kernel
theorem d_RRef_writePart_7 : decode b_RRef_writePart 7 = .ok (.iload 8, 2) := by decide +kernel
theorem d_RRef_writePart_9 : decode b_RRef_writePart 9 = .ok (.iload 6, 2) := by decide +kernel
theorem d_RRef_writePart_11 : decode b_RRef_writePart 11 = .ok (.if_icmp .ge 40, 3) := by decide +kernel
theorem d_RRef_writePart_14 : decode b_RRef_writePart 14 = .ok (.aload_n 0, 1) := by decide +kernel
theorem d_RRef_writePart_15 : decode b_RRef_writePart 15 = .ok (.getfield 69, 3) := by decide +kernel
theorem d_RRef_writePart_18 : decode b_RRef_writePart 18 = .ok (.bipush 32, 2) := by decide +kernel
theorem d_RRef_writePart_20 : decode b_RRef_writePart 20 = .ok (.iconst 1, 1) := by decide +kernel
theorem d_RRef_writePart_21 : decode b_RRef_writePart 21 = .ok (.iload 8, 2) := by decide +kernel
theorem d_RRef_writePart_23 : decode b_RRef_writePart 23 = .ok (.bipush 31, 2) := by decide +kernel
theorem d_RRef_writePart_25 : decode b_RRef_writePart 25 = .ok (.idiv, 1) := by decide +kernel
theorem d_RRef_writePart_26 : decode b_RRef_writePart 26 = .ok (.iadd, 1) := by decide +kernel
theorem d_RRef_writePart_27 : decode b_RRef_writePart 27 = .ok (.imul, 1) := by decide +kernel
theorem d_RRef_writePart_28 : decode b_RRef_writePart 28 = .ok (.iconst 1, 1) := by decide +kernel
theorem d_RRef_writePart_29 : decode b_RRef_writePart 29 = .ok (.iadd, 1) := by decide +kernel
theorem d_RRef_writePart_30 : decode b_RRef_writePart 30 = .ok (.iload 8, 2) := by decide +kernel
theorem d_RRef_writePart_32 : decode b_RRef_writePart 32 = .ok (.bipush 31, 2) := by decide +kernel
theorem d_RRef_writePart_34 : decode b_RRef_writePart 34 = .ok (.irem, 1) := by decide +kernel
theorem d_RRef_writePart_35 : decode b_RRef_writePart 35 = .ok (.iadd, 1) := by decide +kernel
theorem d_RRef_writePart_36 : decode b_RRef_writePart 36 = .ok (.aload 4, 2) := by decide +kernel
theorem d_RRef_writePart_38 : decode b_RRef_writePart 38 = .ok (.iload 5, 2) := by decide +kernel
theorem d_RRef_writePart_40 : decode b_RRef_writePart 40 = .ok (.iload 8, 2) := by decide +kernel
theorem d_RRef_writePart_42 : decode b_RRef_writePart 42 = .ok (.iadd, 1) := by decide +kernel
theorem d_RRef_writePart_43 : decode b_RRef_writePart 43 = .ok (.baload, 1) := by decide +kernel
theorem d_RRef_writePart_44 : decode b_RRef_writePart 44 = .ok (.bastore, 1) := by decide +kernel
theorem d_RRef_writePart_45 : decode b_RRef_writePart 45 = .ok (.iinc 8 1, 3) := by decide +kernel
theorem d_RRef_writePart_48 : decode b_RRef_writePart 48 = .ok (.goto (-41), 3) := by decide +kernel
theorem d_RRef_writePart_51 : decode b_RRef_writePart 51 = .ok (.iconst 1, 1) := by decide +kernel
theorem d_RRef_writePart_52 : decode b_RRef_writePart 52 = .ok (.istore 8, 2) := by decide +kernel
theorem d_RRef_writePart_54 : decode b_RRef_writePart 54 = .ok (.iload 8, 2) := by decide +kernel
theorem d_RRef_writePart_56 : decode b_RRef_writePart 56 = .ok (.iload 6, 2) := by decide +kernel
theorem d_RRef_writePart_58 : decode b_RRef_writePart 58 = .ok (.invokestatic 112, 3) := by decide +kernel
theorem d_RRef_writePart_61 : decode b_RRef_writePart 61 = .ok (.if_icmp .gt 20, 3) := by decide +kernel
theorem d_RRef_writePart_64 : decode b_RRef_writePart 64 = .ok (.aload_n 0, 1) := by decide +kernel
theorem d_RRef_writePart_65 : decode b_RRef_writePart 65 = .ok (.getfield 69, 3) := by decide +kernel
theorem d_RRef_writePart_68 : decode b_RRef_writePart 68 = .ok (.bipush 32, 2) := by decide +kernel
theorem d_RRef_writePart_70 : decode b_RRef_writePart 70 = .ok (.iload 8, 2) := by decide +kernel
theorem d_RRef_writePart_72 : decode b_RRef_writePart 72 = .ok (.imul, 1) := by decide +kernel
theorem d_RRef_writePart_73 : decode b_RRef_writePart 73 = .ok (.iconst 5, 1) := by decide +kernel
theorem d_RRef_writePart_74 : decode b_RRef_writePart 74 = .ok (.bastore, 1) := by decide +kernel
theorem d_RRef_writePart_75 : decode b_RRef_writePart 75 = .ok (.iinc 8 1, 3) := by decide +kernel
theorem d_RRef_writePart_78 : decode b_RRef_writePart 78 = .ok (.goto (-24), 3) := by decide +kernel
theorem d_RRef_writePart_81 : decode b_RRef_writePart 81 = .ok (.aload_n 0, 1) := by decide +kernel
theorem d_RRef_writePart_82 : decode b_RRef_writePart 82 = .ok (.getfield 69, 3) := by decide +kernel
theorem d_RRef_writePart_85 : decode b_RRef_writePart 85 = .ok (.iconst 0, 1) := by decide +kernel
theorem d_RRef_writePart_86 : decode b_RRef_writePart 86 = .ok (.iconst 1, 1) := by decide +kernel
theorem d_RRef_writePart_87 : decode b_RRef_writePart 87 = .ok (.bastore, 1) := by decide +kernel
theorem d_RRef_writePart_88 : decode b_RRef_writePart 88 = .ok (.aload_n 0, 1) := by decide +kernel
theorem d_RRef_writePart_89 : decode b_RRef_writePart 89 = .ok (.getfield 69, 3) := by decide +kernel
theorem d_RRef_writePart_92 : decode b_RRef_writePart 92 = .ok (.iconst 1, 1) := by decide +kernel
theorem d_RRef_writePart_93 : decode b_RRef_writePart 93 = .ok (.iload_n 1, 1) := by decide +kernel
theorem d_RRef_writePart_94 : decode b_RRef_writePart 94 = .ok (.i2b, 1) := by decide +kernel
theorem d_RRef_writePart_95 : decode b_RRef_writePart 95 = .ok (.bastore, 1) := by decide +kernel
theorem d_RRef_writePart_96 : decode b_RRef_writePart 96 = .ok (.aload_n 0, 1) := by decide +kernel
theorem d_RRef_writePart_97 : decode b_RRef_writePart 97 = .ok (.getfield 69, 3) := by decide +kernel
theorem d_RRef_writePart_100 : decode b_RRef_writePart 100 = .ok (.iconst 2, 1) := by decide +kernel
theorem d_RRef_writePart_101 : decode b_RRef_writePart 101 = .ok (.iconst 2, 1) := by decide +kernel
theorem d_RRef_writePart_102 : decode b_RRef_writePart 102 = .ok (.iload 6, 2) := by decide +kernel
theorem d_RRef_writePart_104 : decode b_RRef_writePart 104 = .ok (.i2l, 1) := by decide +kernel
theorem d_RRef_writePart_105 : decode b_RRef_writePart 105 = .ok (.invokestatic 102, 3) := by decide +kernel
theorem d_RRef_writePart_108 : decode b_RRef_writePart 108 = .ok (.aload_n 0, 1) := by decide +kernel
theorem d_RRef_writePart_109 : decode b_RRef_writePart 109 = .ok (.getfield 69, 3) := by decide +kernel
theorem d_RRef_writePart_112 : decode b_RRef_writePart 112 = .ok (.iconst 4, 1) := by decide +kernel
theorem d_RRef_writePart_113 : decode b_RRef_writePart 113 = .ok (.iconst 4, 1) := by decide +kernel
theorem d_RRef_writePart_114 : decode b_RRef_writePart 114 = .ok (.aload_n 0, 1) := by decide +kernel
theorem d_RRef_writePart_115 : decode b_RRef_writePart 115 = .ok (.getfield 147, 3) := by decide +kernel
theorem d_RRef_writePart_118 : decode b_RRef_writePart 118 = .ok (.iconst 1, 1) := by decide +kernel
theorem d_RRef_writePart_119 : decode b_RRef_writePart 119 = .ok (.iadd, 1) := by decide +kernel
theorem d_RRef_writePart_120 : decode b_RRef_writePart 120 = .ok (.i2l, 1) := by decide +kernel
theorem d_RRef_writePart_121 : decode b_RRef_writePart 121 = .ok (.invokestatic 102, 3) := by decide +kernel
theorem d_RRef_writePart_124 : decode b_RRef_writePart 124 = .ok (.aload_n 0, 1) := by decide +kernel
theorem d_RRef_writePart_125 : decode b_RRef_writePart 125 = .ok (.getfield 69, 3) := by decide +kernel
theorem d_RRef_writePart_128 : decode b_RRef_writePart 128 = .ok (.bipush 8, 2) := by decide +kernel
theorem d_RRef_writePart_130 : decode b_RRef_writePart 130 = .ok (.bipush 8, 2) := by decide +kernel
theorem d_RRef_writePart_132 : decode b_RRef_writePart 132 = .ok (.lload_n 2, 1) := by decide +kernel
theorem d_RRef_writePart_133 : decode b_RRef_writePart 133 = .ok (.invokestatic 102, 3) := by decide +kernel
theorem d_RRef_writePart_136 : decode b_RRef_writePart 136 = .ok (.aload_n 0, 1) := by decide +kernel
theorem d_RRef_writePart_137 : decode b_RRef_writePart 137 = .ok (.getfield 69, 3) := by decide +kernel
theorem d_RRef_writePart_140 : decode b_RRef_writePart 140 = .ok (.bipush 16, 2) := by decide +kernel
theorem d_RRef_writePart_142 : decode b_RRef_writePart 142 = .ok (.bipush 8, 2) := by decide +kernel
theorem d_RRef_writePart_144 : decode b_RRef_writePart 144 = .ok (.aload_n 0, 1) := by decide +kernel
theorem d_RRef_writePart_145 : decode b_RRef_writePart 145 = .ok (.getfield 69, 3) := by decide +kernel
theorem d_RRef_writePart_148 : decode b_RRef_writePart 148 = .ok (.bipush 32, 2) := by decide +kernel
theorem d_RRef_writePart_150 : decode b_RRef_writePart 150 = .ok (.bipush 32, 2) := by decide +kernel
theorem d_RRef_writePart_152 : decode b_RRef_writePart 152 = .ok (.iload 6, 2) := by decide +kernel
theorem d_RRef_writePart_154 : decode b_RRef_writePart 154 = .ok (.invokestatic 112, 3) := by decide +kernel
theorem d_RRef_writePart_157 : decode b_RRef_writePart 157 = .ok (.imul, 1) := by decide +kernel
theorem d_RRef_writePart_158 : decode b_RRef_writePart 158 = .ok (.invokestatic 89, 3) := by decide +kernel
theorem d_RRef_writePart_161 : decode b_RRef_writePart 161 = .ok (.invokestatic 102, 3) := by decide +kernel
theorem d_RRef_writePart_164 : decode b_RRef_writePart 164 = .ok (.aload_n 0, 1) := by decide +kernel
theorem d_RRef_writePart_165 : decode b_RRef_writePart 165 = .ok (.invokevirtual 179, 3) := by decide +kernel
theorem d_RRef_writePart_168 : decode b_RRef_writePart 168 = .ok (.aload_n 0, 1) := by decide +kernel
theorem d_RRef_writePart_169 : decode b_RRef_writePart 169 = .ok (.iload 7, 2) := by decide +kernel
theorem d_RRef_writePart_171 : decode b_RRef_writePart 171 = .ok (.iconst 1, 1) := by decide +kernel
theorem d_RRef_writePart_172 : decode b_RRef_writePart 172 = .ok (.iload 6, 2) := by decide +kernel
theorem d_RRef_writePart_174 : decode b_RRef_writePart 174 = .ok (.invokestatic 112, 3) := by decide +kernel
theorem d_RRef_writePart_177 : decode b_RRef_writePart 177 = .ok (.iadd, 1) := by decide +kernel
theorem d_RRef_writePart_178 : decode b_RRef_writePart 178 = .ok (.invokevirtual 182, 3) := by decide +kernel
theorem d_RRef_writePart_181 : decode b_RRef_writePart 181 = .ok (.ifCond .ne 6, 3) := by decide +kernel
theorem d_RRef_writePart_184 : decode b_RRef_writePart 184 = .ok (.bipush (-5), 2) := by decide +kernel
theorem d_RRef_writePart_186 : decode b_RRef_writePart 186 = .ok (.ireturn, 1) := by decide +kernel
theorem d_RRef_writePart_187 : decode b_RRef_writePart 187 = .ok (.aload_n 0, 1) := by decide +kernel
theorem d_RRef_writePart_188 : decode b_RRef_writePart 188 = .ok (.dup, 1) := by decide +kernel
theorem d_RRef_writePart_189 : decode b_RRef_writePart 189 = .ok (.getfield 147, 3) := by decide +kernel
theorem d_RRef_writePart_192 : decode b_RRef_writePart 192 = .ok (.iconst 1, 1) := by decide +kernel
theorem d_RRef_writePart_193 : decode b_RRef_writePart 193 = .ok (.iadd, 1) := by decide +kernel
theorem d_RRef_writePart_194 : decode b_RRef_writePart 194 = .ok (.putfield 147, 3) := by decide +kernel
theorem d_RRef_writePart_197 : decode b_RRef_writePart 197 = .ok (.aload_n 0, 1) := by decide +kernel
theorem d_RRef_writePart_198 : decode b_RRef_writePart 198 = .ok (.getfield 24, 3) := by decide +kernel
theorem d_RRef_writePart_201 : decode b_RRef_writePart 201 = .ok (.aload_n 0, 1) := by decide +kernel
theorem d_RRef_writePart_202 : decode b_RRef_writePart 202 = .ok (.getfield 106, 3) := by decide +kernel
theorem d_RRef_writePart_205 : decode b_RRef_writePart 205 = .ok (.aload_n 0, 1) := by decide +kernel
theorem d_RRef_writePart_206 : decode b_RRef_writePart 206 = .ok (.getfield 147, 3) := by decide +kernel
theorem d_RRef_writePart_209 : decode b_RRef_writePart 209 = .ok (.iastore, 1) := by decide +kernel
theorem d_RRef_writePart_210 : decode b_RRef_writePart 210 = .ok (.aload_n 0, 1) := by decide +kernel
theorem d_RRef_writePart_211 : decode b_RRef_writePart 211 = .ok (.getfield 28, 3) := by decide +kernel
theorem d_RRef_writePart_214 : decode b_RRef_writePart 214 = .ok (.aload_n 0, 1) := by decide +kernel
theorem d_RRef_writePart_215 : decode b_RRef_writePart 215 = .ok (.getfield 106, 3) := by decide +kernel
theorem d_RRef_writePart_218 : decode b_RRef_writePart 218 = .ok (.iload_n 1, 1) := by decide +kernel
theorem d_RRef_writePart_219 : decode b_RRef_writePart 219 = .ok (.iastore, 1) := by decide +kernel
theorem d_RRef_writePart_220 : decode b_RRef_writePart 220 = .ok (.aload_n 0, 1) := by decide +kernel
theorem d_RRef_writePart_221 : decode b_RRef_writePart 221 = .ok (.getfield 31, 3) := by decide +kernel
theorem d_RRef_writePart_224 : decode b_RRef_writePart 224 = .ok (.aload_n 0, 1) := by decide +kernel
theorem d_RRef_writePart_225 : decode b_RRef_writePart 225 = .ok (.getfield 106, 3) := by decide +kernel
theorem d_RRef_writePart_228 : decode b_RRef_writePart 228 = .ok (.lload_n 2, 1) := by decide +kernel
theorem d_RRef_writePart_229 : decode b_RRef_writePart 229 = .ok (.lastore, 1) := by decide +kernel
theorem d_RRef_writePart_230 : decode b_RRef_writePart 230 = .ok (.aload_n 0, 1) := by decide +kernel
theorem d_RRef_writePart_231 : decode b_RRef_writePart 231 = .ok (.getfield 35, 3) := by decide +kernel
theorem d_RRef_writePart_234 : decode b_RRef_writePart 234 = .ok (.aload_n 0, 1) := by decide +kernel
theorem d_RRef_writePart_235 : decode b_RRef_writePart 235 = .ok (.getfield 106, 3) := by decide +kernel
theorem d_RRef_writePart_238 : decode b_RRef_writePart 238 = .ok (.iload 6, 2) := by decide +kernel
theorem d_RRef_writePart_240 : decode b_RRef_writePart 240 = .ok (.iastore, 1) := by decide +kernel
theorem d_RRef_writePart_241 : decode b_RRef_writePart 241 = .ok (.aload_n 0, 1) := by decide +kernel
theorem d_RRef_writePart_242 : decode b_RRef_writePart 242 = .ok (.getfield 38, 3) := by decide +kernel
theorem d_RRef_writePart_245 : decode b_RRef_writePart 245 = .ok (.aload_n 0, 1) := by decide +kernel
theorem d_RRef_writePart_246 : decode b_RRef_writePart 246 = .ok (.getfield 106, 3) := by decide +kernel
theorem d_RRef_writePart_249 : decode b_RRef_writePart 249 = .ok (.iload 7, 2) := by decide +kernel
theorem d_RRef_writePart_251 : decode b_RRef_writePart 251 = .ok (.iastore, 1) := by decide +kernel
theorem d_RRef_writePart_252 : decode b_RRef_writePart 252 = .ok (.aload_n 0, 1) := by decide +kernel
theorem d_RRef_writePart_253 : decode b_RRef_writePart 253 = .ok (.dup, 1) := by decide +kernel
theorem d_RRef_writePart_254 : decode b_RRef_writePart 254 = .ok (.getfield 106, 3) := by decide +kernel
theorem d_RRef_writePart_257 : decode b_RRef_writePart 257 = .ok (.iconst 1, 1) := by decide +kernel
theorem d_RRef_writePart_258 : decode b_RRef_writePart 258 = .ok (.iadd, 1) := by decide +kernel
theorem d_RRef_writePart_259 : decode b_RRef_writePart 259 = .ok (.putfield 106, 3) := by decide +kernel
theorem d_RRef_writePart_262 : decode b_RRef_writePart 262 = .ok (.aload_n 0, 1) := by decide +kernel
theorem d_RRef_writePart_263 : decode b_RRef_writePart 263 = .ok (.getfield 147, 3) := by decide +kernel
theorem d_RRef_writePart_266 : decode b_RRef_writePart 266 = .ok (.ireturn, 1) := by decide +kernel

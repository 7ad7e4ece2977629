-- ClogHouseModel.flow()V
theorem d190_0 : decode (cm_M 190).2.2.1 0 = .ok (.lconst 0, 1) := by decide +kernel
theorem d190_1 : decode (cm_M 190).2.2.1 1 = .ok (.lstore_n 1, 1) := by decide +kernel
theorem d190_2 : decode (cm_M 190).2.2.1 2 = .ok (.iconst 0, 1) := by decide +kernel
theorem d190_3 : decode (cm_M 190).2.2.1 3 = .ok (.istore_n 3, 1) := by decide +kernel
theorem d190_4 : decode (cm_M 190).2.2.1 4 = .ok (.iload_n 3, 1) := by decide +kernel
theorem d190_5 : decode (cm_M 190).2.2.1 5 = .ok (.aload_n 0, 1) := by decide +kernel
theorem d190_6 : decode (cm_M 190).2.2.1 6 = .ok (.getfield 165, 3) := by decide +kernel
theorem d190_9 : decode (cm_M 190).2.2.1 9 = .ok (.if_icmp .ge 72, 3) := by decide +kernel
theorem d190_12 : decode (cm_M 190).2.2.1 12 = .ok (.aload_n 0, 1) := by decide +kernel
theorem d190_13 : decode (cm_M 190).2.2.1 13 = .ok (.getfield 111, 3) := by decide +kernel
theorem d190_16 : decode (cm_M 190).2.2.1 16 = .ok (.iload_n 3, 1) := by decide +kernel
theorem d190_17 : decode (cm_M 190).2.2.1 17 = .ok (.aload_n 0, 1) := by decide +kernel
theorem d190_18 : decode (cm_M 190).2.2.1 18 = .ok (.getfield 70, 3) := by decide +kernel
theorem d190_21 : decode (cm_M 190).2.2.1 21 = .ok (.iload_n 3, 1) := by decide +kernel
theorem d190_22 : decode (cm_M 190).2.2.1 22 = .ok (.baload, 1) := by decide +kernel
theorem d190_23 : decode (cm_M 190).2.2.1 23 = .ok (.ifCond .eq 11, 3) := by decide +kernel
theorem d190_26 : decode (cm_M 190).2.2.1 26 = .ok (.aload_n 0, 1) := by decide +kernel
theorem d190_27 : decode (cm_M 190).2.2.1 27 = .ok (.iload_n 3, 1) := by decide +kernel
theorem d190_28 : decode (cm_M 190).2.2.1 28 = .ok (.invokevirtual 333, 3) := by decide +kernel
theorem d190_31 : decode (cm_M 190).2.2.1 31 = .ok (.goto 4, 3) := by decide +kernel
theorem d190_34 : decode (cm_M 190).2.2.1 34 = .ok (.iconst 0, 1) := by decide +kernel
theorem d190_35 : decode (cm_M 190).2.2.1 35 = .ok (.iastore, 1) := by decide +kernel
theorem d190_36 : decode (cm_M 190).2.2.1 36 = .ok (.aload_n 0, 1) := by decide +kernel
theorem d190_37 : decode (cm_M 190).2.2.1 37 = .ok (.getfield 123, 3) := by decide +kernel
theorem d190_40 : decode (cm_M 190).2.2.1 40 = .ok (.iload_n 3, 1) := by decide +kernel
theorem d190_41 : decode (cm_M 190).2.2.1 41 = .ok (.aload_n 0, 1) := by decide +kernel
theorem d190_42 : decode (cm_M 190).2.2.1 42 = .ok (.getfield 70, 3) := by decide +kernel
theorem d190_45 : decode (cm_M 190).2.2.1 45 = .ok (.iload_n 3, 1) := by decide +kernel
theorem d190_46 : decode (cm_M 190).2.2.1 46 = .ok (.baload, 1) := by decide +kernel
theorem d190_47 : decode (cm_M 190).2.2.1 47 = .ok (.ifCond .eq 16, 3) := by decide +kernel
theorem d190_50 : decode (cm_M 190).2.2.1 50 = .ok (.aload_n 0, 1) := by decide +kernel
theorem d190_51 : decode (cm_M 190).2.2.1 51 = .ok (.iload_n 3, 1) := by decide +kernel
theorem d190_52 : decode (cm_M 190).2.2.1 52 = .ok (.invokevirtual 192, 3) := by decide +kernel
theorem d190_55 : decode (cm_M 190).2.2.1 55 = .ok (.iconst (-1), 1) := by decide +kernel
theorem d190_56 : decode (cm_M 190).2.2.1 56 = .ok (.if_icmp .ne 7, 3) := by decide +kernel
theorem d190_59 : decode (cm_M 190).2.2.1 59 = .ok (.iconst 1, 1) := by decide +kernel
theorem d190_60 : decode (cm_M 190).2.2.1 60 = .ok (.goto 4, 3) := by decide +kernel
theorem d190_63 : decode (cm_M 190).2.2.1 63 = .ok (.iconst 0, 1) := by decide +kernel
theorem d190_64 : decode (cm_M 190).2.2.1 64 = .ok (.bastore, 1) := by decide +kernel
theorem d190_65 : decode (cm_M 190).2.2.1 65 = .ok (.lload_n 1, 1) := by decide +kernel
theorem d190_66 : decode (cm_M 190).2.2.1 66 = .ok (.aload_n 0, 1) := by decide +kernel
theorem d190_67 : decode (cm_M 190).2.2.1 67 = .ok (.getfield 111, 3) := by decide +kernel
theorem d190_70 : decode (cm_M 190).2.2.1 70 = .ok (.iload_n 3, 1) := by decide +kernel
theorem d190_71 : decode (cm_M 190).2.2.1 71 = .ok (.iaload, 1) := by decide +kernel
theorem d190_72 : decode (cm_M 190).2.2.1 72 = .ok (.i2l, 1) := by decide +kernel
theorem d190_73 : decode (cm_M 190).2.2.1 73 = .ok (.ladd, 1) := by decide +kernel
theorem d190_74 : decode (cm_M 190).2.2.1 74 = .ok (.lstore_n 1, 1) := by decide +kernel
theorem d190_75 : decode (cm_M 190).2.2.1 75 = .ok (.iinc 3 1, 3) := by decide +kernel
theorem d190_78 : decode (cm_M 190).2.2.1 78 = .ok (.goto (-74), 3) := by decide +kernel
theorem d190_81 : decode (cm_M 190).2.2.1 81 = .ok (.aload_n 0, 1) := by decide +kernel
theorem d190_82 : decode (cm_M 190).2.2.1 82 = .ok (.getfield 319, 3) := by decide +kernel
theorem d190_85 : decode (cm_M 190).2.2.1 85 = .ok (.istore_n 3, 1) := by decide +kernel
theorem d190_86 : decode (cm_M 190).2.2.1 86 = .ok (.iconst 0, 1) := by decide +kernel
theorem d190_87 : decode (cm_M 190).2.2.1 87 = .ok (.istore 4, 2) := by decide +kernel
theorem d190_89 : decode (cm_M 190).2.2.1 89 = .ok (.iload 4, 2) := by decide +kernel
theorem d190_91 : decode (cm_M 190).2.2.1 91 = .ok (.aload_n 0, 1) := by decide +kernel
theorem d190_92 : decode (cm_M 190).2.2.1 92 = .ok (.getfield 165, 3) := by decide +kernel
theorem d190_95 : decode (cm_M 190).2.2.1 95 = .ok (.if_icmp .ge 53, 3) := by decide +kernel
theorem d190_98 : decode (cm_M 190).2.2.1 98 = .ok (.aload_n 0, 1) := by decide +kernel
theorem d190_99 : decode (cm_M 190).2.2.1 99 = .ok (.getfield 61, 3) := by decide +kernel
theorem d190_102 : decode (cm_M 190).2.2.1 102 = .ok (.iload 4, 2) := by decide +kernel
theorem d190_104 : decode (cm_M 190).2.2.1 104 = .ok (.lload_n 1, 1) := by decide +kernel
theorem d190_105 : decode (cm_M 190).2.2.1 105 = .ok (.lconst 0, 1) := by decide +kernel
theorem d190_106 : decode (cm_M 190).2.2.1 106 = .ok (.lcmp, 1) := by decide +kernel
theorem d190_107 : decode (cm_M 190).2.2.1 107 = .ok (.ifCond .ne 7, 3) := by decide +kernel
theorem d190_110 : decode (cm_M 190).2.2.1 110 = .ok (.iconst 0, 1) := by decide +kernel
theorem d190_111 : decode (cm_M 190).2.2.1 111 = .ok (.goto 20, 3) := by decide +kernel
theorem d190_114 : decode (cm_M 190).2.2.1 114 = .ok (.aload_n 0, 1) := by decide +kernel
theorem d190_115 : decode (cm_M 190).2.2.1 115 = .ok (.getfield 319, 3) := by decide +kernel
theorem d190_118 : decode (cm_M 190).2.2.1 118 = .ok (.i2l, 1) := by decide +kernel
theorem d190_119 : decode (cm_M 190).2.2.1 119 = .ok (.aload_n 0, 1) := by decide +kernel
theorem d190_120 : decode (cm_M 190).2.2.1 120 = .ok (.getfield 111, 3) := by decide +kernel
theorem d190_123 : decode (cm_M 190).2.2.1 123 = .ok (.iload 4, 2) := by decide +kernel
theorem d190_125 : decode (cm_M 190).2.2.1 125 = .ok (.iaload, 1) := by decide +kernel
theorem d190_126 : decode (cm_M 190).2.2.1 126 = .ok (.i2l, 1) := by decide +kernel
theorem d190_127 : decode (cm_M 190).2.2.1 127 = .ok (.lmul, 1) := by decide +kernel
theorem d190_128 : decode (cm_M 190).2.2.1 128 = .ok (.lload_n 1, 1) := by decide +kernel
theorem d190_129 : decode (cm_M 190).2.2.1 129 = .ok (.ldiv, 1) := by decide +kernel
theorem d190_130 : decode (cm_M 190).2.2.1 130 = .ok (.l2i, 1) := by decide +kernel
theorem d190_131 : decode (cm_M 190).2.2.1 131 = .ok (.iastore, 1) := by decide +kernel
theorem d190_132 : decode (cm_M 190).2.2.1 132 = .ok (.iload_n 3, 1) := by decide +kernel
theorem d190_133 : decode (cm_M 190).2.2.1 133 = .ok (.aload_n 0, 1) := by decide +kernel
theorem d190_134 : decode (cm_M 190).2.2.1 134 = .ok (.getfield 61, 3) := by decide +kernel
theorem d190_137 : decode (cm_M 190).2.2.1 137 = .ok (.iload 4, 2) := by decide +kernel
theorem d190_139 : decode (cm_M 190).2.2.1 139 = .ok (.iaload, 1) := by decide +kernel
theorem d190_140 : decode (cm_M 190).2.2.1 140 = .ok (.isub, 1) := by decide +kernel
theorem d190_141 : decode (cm_M 190).2.2.1 141 = .ok (.istore_n 3, 1) := by decide +kernel
theorem d190_142 : decode (cm_M 190).2.2.1 142 = .ok (.iinc 4 1, 3) := by decide +kernel
theorem d190_145 : decode (cm_M 190).2.2.1 145 = .ok (.goto (-56), 3) := by decide +kernel
theorem d190_148 : decode (cm_M 190).2.2.1 148 = .ok (.iconst 0, 1) := by decide +kernel
theorem d190_149 : decode (cm_M 190).2.2.1 149 = .ok (.istore 4, 2) := by decide +kernel
theorem d190_151 : decode (cm_M 190).2.2.1 151 = .ok (.iload 4, 2) := by decide +kernel
theorem d190_153 : decode (cm_M 190).2.2.1 153 = .ok (.aload_n 0, 1) := by decide +kernel
theorem d190_154 : decode (cm_M 190).2.2.1 154 = .ok (.getfield 165, 3) := by decide +kernel
theorem d190_157 : decode (cm_M 190).2.2.1 157 = .ok (.if_icmp .ge 43, 3) := by decide +kernel
theorem d190_160 : decode (cm_M 190).2.2.1 160 = .ok (.lload_n 1, 1) := by decide +kernel
theorem d190_161 : decode (cm_M 190).2.2.1 161 = .ok (.lconst 0, 1) := by decide +kernel
theorem d190_162 : decode (cm_M 190).2.2.1 162 = .ok (.lcmp, 1) := by decide +kernel
theorem d190_163 : decode (cm_M 190).2.2.1 163 = .ok (.ifCond .le 37, 3) := by decide +kernel
theorem d190_166 : decode (cm_M 190).2.2.1 166 = .ok (.aload_n 0, 1) := by decide +kernel
theorem d190_167 : decode (cm_M 190).2.2.1 167 = .ok (.getfield 111, 3) := by decide +kernel
theorem d190_170 : decode (cm_M 190).2.2.1 170 = .ok (.iload 4, 2) := by decide +kernel
theorem d190_172 : decode (cm_M 190).2.2.1 172 = .ok (.iaload, 1) := by decide +kernel
theorem d190_173 : decode (cm_M 190).2.2.1 173 = .ok (.ifCond .le 21, 3) := by decide +kernel
theorem d190_176 : decode (cm_M 190).2.2.1 176 = .ok (.iload_n 3, 1) := by decide +kernel
theorem d190_177 : decode (cm_M 190).2.2.1 177 = .ok (.ifCond .le 17, 3) := by decide +kernel
theorem d190_180 : decode (cm_M 190).2.2.1 180 = .ok (.aload_n 0, 1) := by decide +kernel
theorem d190_181 : decode (cm_M 190).2.2.1 181 = .ok (.getfield 61, 3) := by decide +kernel
theorem d190_184 : decode (cm_M 190).2.2.1 184 = .ok (.iload 4, 2) := by decide +kernel
theorem d190_186 : decode (cm_M 190).2.2.1 186 = .ok (.dup2, 1) := by decide +kernel
theorem d190_187 : decode (cm_M 190).2.2.1 187 = .ok (.iaload, 1) := by decide +kernel
theorem d190_188 : decode (cm_M 190).2.2.1 188 = .ok (.iconst 1, 1) := by decide +kernel
theorem d190_189 : decode (cm_M 190).2.2.1 189 = .ok (.iadd, 1) := by decide +kernel
theorem d190_190 : decode (cm_M 190).2.2.1 190 = .ok (.iastore, 1) := by decide +kernel
theorem d190_191 : decode (cm_M 190).2.2.1 191 = .ok (.iinc 3 (-1), 3) := by decide +kernel
theorem d190_194 : decode (cm_M 190).2.2.1 194 = .ok (.iinc 4 1, 3) := by decide +kernel
theorem d190_197 : decode (cm_M 190).2.2.1 197 = .ok (.goto (-46), 3) := by decide +kernel
theorem d190_200 : decode (cm_M 190).2.2.1 200 = .ok (.iconst 0, 1) := by decide +kernel
theorem d190_201 : decode (cm_M 190).2.2.1 201 = .ok (.istore 4, 2) := by decide +kernel
theorem d190_203 : decode (cm_M 190).2.2.1 203 = .ok (.iload 4, 2) := by decide +kernel
theorem d190_205 : decode (cm_M 190).2.2.1 205 = .ok (.aload_n 0, 1) := by decide +kernel
theorem d190_206 : decode (cm_M 190).2.2.1 206 = .ok (.getfield 165, 3) := by decide +kernel
theorem d190_209 : decode (cm_M 190).2.2.1 209 = .ok (.if_icmp .ge 45, 3) := by decide +kernel
theorem d190_212 : decode (cm_M 190).2.2.1 212 = .ok (.aload_n 0, 1) := by decide +kernel
theorem d190_213 : decode (cm_M 190).2.2.1 213 = .ok (.getfield 61, 3) := by decide +kernel
theorem d190_216 : decode (cm_M 190).2.2.1 216 = .ok (.iload 4, 2) := by decide +kernel
theorem d190_218 : decode (cm_M 190).2.2.1 218 = .ok (.iaload, 1) := by decide +kernel
theorem d190_219 : decode (cm_M 190).2.2.1 219 = .ok (.ifCond .le 29, 3) := by decide +kernel
theorem d190_222 : decode (cm_M 190).2.2.1 222 = .ok (.aload_n 0, 1) := by decide +kernel
theorem d190_223 : decode (cm_M 190).2.2.1 223 = .ok (.getfield 64, 3) := by decide +kernel
theorem d190_226 : decode (cm_M 190).2.2.1 226 = .ok (.iload 4, 2) := by decide +kernel
theorem d190_228 : decode (cm_M 190).2.2.1 228 = .ok (.aload_n 0, 1) := by decide +kernel
theorem d190_229 : decode (cm_M 190).2.2.1 229 = .ok (.iload 4, 2) := by decide +kernel
theorem d190_231 : decode (cm_M 190).2.2.1 231 = .ok (.aload_n 0, 1) := by decide +kernel
theorem d190_232 : decode (cm_M 190).2.2.1 232 = .ok (.getfield 61, 3) := by decide +kernel
theorem d190_235 : decode (cm_M 190).2.2.1 235 = .ok (.iload 4, 2) := by decide +kernel
theorem d190_237 : decode (cm_M 190).2.2.1 237 = .ok (.iaload, 1) := by decide +kernel
theorem d190_238 : decode (cm_M 190).2.2.1 238 = .ok (.invokevirtual 206, 3) := by decide +kernel
theorem d190_241 : decode (cm_M 190).2.2.1 241 = .ok (.iastore, 1) := by decide +kernel
theorem d190_242 : decode (cm_M 190).2.2.1 242 = .ok (.aload_n 0, 1) := by decide +kernel
theorem d190_243 : decode (cm_M 190).2.2.1 243 = .ok (.iload 4, 2) := by decide +kernel
theorem d190_245 : decode (cm_M 190).2.2.1 245 = .ok (.invokevirtual 336, 3) := by decide +kernel
theorem d190_248 : decode (cm_M 190).2.2.1 248 = .ok (.iinc 4 1, 3) := by decide +kernel
theorem d190_251 : decode (cm_M 190).2.2.1 251 = .ok (.goto (-48), 3) := by decide +kernel
theorem d190_254 : decode (cm_M 190).2.2.1 254 = .ok (.iconst (-1), 1) := by decide +kernel
theorem d190_255 : decode (cm_M 190).2.2.1 255 = .ok (.istore 4, 2) := by decide +kernel
theorem d190_257 : decode (cm_M 190).2.2.1 257 = .ok (.iconst 0, 1) := by decide +kernel
theorem d190_258 : decode (cm_M 190).2.2.1 258 = .ok (.istore 5, 2) := by decide +kernel
theorem d190_260 : decode (cm_M 190).2.2.1 260 = .ok (.iload 5, 2) := by decide +kernel
theorem d190_262 : decode (cm_M 190).2.2.1 262 = .ok (.aload_n 0, 1) := by decide +kernel
theorem d190_263 : decode (cm_M 190).2.2.1 263 = .ok (.getfield 165, 3) := by decide +kernel
theorem d190_266 : decode (cm_M 190).2.2.1 266 = .ok (.if_icmp .ge 44, 3) := by decide +kernel
theorem d190_269 : decode (cm_M 190).2.2.1 269 = .ok (.aload_n 0, 1) := by decide +kernel
theorem d190_270 : decode (cm_M 190).2.2.1 270 = .ok (.getfield 67, 3) := by decide +kernel
theorem d190_273 : decode (cm_M 190).2.2.1 273 = .ok (.iload 5, 2) := by decide +kernel
theorem d190_275 : decode (cm_M 190).2.2.1 275 = .ok (.iconst 0, 1) := by decide +kernel
theorem d190_276 : decode (cm_M 190).2.2.1 276 = .ok (.iastore, 1) := by decide +kernel
theorem d190_277 : decode (cm_M 190).2.2.1 277 = .ok (.aload_n 0, 1) := by decide +kernel
theorem d190_278 : decode (cm_M 190).2.2.1 278 = .ok (.getfield 114, 3) := by decide +kernel
theorem d190_281 : decode (cm_M 190).2.2.1 281 = .ok (.iload 5, 2) := by decide +kernel
theorem d190_283 : decode (cm_M 190).2.2.1 283 = .ok (.iconst 0, 1) := by decide +kernel
theorem d190_284 : decode (cm_M 190).2.2.1 284 = .ok (.iastore, 1) := by decide +kernel
theorem d190_285 : decode (cm_M 190).2.2.1 285 = .ok (.aload_n 0, 1) := by decide +kernel
theorem d190_286 : decode (cm_M 190).2.2.1 286 = .ok (.getfield 61, 3) := by decide +kernel
theorem d190_289 : decode (cm_M 190).2.2.1 289 = .ok (.iload 5, 2) := by decide +kernel
theorem d190_291 : decode (cm_M 190).2.2.1 291 = .ok (.iaload, 1) := by decide +kernel
theorem d190_292 : decode (cm_M 190).2.2.1 292 = .ok (.ifCond .le 8, 3) := by decide +kernel
theorem d190_295 : decode (cm_M 190).2.2.1 295 = .ok (.iload 5, 2) := by decide +kernel
theorem d190_297 : decode (cm_M 190).2.2.1 297 = .ok (.goto 5, 3) := by decide +kernel
theorem d190_300 : decode (cm_M 190).2.2.1 300 = .ok (.iload 4, 2) := by decide +kernel
theorem d190_302 : decode (cm_M 190).2.2.1 302 = .ok (.istore 4, 2) := by decide +kernel
theorem d190_304 : decode (cm_M 190).2.2.1 304 = .ok (.iinc 5 1, 3) := by decide +kernel
theorem d190_307 : decode (cm_M 190).2.2.1 307 = .ok (.goto (-47), 3) := by decide +kernel
theorem d190_310 : decode (cm_M 190).2.2.1 310 = .ok (.iconst 0, 1) := by decide +kernel
theorem d190_311 : decode (cm_M 190).2.2.1 311 = .ok (.istore 5, 2) := by decide +kernel
theorem d190_313 : decode (cm_M 190).2.2.1 313 = .ok (.iload 5, 2) := by decide +kernel
theorem d190_315 : decode (cm_M 190).2.2.1 315 = .ok (.bipush 8, 2) := by decide +kernel
theorem d190_317 : decode (cm_M 190).2.2.1 317 = .ok (.if_icmp .ge 43, 3) := by decide +kernel
theorem d190_320 : decode (cm_M 190).2.2.1 320 = .ok (.aload_n 0, 1) := by decide +kernel
theorem d190_321 : decode (cm_M 190).2.2.1 321 = .ok (.iload 5, 2) := by decide +kernel
theorem d190_323 : decode (cm_M 190).2.2.1 323 = .ok (.iconst 0, 1) := by decide +kernel
theorem d190_324 : decode (cm_M 190).2.2.1 324 = .ok (.aload_n 0, 1) := by decide +kernel
theorem d190_325 : decode (cm_M 190).2.2.1 325 = .ok (.getfield 95, 3) := by decide +kernel
theorem d190_328 : decode (cm_M 190).2.2.1 328 = .ok (.iload 5, 2) := by decide +kernel
theorem d190_330 : decode (cm_M 190).2.2.1 330 = .ok (.iaload, 1) := by decide +kernel
theorem d190_331 : decode (cm_M 190).2.2.1 331 = .ok (.invokevirtual 338, 3) := by decide +kernel
theorem d190_334 : decode (cm_M 190).2.2.1 334 = .ok (.iload 4, 2) := by decide +kernel
theorem d190_336 : decode (cm_M 190).2.2.1 336 = .ok (.iconst (-1), 1) := by decide +kernel
theorem d190_337 : decode (cm_M 190).2.2.1 337 = .ok (.if_icmp .ne 17, 3) := by decide +kernel
theorem d190_340 : decode (cm_M 190).2.2.1 340 = .ok (.aload_n 0, 1) := by decide +kernel
theorem d190_341 : decode (cm_M 190).2.2.1 341 = .ok (.iload 5, 2) := by decide +kernel
theorem d190_343 : decode (cm_M 190).2.2.1 343 = .ok (.iconst 2, 1) := by decide +kernel
theorem d190_344 : decode (cm_M 190).2.2.1 344 = .ok (.aload_n 0, 1) := by decide +kernel
theorem d190_345 : decode (cm_M 190).2.2.1 345 = .ok (.getfield 95, 3) := by decide +kernel
theorem d190_348 : decode (cm_M 190).2.2.1 348 = .ok (.iload 5, 2) := by decide +kernel
theorem d190_350 : decode (cm_M 190).2.2.1 350 = .ok (.iaload, 1) := by decide +kernel
theorem d190_351 : decode (cm_M 190).2.2.1 351 = .ok (.invokevirtual 338, 3) := by decide +kernel
theorem d190_354 : decode (cm_M 190).2.2.1 354 = .ok (.iinc 5 1, 3) := by decide +kernel
theorem d190_357 : decode (cm_M 190).2.2.1 357 = .ok (.goto (-44), 3) := by decide +kernel
theorem d190_360 : decode (cm_M 190).2.2.1 360 = .ok (.iconst 0, 1) := by decide +kernel
theorem d190_361 : decode (cm_M 190).2.2.1 361 = .ok (.istore 5, 2) := by decide +kernel
theorem d190_363 : decode (cm_M 190).2.2.1 363 = .ok (.iload 5, 2) := by decide +kernel
theorem d190_365 : decode (cm_M 190).2.2.1 365 = .ok (.iload 4, 2) := by decide +kernel
theorem d190_367 : decode (cm_M 190).2.2.1 367 = .ok (.if_icmp .gt 25, 3) := by decide +kernel
theorem d190_370 : decode (cm_M 190).2.2.1 370 = .ok (.aload_n 0, 1) := by decide +kernel
theorem d190_371 : decode (cm_M 190).2.2.1 371 = .ok (.getfield 61, 3) := by decide +kernel
theorem d190_374 : decode (cm_M 190).2.2.1 374 = .ok (.iload 5, 2) := by decide +kernel
theorem d190_376 : decode (cm_M 190).2.2.1 376 = .ok (.iaload, 1) := by decide +kernel
theorem d190_377 : decode (cm_M 190).2.2.1 377 = .ok (.ifCond .le 9, 3) := by decide +kernel
theorem d190_380 : decode (cm_M 190).2.2.1 380 = .ok (.aload_n 0, 1) := by decide +kernel
theorem d190_381 : decode (cm_M 190).2.2.1 381 = .ok (.iload 5, 2) := by decide +kernel
theorem d190_383 : decode (cm_M 190).2.2.1 383 = .ok (.invokevirtual 342, 3) := by decide +kernel
theorem d190_386 : decode (cm_M 190).2.2.1 386 = .ok (.iinc 5 1, 3) := by decide +kernel
theorem d190_389 : decode (cm_M 190).2.2.1 389 = .ok (.goto (-26), 3) := by decide +kernel
theorem d190_392 : decode (cm_M 190).2.2.1 392 = .ok (.iconst 0, 1) := by decide +kernel
theorem d190_393 : decode (cm_M 190).2.2.1 393 = .ok (.istore 5, 2) := by decide +kernel
theorem d190_395 : decode (cm_M 190).2.2.1 395 = .ok (.iload 5, 2) := by decide +kernel
theorem d190_397 : decode (cm_M 190).2.2.1 397 = .ok (.aload_n 0, 1) := by decide +kernel
theorem d190_398 : decode (cm_M 190).2.2.1 398 = .ok (.getfield 165, 3) := by decide +kernel
theorem d190_401 : decode (cm_M 190).2.2.1 401 = .ok (.if_icmp .ge 55, 3) := by decide +kernel
theorem d190_404 : decode (cm_M 190).2.2.1 404 = .ok (.aload_n 0, 1) := by decide +kernel
theorem d190_405 : decode (cm_M 190).2.2.1 405 = .ok (.getfield 64, 3) := by decide +kernel
theorem d190_408 : decode (cm_M 190).2.2.1 408 = .ok (.iload 5, 2) := by decide +kernel
theorem d190_410 : decode (cm_M 190).2.2.1 410 = .ok (.iconst 0, 1) := by decide +kernel
theorem d190_411 : decode (cm_M 190).2.2.1 411 = .ok (.aload_n 0, 1) := by decide +kernel
theorem d190_412 : decode (cm_M 190).2.2.1 412 = .ok (.getfield 64, 3) := by decide +kernel
theorem d190_415 : decode (cm_M 190).2.2.1 415 = .ok (.iload 5, 2) := by decide +kernel
theorem d190_417 : decode (cm_M 190).2.2.1 417 = .ok (.iaload, 1) := by decide +kernel
theorem d190_418 : decode (cm_M 190).2.2.1 418 = .ok (.invokestatic 172, 3) := by decide +kernel
theorem d190_421 : decode (cm_M 190).2.2.1 421 = .ok (.iastore, 1) := by decide +kernel
theorem d190_422 : decode (cm_M 190).2.2.1 422 = .ok (.aload_n 0, 1) := by decide +kernel
theorem d190_423 : decode (cm_M 190).2.2.1 423 = .ok (.getfield 49, 3) := by decide +kernel
theorem d190_426 : decode (cm_M 190).2.2.1 426 = .ok (.iload 5, 2) := by decide +kernel
theorem d190_428 : decode (cm_M 190).2.2.1 428 = .ok (.aload_n 0, 1) := by decide +kernel
theorem d190_429 : decode (cm_M 190).2.2.1 429 = .ok (.getfield 123, 3) := by decide +kernel
theorem d190_432 : decode (cm_M 190).2.2.1 432 = .ok (.iload 5, 2) := by decide +kernel
theorem d190_434 : decode (cm_M 190).2.2.1 434 = .ok (.baload, 1) := by decide +kernel
theorem d190_435 : decode (cm_M 190).2.2.1 435 = .ok (.ifCond .eq 7, 3) := by decide +kernel
theorem d190_438 : decode (cm_M 190).2.2.1 438 = .ok (.iconst 4, 1) := by decide +kernel
theorem d190_439 : decode (cm_M 190).2.2.1 439 = .ok (.goto 10, 3) := by decide +kernel
theorem d190_442 : decode (cm_M 190).2.2.1 442 = .ok (.aload_n 0, 1) := by decide +kernel
theorem d190_443 : decode (cm_M 190).2.2.1 443 = .ok (.getfield 49, 3) := by decide +kernel
theorem d190_446 : decode (cm_M 190).2.2.1 446 = .ok (.iload 5, 2) := by decide +kernel
theorem d190_448 : decode (cm_M 190).2.2.1 448 = .ok (.iaload, 1) := by decide +kernel
theorem d190_449 : decode (cm_M 190).2.2.1 449 = .ok (.iastore, 1) := by decide +kernel
theorem d190_450 : decode (cm_M 190).2.2.1 450 = .ok (.iinc 5 1, 3) := by decide +kernel
theorem d190_453 : decode (cm_M 190).2.2.1 453 = .ok (.goto (-58), 3) := by decide +kernel
theorem d190_456 : decode (cm_M 190).2.2.1 456 = .ok (.return_, 1) := by decide +kernel
theorem s190_0 {sc : cmS} {d : Nat} {h : cmH} {Q : Option Value → cmH → Prop} (u1 : Option Value) (u2 : Option Value) (u3 : Option Value) (u4 : Option Value) (u5 : Option Value) (H : cm_wp sc d 190 4 [some (.ref 38), some (.long (0 : Int64)), none, some (.int (0 : Int32)), u4, u5] [] h Q) : cm_wp sc d 190 0 [some (.ref 38), u1, u2, u3, u4, u5] [] h Q :=
  wl_lc (v := 0) d190_0 rfl (wl_st (ls' := [some (.ref 38), some (.long (0 : Int64)), none, u3, u4, u5]) d190_1 rfl rfl rfl rfl (wl_ic (v := 0) d190_2 rfl (wl_st (ls' := [some (.ref 38), some (.long (0 : Int64)), none, some (.int (0 : Int32)), u4, u5]) d190_3 rfl rfl rfl rfl (H))))
theorem s190_4 {sc : cmS} {d : Nat} {h : cmH} {Q : Option Value → cmH → Prop} (L : LY h) (y1 : Int64) (x3 : Int32) (u4 : Option Value) (u5 : Option Value) (H : ((((cm_I h 38 24) ≤ x3) → cm_wp sc (d + 1) 190 89 [some (.ref 38), some (.long y1), none, some (.int (cm_I h 38 48)), some (.int (0 : Int32)), u5] [] h Q) ∧ (¬ ((cm_I h 38 24) ≤ x3) → (IX 9 x3) ∧ ((((cm_I h 59 x3.toNatClampNeg) = 0) → cm_wp sc (d + 1) 190 35 [some (.ref 38), some (.long y1), none, some (.int x3), u4, u5] [.int (0 : Int32), .int x3, .ref 72] h Q) ∧ (¬ ((cm_I h 59 x3.toNatClampNeg) = 0) → cm_ci sc d 191 [.ref 38, .int x3] h (fun r h' => cm_wp sc (d + 1) 190 31 [some (.ref 38), some (.long y1), none, some (.int x3), u4, u5] [.int r, .int x3, .ref 72] h' Q)))))) : cm_wp sc (d + 1) 190 4 [some (.ref 38), some (.long y1), none, some (.int x3), u4, u5] [] h Q :=
  wl_st d190_4 rfl rfl rfl rfl (wl_st d190_5 rfl rfl rfl rfl (wl_gf (v := .int (cm_I h 38 24)) d190_6 pf11_165 (ly_k L 38 rfl) rfl (wl_cb (b := (cm_I h 38 24) ≤ x3) (off := 72) (tgt := 81) (pc3 := 12) (st' := []) d190_9 rfl rfl rfl rfl (by decide) rfl (fun c1 => wl_st d190_81 rfl rfl rfl rfl (wl_gf (v := .int (cm_I h 38 48)) d190_82 pf11_319 (ly_k L 38 rfl) rfl (wl_st (ls' := [some (.ref 38), some (.long y1), none, some (.int (cm_I h 38 48)), u4, u5]) d190_85 rfl rfl rfl rfl (wl_ic (v := 0) d190_86 rfl (wl_st (ls' := [some (.ref 38), some (.long y1), none, some (.int (cm_I h 38 48)), some (.int (0 : Int32)), u5]) d190_87 rfl rfl rfl rfl ((H.1 c1))))))) (fun c1 => wl_st d190_12 rfl rfl rfl rfl (wl_gr (b := 72) d190_13 pf11_111 (ly_k L 38 rfl) rfl (ly_r L 38 43 rfl) (wl_st d190_16 rfl rfl rfl rfl (wl_st d190_17 rfl rfl rfl rfl (wl_gr (b := 59) d190_18 pf11_70 (ly_k L 38 rfl) rfl (ly_r L 38 22 rfl) (wl_st d190_21 rfl rfl rfl rfl (And.elim (fun g2 g2k => wl_if (g := cm_ok h 15 59 x3) (st' := [.int (cm_I h 59 x3.toNatClampNeg), .int x3, .ref 72]) d190_22 rfl rfl rfl rfl (ly_o L 59 rfl g2) (wl_cb (b := (cm_I h 59 x3.toNatClampNeg) = 0) (off := 11) (tgt := 34) (pc3 := 26) (st' := [.int x3, .ref 72]) d190_23 rfl rfl rfl rfl (by decide) rfl (fun c3 => wl_ic (v := 0) d190_34 rfl ((g2k.1 c3))) (fun c3 => wl_st d190_26 rfl rfl rfl rfl (wl_st d190_27 rfl rfl rfl rfl (wl_ci d190_28 rfl rfl rfl pm11_333 (by decide) (ca_v (Or.inl rfl) rfl (Nat.le_of_ble_eq_true rfl) (Nat.le_of_ble_eq_true rfl) (ly_k L 38 rfl).2 (ly_k L 38 rfl).1 (by decide)) (g2k.2 c3)))))) (H.2 c1)))))))))))
theorem s190_31 {sc : cmS} {d : Nat} {h : cmH} {Q : Option Value → cmH → Prop} (y1 : Int64) (x3 : Int32) (u4 : Option Value) (u5 : Option Value) (sx0 : Int32) (sx1 : Int32) (H : cm_wp sc d 190 35 [some (.ref 38), some (.long y1), none, some (.int x3), u4, u5] [.int sx0, .int sx1, .ref 72] h Q) : cm_wp sc d 190 31 [some (.ref 38), some (.long y1), none, some (.int x3), u4, u5] [.int sx0, .int sx1, .ref 72] h Q :=
  wl_go (tgt := 35) d190_31 (by decide) (H)
theorem s190_35 {sc : cmS} {d : Nat} {h : cmH} {Q : Option Value → cmH → Prop} (L : LY h) (y1 : Int64) (x3 : Int32) (u4 : Option Value) (u5 : Option Value) (sx0 : Int32) (sx1 : Int32) (H : (IX 8 sx1) ∧ (IX 9 x3) ∧ ((((cm_I h 59 x3.toNatClampNeg) = 0) → cm_wp sc (d + 1) 190 63 [some (.ref 38), some (.long y1), none, some (.int x3), u4, u5] [.int x3, .ref 76] (cm_setI h 72 sx1.toNatClampNeg sx0) Q) ∧ (¬ ((cm_I h 59 x3.toNatClampNeg) = 0) → cm_ci sc d 144 [.ref 38, .int x3] (cm_setI h 72 sx1.toNatClampNeg sx0) (fun r h' => cm_wp sc (d + 1) 190 55 [some (.ref 38), some (.long y1), none, some (.int x3), u4, u5] [.int r, .int x3, .ref 76] h' Q)))) : cm_wp sc (d + 1) 190 35 [some (.ref 38), some (.long y1), none, some (.int x3), u4, u5] [.int sx0, .int sx1, .ref 72] h Q :=
  And.elim (fun g1 g1k => wl_if (h' := (cm_setI h 72 sx1.toNatClampNeg sx0)) d190_35 rfl rfl rfl rfl (ly_o L 72 rfl g1) (wl_st d190_36 rfl rfl rfl rfl (wl_gr (b := 76) d190_37 pf11_123 (ly_k L 38 rfl) rfl (ly_r L 38 47 rfl) (wl_st d190_40 rfl rfl rfl rfl (wl_st d190_41 rfl rfl rfl rfl (wl_gr (b := 59) d190_42 pf11_70 (ly_k L 38 rfl) rfl (ly_r L 38 22 rfl) (wl_st d190_45 rfl rfl rfl rfl (And.elim (fun g2 g2k => wl_if (g := cm_ok (cm_setI h 72 sx1.toNatClampNeg sx0) 15 59 x3) (st' := [.int (cm_I h 59 x3.toNatClampNeg), .int x3, .ref 76]) d190_46 rfl rfl rfl rfl (ly_o L 59 rfl g2) (wl_cb (b := (cm_I h 59 x3.toNatClampNeg) = 0) (off := 16) (tgt := 63) (pc3 := 50) (st' := [.int x3, .ref 76]) d190_47 rfl rfl rfl rfl (by decide) rfl (fun c3 => (g2k.1 c3)) (fun c3 => wl_st d190_50 rfl rfl rfl rfl (wl_st d190_51 rfl rfl rfl rfl (wl_ci d190_52 rfl rfl rfl pm11_192 (by decide) (ca_v (Or.inl rfl) rfl (Nat.le_of_ble_eq_true rfl) (Nat.le_of_ble_eq_true rfl) (ly_k L 38 rfl).2 (ly_k L 38 rfl).1 (by decide)) (g2k.2 c3)))))) g1k)))))))) H
theorem s190_55 {sc : cmS} {d : Nat} {h : cmH} {Q : Option Value → cmH → Prop} (y1 : Int64) (x3 : Int32) (u4 : Option Value) (u5 : Option Value) (sx0 : Int32) (sx1 : Int32) (H : (((¬ sx0 = (-1 : Int32)) → cm_wp sc d 190 63 [some (.ref 38), some (.long y1), none, some (.int x3), u4, u5] [.int sx1, .ref 76] h Q) ∧ (¬ (¬ sx0 = (-1 : Int32)) → cm_wp sc d 190 64 [some (.ref 38), some (.long y1), none, some (.int x3), u4, u5] [.int (1 : Int32), .int sx1, .ref 76] h Q))) : cm_wp sc d 190 55 [some (.ref 38), some (.long y1), none, some (.int x3), u4, u5] [.int sx0, .int sx1, .ref 76] h Q :=
  wl_ic (v := (-1)) d190_55 rfl (wl_cb (b := ¬ sx0 = (-1 : Int32)) (off := 7) (tgt := 63) (pc3 := 59) (st' := [.int sx1, .ref 76]) d190_56 rfl rfl rfl rfl (by decide) rfl (fun c1 => (H.1 c1)) (fun c1 => wl_ic (v := 1) d190_59 rfl (wl_go (tgt := 64) d190_60 (by decide) ((H.2 c1)))))
theorem s190_63 {sc : cmS} {d : Nat} {h : cmH} {Q : Option Value → cmH → Prop} (y1 : Int64) (x3 : Int32) (u4 : Option Value) (u5 : Option Value) (sx0 : Int32) (H : cm_wp sc d 190 64 [some (.ref 38), some (.long y1), none, some (.int x3), u4, u5] [.int (0 : Int32), .int sx0, .ref 76] h Q) : cm_wp sc d 190 63 [some (.ref 38), some (.long y1), none, some (.int x3), u4, u5] [.int sx0, .ref 76] h Q :=
  wl_ic (v := 0) d190_63 rfl (H)
theorem s190_64 {sc : cmS} {d : Nat} {h : cmH} {Q : Option Value → cmH → Prop} (L : LY h) (y1 : Int64) (x3 : Int32) (u4 : Option Value) (u5 : Option Value) (sx0 : Int32) (sx1 : Int32) (H : (IX 8 sx1) ∧ (IX 8 x3) ∧ cm_wp sc d 190 4 [some (.ref 38), some (.long (y1 + ((cm_I h 72 x3.toNatClampNeg).toInt64))), none, some (.int (x3 + 1)), u4, u5] [] (cm_setI h 76 sx1.toNatClampNeg (vp_nar .boolean sx0)) Q) : cm_wp sc d 190 64 [some (.ref 38), some (.long y1), none, some (.int x3), u4, u5] [.int sx0, .int sx1, .ref 76] h Q :=
  And.elim (fun g1 g1k => wl_if (h' := (cm_setI h 76 sx1.toNatClampNeg (vp_nar .boolean sx0))) d190_64 rfl rfl rfl rfl (ly_o L 76 rfl g1) (wl_st d190_65 rfl rfl rfl rfl (wl_st d190_66 rfl rfl rfl rfl (wl_gr (b := 72) d190_67 pf11_111 (ly_k L 38 rfl) rfl (ly_r L 38 43 rfl) (wl_st d190_70 rfl rfl rfl rfl (And.elim (fun g2 g2k => wl_if (g := cm_ok (cm_setI h 76 sx1.toNatClampNeg (vp_nar .boolean sx0)) 13 72 x3) (st' := [.int (cm_I h 72 x3.toNatClampNeg), .long y1]) d190_71 rfl rfl rfl rfl (ly_o L 72 rfl g2) (wl_st d190_72 rfl rfl rfl rfl (wl_st d190_73 rfl rfl rfl rfl (wl_st (ls' := [some (.ref 38), some (.long (y1 + ((cm_I h 72 x3.toNatClampNeg).toInt64))), none, some (.int x3), u4, u5]) d190_74 rfl rfl rfl rfl (wl_st (ls' := [some (.ref 38), some (.long (y1 + ((cm_I h 72 x3.toNatClampNeg).toInt64))), none, some (.int (x3 + 1)), u4, u5]) d190_75 rfl rfl rfl rfl (wl_go (tgt := 4) d190_78 (by decide) (g2k))))))) g1k)))))) H
theorem s190_89 {sc : cmS} {d : Nat} {h : cmH} {Q : Option Value → cmH → Prop} (L : LY h) (y1 : Int64) (x3 : Int32) (x4 : Int32) (u5 : Option Value) (H : ((((cm_I h 38 24) ≤ x4) → cm_wp sc d 190 151 [some (.ref 38), some (.long y1), none, some (.int x3), some (.int (0 : Int32)), u5] [] h Q) ∧ (¬ ((cm_I h 38 24) ≤ x4) → (((¬ (lg_cmp y1 (0 : Int64)) = 0) → (IX 8 x4) ∧ (¬ y1 = 0) ∧ cm_wp sc d 190 131 [some (.ref 38), some (.long y1), none, some (.int x3), some (.int x4), u5] [.int (((((cm_I h 38 48).toInt64) * ((cm_I h 72 x4.toNatClampNeg).toInt64)) / y1).toInt32), .int x4, .ref 56] h Q) ∧ (¬ (¬ (lg_cmp y1 (0 : Int64)) = 0) → cm_wp sc d 190 131 [some (.ref 38), some (.long y1), none, some (.int x3), some (.int x4), u5] [.int (0 : Int32), .int x4, .ref 56] h Q))))) : cm_wp sc d 190 89 [some (.ref 38), some (.long y1), none, some (.int x3), some (.int x4), u5] [] h Q :=
  wl_st d190_89 rfl rfl rfl rfl (wl_st d190_91 rfl rfl rfl rfl (wl_gf (v := .int (cm_I h 38 24)) d190_92 pf11_165 (ly_k L 38 rfl) rfl (wl_cb (b := (cm_I h 38 24) ≤ x4) (off := 53) (tgt := 148) (pc3 := 98) (st' := []) d190_95 rfl rfl rfl rfl (by decide) rfl (fun c1 => wl_ic (v := 0) d190_148 rfl (wl_st (ls' := [some (.ref 38), some (.long y1), none, some (.int x3), some (.int (0 : Int32)), u5]) d190_149 rfl rfl rfl rfl ((H.1 c1)))) (fun c1 => wl_st d190_98 rfl rfl rfl rfl (wl_gr (b := 56) d190_99 pf11_61 (ly_k L 38 rfl) rfl (ly_r L 38 19 rfl) (wl_st d190_102 rfl rfl rfl rfl (wl_st d190_104 rfl rfl rfl rfl (wl_lc (v := 0) d190_105 rfl (wl_st d190_106 rfl rfl rfl rfl (wl_cb (b := ¬ (lg_cmp y1 (0 : Int64)) = 0) (off := 7) (tgt := 114) (pc3 := 110) (st' := [.int x4, .ref 56]) d190_107 rfl rfl rfl rfl (by decide) rfl (fun c2 => wl_st d190_114 rfl rfl rfl rfl (wl_gf (v := .int (cm_I h 38 48)) d190_115 pf11_319 (ly_k L 38 rfl) rfl (wl_st d190_118 rfl rfl rfl rfl (wl_st d190_119 rfl rfl rfl rfl (wl_gr (b := 72) d190_120 pf11_111 (ly_k L 38 rfl) rfl (ly_r L 38 43 rfl) (wl_st d190_123 rfl rfl rfl rfl (And.elim (fun g3 g3k => wl_if (g := cm_ok h 13 72 x4) (st' := [.int (cm_I h 72 x4.toNatClampNeg), .long ((cm_I h 38 48).toInt64), .int x4, .ref 56]) d190_125 rfl rfl rfl rfl (ly_o L 72 rfl g3) (wl_st d190_126 rfl rfl rfl rfl (wl_st d190_127 rfl rfl rfl rfl (wl_st d190_128 rfl rfl rfl rfl (And.elim (fun g4 g4k => wl_ne (g := y1 = 0) d190_129 rfl rfl rfl rfl g4 (wl_st d190_130 rfl rfl rfl rfl (g4k))) g3k))))) ((H.2 c1).1 c2)))))))) (fun c2 => wl_ic (v := 0) d190_110 rfl (wl_go (tgt := 131) d190_111 (by decide) (((H.2 c1).2 c2))))))))))))))
theorem s190_131 {sc : cmS} {d : Nat} {h : cmH} {Q : Option Value → cmH → Prop} (L : LY h) (y1 : Int64) (x3 : Int32) (x4 : Int32) (u5 : Option Value) (sx0 : Int32) (sx1 : Int32) (H : (IX 9 sx1) ∧ (IX 9 x4) ∧ cm_wp sc d 190 89 [some (.ref 38), some (.long y1), none, some (.int (x3 - (cm_I (cm_setI h 56 sx1.toNatClampNeg sx0) 56 x4.toNatClampNeg))), some (.int (x4 + 1)), u5] [] (cm_setI h 56 sx1.toNatClampNeg sx0) Q) : cm_wp sc d 190 131 [some (.ref 38), some (.long y1), none, some (.int x3), some (.int x4), u5] [.int sx0, .int sx1, .ref 56] h Q :=
  And.elim (fun g1 g1k => wl_if (h' := (cm_setI h 56 sx1.toNatClampNeg sx0)) d190_131 rfl rfl rfl rfl (ly_o L 56 rfl g1) (wl_st d190_132 rfl rfl rfl rfl (wl_st d190_133 rfl rfl rfl rfl (wl_gr (b := 56) d190_134 pf11_61 (ly_k L 38 rfl) rfl (ly_r L 38 19 rfl) (wl_st d190_137 rfl rfl rfl rfl (And.elim (fun g2 g2k => wl_if (g := cm_ok (cm_setI h 56 sx1.toNatClampNeg sx0) 13 56 x4) (st' := [.int (cm_I (cm_setI h 56 sx1.toNatClampNeg sx0) 56 x4.toNatClampNeg), .int x3]) d190_139 rfl rfl rfl rfl (ly_o L 56 rfl g2) (wl_st d190_140 rfl rfl rfl rfl (wl_st (ls' := [some (.ref 38), some (.long y1), none, some (.int (x3 - (cm_I (cm_setI h 56 sx1.toNatClampNeg sx0) 56 x4.toNatClampNeg))), some (.int x4), u5]) d190_141 rfl rfl rfl rfl (wl_st (ls' := [some (.ref 38), some (.long y1), none, some (.int (x3 - (cm_I (cm_setI h 56 sx1.toNatClampNeg sx0) 56 x4.toNatClampNeg))), some (.int (x4 + 1)), u5]) d190_142 rfl rfl rfl rfl (wl_go (tgt := 89) d190_145 (by decide) (g2k)))))) g1k)))))) H
theorem s190_151 {sc : cmS} {d : Nat} {h : cmH} {Q : Option Value → cmH → Prop} (L : LY h) (y1 : Int64) (x3 : Int32) (x4 : Int32) (u5 : Option Value) (H : ((((cm_I h 38 24) ≤ x4) → cm_wp sc d 190 200 [some (.ref 38), some (.long y1), none, some (.int x3), some (.int x4), u5] [] h Q) ∧ (¬ ((cm_I h 38 24) ≤ x4) → ((((lg_cmp y1 (0 : Int64)) ≤ 0) → cm_wp sc d 190 200 [some (.ref 38), some (.long y1), none, some (.int x3), some (.int x4), u5] [] h Q) ∧ (¬ ((lg_cmp y1 (0 : Int64)) ≤ 0) → (IX 8 x4) ∧ ((((cm_I h 72 x4.toNatClampNeg) ≤ 0) → cm_wp sc d 190 194 [some (.ref 38), some (.long y1), none, some (.int x3), some (.int x4), u5] [] h Q) ∧ (¬ ((cm_I h 72 x4.toNatClampNeg) ≤ 0) → (((x3 ≤ 0) → cm_wp sc d 190 194 [some (.ref 38), some (.long y1), none, some (.int x3), some (.int x4), u5] [] h Q) ∧ (¬ (x3 ≤ 0) → (IX 9 x4) ∧ cm_wp sc d 190 194 [some (.ref 38), some (.long y1), none, some (.int (x3 + (-1))), some (.int x4), u5] [] (cm_setI h 56 x4.toNatClampNeg ((cm_I h 56 x4.toNatClampNeg) + (1 : Int32))) Q))))))))) : cm_wp sc d 190 151 [some (.ref 38), some (.long y1), none, some (.int x3), some (.int x4), u5] [] h Q :=
  wl_st d190_151 rfl rfl rfl rfl (wl_st d190_153 rfl rfl rfl rfl (wl_gf (v := .int (cm_I h 38 24)) d190_154 pf11_165 (ly_k L 38 rfl) rfl (wl_cb (b := (cm_I h 38 24) ≤ x4) (off := 43) (tgt := 200) (pc3 := 160) (st' := []) d190_157 rfl rfl rfl rfl (by decide) rfl (fun c1 => (H.1 c1)) (fun c1 => wl_st d190_160 rfl rfl rfl rfl (wl_lc (v := 0) d190_161 rfl (wl_st d190_162 rfl rfl rfl rfl (wl_cb (b := (lg_cmp y1 (0 : Int64)) ≤ 0) (off := 37) (tgt := 200) (pc3 := 166) (st' := []) d190_163 rfl rfl rfl rfl (by decide) rfl (fun c2 => ((H.2 c1).1 c2)) (fun c2 => wl_st d190_166 rfl rfl rfl rfl (wl_gr (b := 72) d190_167 pf11_111 (ly_k L 38 rfl) rfl (ly_r L 38 43 rfl) (wl_st d190_170 rfl rfl rfl rfl (And.elim (fun g3 g3k => wl_if (g := cm_ok h 13 72 x4) (st' := [.int (cm_I h 72 x4.toNatClampNeg)]) d190_172 rfl rfl rfl rfl (ly_o L 72 rfl g3) (wl_cb (b := (cm_I h 72 x4.toNatClampNeg) ≤ 0) (off := 21) (tgt := 194) (pc3 := 176) (st' := []) d190_173 rfl rfl rfl rfl (by decide) rfl (fun c4 => (g3k.1 c4)) (fun c4 => wl_st d190_176 rfl rfl rfl rfl (wl_cb (b := x3 ≤ 0) (off := 17) (tgt := 194) (pc3 := 180) (st' := []) d190_177 rfl rfl rfl rfl (by decide) rfl (fun c5 => ((g3k.2 c4).1 c5)) (fun c5 => wl_st d190_180 rfl rfl rfl rfl (wl_gr (b := 56) d190_181 pf11_61 (ly_k L 38 rfl) rfl (ly_r L 38 19 rfl) (wl_st d190_184 rfl rfl rfl rfl (wl_st d190_186 rfl rfl rfl rfl (And.elim (fun g6 g6k => wl_if (g := cm_ok h 13 56 x4) (st' := [.int (cm_I h 56 x4.toNatClampNeg), .int x4, .ref 56]) d190_187 rfl rfl rfl rfl (ly_o L 56 rfl g6) (wl_ic (v := 1) d190_188 rfl (wl_st d190_189 rfl rfl rfl rfl (wl_if (h' := (cm_setI h 56 x4.toNatClampNeg ((cm_I h 56 x4.toNatClampNeg) + (1 : Int32)))) d190_190 rfl rfl rfl rfl (ly_o L 56 rfl g6) (wl_st (ls' := [some (.ref 38), some (.long y1), none, some (.int (x3 + (-1))), some (.int x4), u5]) d190_191 rfl rfl rfl rfl (g6k)))))) ((g3k.2 c4).2 c5)))))))))) ((H.2 c1).2 c2))))))))))))
theorem s190_194 {sc : cmS} {d : Nat} {h : cmH} {Q : Option Value → cmH → Prop} (y1 : Int64) (x3 : Int32) (x4 : Int32) (u5 : Option Value) (H : cm_wp sc d 190 151 [some (.ref 38), some (.long y1), none, some (.int x3), some (.int (x4 + 1)), u5] [] h Q) : cm_wp sc d 190 194 [some (.ref 38), some (.long y1), none, some (.int x3), some (.int x4), u5] [] h Q :=
  wl_st (ls' := [some (.ref 38), some (.long y1), none, some (.int x3), some (.int (x4 + 1)), u5]) d190_194 rfl rfl rfl rfl (wl_go (tgt := 151) d190_197 (by decide) (H))
theorem s190_200 {sc : cmS} {d : Nat} {h : cmH} {Q : Option Value → cmH → Prop} (y1 : Int64) (x3 : Int32) (x4 : Int32) (u5 : Option Value) (H : cm_wp sc d 190 203 [some (.ref 38), some (.long y1), none, some (.int x3), some (.int (0 : Int32)), u5] [] h Q) : cm_wp sc d 190 200 [some (.ref 38), some (.long y1), none, some (.int x3), some (.int x4), u5] [] h Q :=
  wl_ic (v := 0) d190_200 rfl (wl_st (ls' := [some (.ref 38), some (.long y1), none, some (.int x3), some (.int (0 : Int32)), u5]) d190_201 rfl rfl rfl rfl (H))
theorem s190_203 {sc : cmS} {d : Nat} {h : cmH} {Q : Option Value → cmH → Prop} (L : LY h) (y1 : Int64) (x3 : Int32) (x4 : Int32) (u5 : Option Value) (H : ((((cm_I h 38 24) ≤ x4) → cm_wp sc (d + 1) 190 260 [some (.ref 38), some (.long y1), none, some (.int x3), some (.int (-1 : Int32)), some (.int (0 : Int32))] [] h Q) ∧ (¬ ((cm_I h 38 24) ≤ x4) → (IX 9 x4) ∧ ((((cm_I h 56 x4.toNatClampNeg) ≤ 0) → cm_wp sc (d + 1) 190 248 [some (.ref 38), some (.long y1), none, some (.int x3), some (.int x4), u5] [] h Q) ∧ (¬ ((cm_I h 56 x4.toNatClampNeg) ≤ 0) → cm_ci sc d 143 [.ref 38, .int x4, .int (cm_I h 56 x4.toNatClampNeg)] h (fun r h' => cm_wp sc (d + 1) 190 241 [some (.ref 38), some (.long y1), none, some (.int x3), some (.int x4), u5] [.int r, .int x4, .ref 57] h' Q)))))) : cm_wp sc (d + 1) 190 203 [some (.ref 38), some (.long y1), none, some (.int x3), some (.int x4), u5] [] h Q :=
  wl_st d190_203 rfl rfl rfl rfl (wl_st d190_205 rfl rfl rfl rfl (wl_gf (v := .int (cm_I h 38 24)) d190_206 pf11_165 (ly_k L 38 rfl) rfl (wl_cb (b := (cm_I h 38 24) ≤ x4) (off := 45) (tgt := 254) (pc3 := 212) (st' := []) d190_209 rfl rfl rfl rfl (by decide) rfl (fun c1 => wl_ic (v := (-1)) d190_254 rfl (wl_st (ls' := [some (.ref 38), some (.long y1), none, some (.int x3), some (.int (-1 : Int32)), u5]) d190_255 rfl rfl rfl rfl (wl_ic (v := 0) d190_257 rfl (wl_st (ls' := [some (.ref 38), some (.long y1), none, some (.int x3), some (.int (-1 : Int32)), some (.int (0 : Int32))]) d190_258 rfl rfl rfl rfl ((H.1 c1)))))) (fun c1 => wl_st d190_212 rfl rfl rfl rfl (wl_gr (b := 56) d190_213 pf11_61 (ly_k L 38 rfl) rfl (ly_r L 38 19 rfl) (wl_st d190_216 rfl rfl rfl rfl (And.elim (fun g2 g2k => wl_if (g := cm_ok h 13 56 x4) (st' := [.int (cm_I h 56 x4.toNatClampNeg)]) d190_218 rfl rfl rfl rfl (ly_o L 56 rfl g2) (wl_cb (b := (cm_I h 56 x4.toNatClampNeg) ≤ 0) (off := 29) (tgt := 248) (pc3 := 222) (st' := []) d190_219 rfl rfl rfl rfl (by decide) rfl (fun c3 => (g2k.1 c3)) (fun c3 => wl_st d190_222 rfl rfl rfl rfl (wl_gr (b := 57) d190_223 pf11_64 (ly_k L 38 rfl) rfl (ly_r L 38 20 rfl) (wl_st d190_226 rfl rfl rfl rfl (wl_st d190_228 rfl rfl rfl rfl (wl_st d190_229 rfl rfl rfl rfl (wl_st d190_231 rfl rfl rfl rfl (wl_gr (b := 56) d190_232 pf11_61 (ly_k L 38 rfl) rfl (ly_r L 38 19 rfl) (wl_st d190_235 rfl rfl rfl rfl (wl_if (g := cm_ok h 13 56 x4) (st' := [.int (cm_I h 56 x4.toNatClampNeg), .int x4, .ref 38, .int x4, .ref 57]) d190_237 rfl rfl rfl rfl (ly_o L 56 rfl g2) (wl_ci d190_238 rfl rfl rfl pm11_206 (by decide) (ca_v (Or.inl rfl) rfl (Nat.le_of_ble_eq_true rfl) (Nat.le_of_ble_eq_true rfl) (ly_k L 38 rfl).2 (ly_k L 38 rfl).1 (by decide)) (g2k.2 c3))))))))))))) (H.2 c1))))))))
theorem s190_241 {sc : cmS} {d : Nat} {h : cmH} {Q : Option Value → cmH → Prop} (L : LY h) (y1 : Int64) (x3 : Int32) (x4 : Int32) (u5 : Option Value) (sx0 : Int32) (sx1 : Int32) (H : (IX 9 sx1) ∧ cm_cv sc d 192 [.ref 38, .int x4] (cm_setI h 57 sx1.toNatClampNeg sx0) (fun h' => cm_wp sc (d + 1) 190 248 [some (.ref 38), some (.long y1), none, some (.int x3), some (.int x4), u5] [] h' Q)) : cm_wp sc (d + 1) 190 241 [some (.ref 38), some (.long y1), none, some (.int x3), some (.int x4), u5] [.int sx0, .int sx1, .ref 57] h Q :=
  And.elim (fun g1 g1k => wl_if (h' := (cm_setI h 57 sx1.toNatClampNeg sx0)) d190_241 rfl rfl rfl rfl (ly_o L 57 rfl g1) (wl_st d190_242 rfl rfl rfl rfl (wl_st d190_243 rfl rfl rfl rfl (wl_cv d190_245 rfl rfl rfl pm11_336 (by decide) (ca_v (Or.inl rfl) rfl (Nat.le_of_ble_eq_true rfl) (Nat.le_of_ble_eq_true rfl) (ly_k L 38 rfl).2 (ly_k L 38 rfl).1 (by decide)) g1k)))) H
theorem s190_248 {sc : cmS} {d : Nat} {h : cmH} {Q : Option Value → cmH → Prop} (y1 : Int64) (x3 : Int32) (x4 : Int32) (u5 : Option Value) (H : cm_wp sc d 190 203 [some (.ref 38), some (.long y1), none, some (.int x3), some (.int (x4 + 1)), u5] [] h Q) : cm_wp sc d 190 248 [some (.ref 38), some (.long y1), none, some (.int x3), some (.int x4), u5] [] h Q :=
  wl_st (ls' := [some (.ref 38), some (.long y1), none, some (.int x3), some (.int (x4 + 1)), u5]) d190_248 rfl rfl rfl rfl (wl_go (tgt := 203) d190_251 (by decide) (H))
theorem s190_260 {sc : cmS} {d : Nat} {h : cmH} {Q : Option Value → cmH → Prop} (L : LY h) (y1 : Int64) (x3 : Int32) (x4 : Int32) (x5 : Int32) (H : ((((cm_I h 38 24) ≤ x5) → cm_wp sc d 190 313 [some (.ref 38), some (.long y1), none, some (.int x3), some (.int x4), some (.int (0 : Int32))] [] h Q) ∧ (¬ ((cm_I h 38 24) ≤ x5) → (IX 9 x5) ∧ (IX 8 x5) ∧ ((((cm_I h 56 x5.toNatClampNeg) ≤ 0) → cm_wp sc d 190 302 [some (.ref 38), some (.long y1), none, some (.int x3), some (.int x4), some (.int x5)] [.int x4] (cm_setI (cm_setI h 58 x5.toNatClampNeg (0 : Int32)) 73 x5.toNatClampNeg (0 : Int32)) Q) ∧ (¬ ((cm_I h 56 x5.toNatClampNeg) ≤ 0) → cm_wp sc d 190 302 [some (.ref 38), some (.long y1), none, some (.int x3), some (.int x4), some (.int x5)] [.int x5] (cm_setI (cm_setI h 58 x5.toNatClampNeg (0 : Int32)) 73 x5.toNatClampNeg (0 : Int32)) Q))))) : cm_wp sc d 190 260 [some (.ref 38), some (.long y1), none, some (.int x3), some (.int x4), some (.int x5)] [] h Q :=
  wl_st d190_260 rfl rfl rfl rfl (wl_st d190_262 rfl rfl rfl rfl (wl_gf (v := .int (cm_I h 38 24)) d190_263 pf11_165 (ly_k L 38 rfl) rfl (wl_cb (b := (cm_I h 38 24) ≤ x5) (off := 44) (tgt := 310) (pc3 := 269) (st' := []) d190_266 rfl rfl rfl rfl (by decide) rfl (fun c1 => wl_ic (v := 0) d190_310 rfl (wl_st (ls' := [some (.ref 38), some (.long y1), none, some (.int x3), some (.int x4), some (.int (0 : Int32))]) d190_311 rfl rfl rfl rfl ((H.1 c1)))) (fun c1 => wl_st d190_269 rfl rfl rfl rfl (wl_gr (b := 58) d190_270 pf11_67 (ly_k L 38 rfl) rfl (ly_r L 38 21 rfl) (wl_st d190_273 rfl rfl rfl rfl (wl_ic (v := 0) d190_275 rfl (And.elim (fun g2 g2k => wl_if (h' := (cm_setI h 58 x5.toNatClampNeg (0 : Int32))) d190_276 rfl rfl rfl rfl (ly_o L 58 rfl g2) (wl_st d190_277 rfl rfl rfl rfl (wl_gr (b := 73) d190_278 pf11_114 (ly_k L 38 rfl) rfl (ly_r L 38 44 rfl) (wl_st d190_281 rfl rfl rfl rfl (wl_ic (v := 0) d190_283 rfl (And.elim (fun g3 g3k => wl_if (h' := (cm_setI (cm_setI h 58 x5.toNatClampNeg (0 : Int32)) 73 x5.toNatClampNeg (0 : Int32))) d190_284 rfl rfl rfl rfl (ly_o L 73 rfl g3) (wl_st d190_285 rfl rfl rfl rfl (wl_gr (b := 56) d190_286 pf11_61 (ly_k L 38 rfl) rfl (ly_r L 38 19 rfl) (wl_st d190_289 rfl rfl rfl rfl (wl_if (g := cm_ok (cm_setI (cm_setI h 58 x5.toNatClampNeg (0 : Int32)) 73 x5.toNatClampNeg (0 : Int32)) 13 56 x5) (st' := [.int (cm_I h 56 x5.toNatClampNeg)]) d190_291 rfl rfl rfl rfl (ly_o L 56 rfl g2) (wl_cb (b := (cm_I h 56 x5.toNatClampNeg) ≤ 0) (off := 8) (tgt := 300) (pc3 := 295) (st' := []) d190_292 rfl rfl rfl rfl (by decide) rfl (fun c4 => wl_st d190_300 rfl rfl rfl rfl ((g3k.1 c4))) (fun c4 => wl_st d190_295 rfl rfl rfl rfl (wl_go (tgt := 302) d190_297 (by decide) ((g3k.2 c4)))))))))) g2k)))))) (H.2 c1)))))))))
theorem s190_302 {sc : cmS} {d : Nat} {h : cmH} {Q : Option Value → cmH → Prop} (y1 : Int64) (x3 : Int32) (x4 : Int32) (x5 : Int32) (sx0 : Int32) (H : cm_wp sc d 190 260 [some (.ref 38), some (.long y1), none, some (.int x3), some (.int sx0), some (.int (x5 + 1))] [] h Q) : cm_wp sc d 190 302 [some (.ref 38), some (.long y1), none, some (.int x3), some (.int x4), some (.int x5)] [.int sx0] h Q :=
  wl_st (ls' := [some (.ref 38), some (.long y1), none, some (.int x3), some (.int sx0), some (.int x5)]) d190_302 rfl rfl rfl rfl (wl_st (ls' := [some (.ref 38), some (.long y1), none, some (.int x3), some (.int sx0), some (.int (x5 + 1))]) d190_304 rfl rfl rfl rfl (wl_go (tgt := 260) d190_307 (by decide) (H)))
theorem s190_313 {sc : cmS} {d : Nat} {h : cmH} {Q : Option Value → cmH → Prop} (L : LY h) (y1 : Int64) (x3 : Int32) (x4 : Int32) (x5 : Int32) (H : ((((8 : Int32) ≤ x5) → cm_wp sc (d + 1) 190 363 [some (.ref 38), some (.long y1), none, some (.int x3), some (.int x4), some (.int (0 : Int32))] [] h Q) ∧ (¬ ((8 : Int32) ≤ x5) → (IX 8 x5) ∧ cm_cv sc d 193 [.ref 38, .int x5, .int (0 : Int32), .int (cm_I h 67 x5.toNatClampNeg)] h (fun h' => cm_wp sc (d + 1) 190 334 [some (.ref 38), some (.long y1), none, some (.int x3), some (.int x4), some (.int x5)] [] h' Q)))) : cm_wp sc (d + 1) 190 313 [some (.ref 38), some (.long y1), none, some (.int x3), some (.int x4), some (.int x5)] [] h Q :=
  wl_st d190_313 rfl rfl rfl rfl (wl_bi (v := 8) d190_315 rfl (wl_cb (b := (8 : Int32) ≤ x5) (off := 43) (tgt := 360) (pc3 := 320) (st' := []) d190_317 rfl rfl rfl rfl (by decide) rfl (fun c1 => wl_ic (v := 0) d190_360 rfl (wl_st (ls' := [some (.ref 38), some (.long y1), none, some (.int x3), some (.int x4), some (.int (0 : Int32))]) d190_361 rfl rfl rfl rfl ((H.1 c1)))) (fun c1 => wl_st d190_320 rfl rfl rfl rfl (wl_st d190_321 rfl rfl rfl rfl (wl_ic (v := 0) d190_323 rfl (wl_st d190_324 rfl rfl rfl rfl (wl_gr (b := 67) d190_325 pf11_95 (ly_k L 38 rfl) rfl (ly_r L 38 38 rfl) (wl_st d190_328 rfl rfl rfl rfl (And.elim (fun g2 g2k => wl_if (g := cm_ok h 13 67 x5) (st' := [.int (cm_I h 67 x5.toNatClampNeg), .int (0 : Int32), .int x5, .ref 38]) d190_330 rfl rfl rfl rfl (ly_o L 67 rfl g2) (wl_cv d190_331 rfl rfl rfl pm11_338 (by decide) (ca_v (Or.inl rfl) rfl (Nat.le_of_ble_eq_true rfl) (Nat.le_of_ble_eq_true rfl) (ly_k L 38 rfl).2 (ly_k L 38 rfl).1 (by decide)) g2k)) (H.2 c1))))))))))
theorem s190_334 {sc : cmS} {d : Nat} {h : cmH} {Q : Option Value → cmH → Prop} (L : LY h) (y1 : Int64) (x3 : Int32) (x4 : Int32) (x5 : Int32) (H : (((¬ x4 = (-1 : Int32)) → cm_wp sc (d + 1) 190 354 [some (.ref 38), some (.long y1), none, some (.int x3), some (.int x4), some (.int x5)] [] h Q) ∧ (¬ (¬ x4 = (-1 : Int32)) → (IX 8 x5) ∧ cm_cv sc d 193 [.ref 38, .int x5, .int (2 : Int32), .int (cm_I h 67 x5.toNatClampNeg)] h (fun h' => cm_wp sc (d + 1) 190 354 [some (.ref 38), some (.long y1), none, some (.int x3), some (.int x4), some (.int x5)] [] h' Q)))) : cm_wp sc (d + 1) 190 334 [some (.ref 38), some (.long y1), none, some (.int x3), some (.int x4), some (.int x5)] [] h Q :=
  wl_st d190_334 rfl rfl rfl rfl (wl_ic (v := (-1)) d190_336 rfl (wl_cb (b := ¬ x4 = (-1 : Int32)) (off := 17) (tgt := 354) (pc3 := 340) (st' := []) d190_337 rfl rfl rfl rfl (by decide) rfl (fun c1 => (H.1 c1)) (fun c1 => wl_st d190_340 rfl rfl rfl rfl (wl_st d190_341 rfl rfl rfl rfl (wl_ic (v := 2) d190_343 rfl (wl_st d190_344 rfl rfl rfl rfl (wl_gr (b := 67) d190_345 pf11_95 (ly_k L 38 rfl) rfl (ly_r L 38 38 rfl) (wl_st d190_348 rfl rfl rfl rfl (And.elim (fun g2 g2k => wl_if (g := cm_ok h 13 67 x5) (st' := [.int (cm_I h 67 x5.toNatClampNeg), .int (2 : Int32), .int x5, .ref 38]) d190_350 rfl rfl rfl rfl (ly_o L 67 rfl g2) (wl_cv d190_351 rfl rfl rfl pm11_338 (by decide) (ca_v (Or.inl rfl) rfl (Nat.le_of_ble_eq_true rfl) (Nat.le_of_ble_eq_true rfl) (ly_k L 38 rfl).2 (ly_k L 38 rfl).1 (by decide)) g2k)) (H.2 c1))))))))))
theorem s190_354 {sc : cmS} {d : Nat} {h : cmH} {Q : Option Value → cmH → Prop} (y1 : Int64) (x3 : Int32) (x4 : Int32) (x5 : Int32) (H : cm_wp sc d 190 313 [some (.ref 38), some (.long y1), none, some (.int x3), some (.int x4), some (.int (x5 + 1))] [] h Q) : cm_wp sc d 190 354 [some (.ref 38), some (.long y1), none, some (.int x3), some (.int x4), some (.int x5)] [] h Q :=
  wl_st (ls' := [some (.ref 38), some (.long y1), none, some (.int x3), some (.int x4), some (.int (x5 + 1))]) d190_354 rfl rfl rfl rfl (wl_go (tgt := 313) d190_357 (by decide) (H))
theorem s190_363 {sc : cmS} {d : Nat} {h : cmH} {Q : Option Value → cmH → Prop} (L : LY h) (y1 : Int64) (x3 : Int32) (x4 : Int32) (x5 : Int32) (H : (((x4 < x5) → cm_wp sc (d + 1) 190 395 [some (.ref 38), some (.long y1), none, some (.int x3), some (.int x4), some (.int (0 : Int32))] [] h Q) ∧ (¬ (x4 < x5) → (IX 9 x5) ∧ ((((cm_I h 56 x5.toNatClampNeg) ≤ 0) → cm_wp sc (d + 1) 190 386 [some (.ref 38), some (.long y1), none, some (.int x3), some (.int x4), some (.int x5)] [] h Q) ∧ (¬ ((cm_I h 56 x5.toNatClampNeg) ≤ 0) → cm_cv sc d 194 [.ref 38, .int x5] h (fun h' => cm_wp sc (d + 1) 190 386 [some (.ref 38), some (.long y1), none, some (.int x3), some (.int x4), some (.int x5)] [] h' Q)))))) : cm_wp sc (d + 1) 190 363 [some (.ref 38), some (.long y1), none, some (.int x3), some (.int x4), some (.int x5)] [] h Q :=
  wl_st d190_363 rfl rfl rfl rfl (wl_st d190_365 rfl rfl rfl rfl (wl_cb (b := x4 < x5) (off := 25) (tgt := 392) (pc3 := 370) (st' := []) d190_367 rfl rfl rfl rfl (by decide) rfl (fun c1 => wl_ic (v := 0) d190_392 rfl (wl_st (ls' := [some (.ref 38), some (.long y1), none, some (.int x3), some (.int x4), some (.int (0 : Int32))]) d190_393 rfl rfl rfl rfl ((H.1 c1)))) (fun c1 => wl_st d190_370 rfl rfl rfl rfl (wl_gr (b := 56) d190_371 pf11_61 (ly_k L 38 rfl) rfl (ly_r L 38 19 rfl) (wl_st d190_374 rfl rfl rfl rfl (And.elim (fun g2 g2k => wl_if (g := cm_ok h 13 56 x5) (st' := [.int (cm_I h 56 x5.toNatClampNeg)]) d190_376 rfl rfl rfl rfl (ly_o L 56 rfl g2) (wl_cb (b := (cm_I h 56 x5.toNatClampNeg) ≤ 0) (off := 9) (tgt := 386) (pc3 := 380) (st' := []) d190_377 rfl rfl rfl rfl (by decide) rfl (fun c3 => (g2k.1 c3)) (fun c3 => wl_st d190_380 rfl rfl rfl rfl (wl_st d190_381 rfl rfl rfl rfl (wl_cv d190_383 rfl rfl rfl pm11_342 (by decide) (ca_v (Or.inl rfl) rfl (Nat.le_of_ble_eq_true rfl) (Nat.le_of_ble_eq_true rfl) (ly_k L 38 rfl).2 (ly_k L 38 rfl).1 (by decide)) (g2k.2 c3)))))) (H.2 c1)))))))
theorem s190_386 {sc : cmS} {d : Nat} {h : cmH} {Q : Option Value → cmH → Prop} (y1 : Int64) (x3 : Int32) (x4 : Int32) (x5 : Int32) (H : cm_wp sc d 190 363 [some (.ref 38), some (.long y1), none, some (.int x3), some (.int x4), some (.int (x5 + 1))] [] h Q) : cm_wp sc d 190 386 [some (.ref 38), some (.long y1), none, some (.int x3), some (.int x4), some (.int x5)] [] h Q :=
  wl_st (ls' := [some (.ref 38), some (.long y1), none, some (.int x3), some (.int x4), some (.int (x5 + 1))]) d190_386 rfl rfl rfl rfl (wl_go (tgt := 363) d190_389 (by decide) (H))
theorem s190_395 {sc : cmS} {d : Nat} {h : cmH} {Q : Option Value → cmH → Prop} (L : LY h) (y1 : Int64) (x3 : Int32) (x4 : Int32) (x5 : Int32) (H : ((((cm_I h 38 24) ≤ x5) → Q none h) ∧ (¬ ((cm_I h 38 24) ≤ x5) → (IX 9 x5) ∧ (IX 8 x5) ∧ ((((cm_I h 76 x5.toNatClampNeg) = 0) → cm_wp sc (d + 1) 190 449 [some (.ref 38), some (.long y1), none, some (.int x3), some (.int x4), some (.int x5)] [.int (cm_I h 52 x5.toNatClampNeg), .int x5, .ref 52] (cm_setI h 57 x5.toNatClampNeg (if (0 : Int32) < (cm_I h 57 x5.toNatClampNeg) then (cm_I h 57 x5.toNatClampNeg) else (0 : Int32))) Q) ∧ (¬ ((cm_I h 76 x5.toNatClampNeg) = 0) → cm_wp sc (d + 1) 190 449 [some (.ref 38), some (.long y1), none, some (.int x3), some (.int x4), some (.int x5)] [.int (4 : Int32), .int x5, .ref 52] (cm_setI h 57 x5.toNatClampNeg (if (0 : Int32) < (cm_I h 57 x5.toNatClampNeg) then (cm_I h 57 x5.toNatClampNeg) else (0 : Int32))) Q))))) : cm_wp sc (d + 1) 190 395 [some (.ref 38), some (.long y1), none, some (.int x3), some (.int x4), some (.int x5)] [] h Q :=
  wl_st d190_395 rfl rfl rfl rfl (wl_st d190_397 rfl rfl rfl rfl (wl_gf (v := .int (cm_I h 38 24)) d190_398 pf11_165 (ly_k L 38 rfl) rfl (wl_cb (b := (cm_I h 38 24) ≤ x5) (off := 55) (tgt := 456) (pc3 := 404) (st' := []) d190_401 rfl rfl rfl rfl (by decide) rfl (fun c1 => wl_rt d190_456 rfl rfl rfl (H.1 c1)) (fun c1 => wl_st d190_404 rfl rfl rfl rfl (wl_gr (b := 57) d190_405 pf11_64 (ly_k L 38 rfl) rfl (ly_r L 38 20 rfl) (wl_st d190_408 rfl rfl rfl rfl (wl_ic (v := 0) d190_410 rfl (wl_st d190_411 rfl rfl rfl rfl (wl_gr (b := 57) d190_412 pf11_64 (ly_k L 38 rfl) rfl (ly_r L 38 20 rfl) (wl_st d190_415 rfl rfl rfl rfl (And.elim (fun g2 g2k => wl_if (g := cm_ok h 13 57 x5) (st' := [.int (cm_I h 57 x5.toNatClampNeg), .int (0 : Int32), .int x5, .ref 57]) d190_417 rfl rfl rfl rfl (ly_o L 57 rfl g2) (wl_pr (st' := [.int (if (0 : Int32) < (cm_I h 57 x5.toNatClampNeg) then (cm_I h 57 x5.toNatClampNeg) else (0 : Int32)), .int x5, .ref 57]) d190_418 rfl rfl rfl pm11_172 (by decide) rfl rfl (wl_if (h' := (cm_setI h 57 x5.toNatClampNeg (if (0 : Int32) < (cm_I h 57 x5.toNatClampNeg) then (cm_I h 57 x5.toNatClampNeg) else (0 : Int32)))) d190_421 rfl rfl rfl rfl (ly_o L 57 rfl g2) (wl_st d190_422 rfl rfl rfl rfl (wl_gr (b := 52) d190_423 pf11_49 (ly_k L 38 rfl) rfl (ly_r L 38 15 rfl) (wl_st d190_426 rfl rfl rfl rfl (wl_st d190_428 rfl rfl rfl rfl (wl_gr (b := 76) d190_429 pf11_123 (ly_k L 38 rfl) rfl (ly_r L 38 47 rfl) (wl_st d190_432 rfl rfl rfl rfl (And.elim (fun g3 g3k => wl_if (g := cm_ok (cm_setI h 57 x5.toNatClampNeg (if (0 : Int32) < (cm_I h 57 x5.toNatClampNeg) then (cm_I h 57 x5.toNatClampNeg) else (0 : Int32))) 15 76 x5) (st' := [.int (cm_I h 76 x5.toNatClampNeg), .int x5, .ref 52]) d190_434 rfl rfl rfl rfl (ly_o L 76 rfl g3) (wl_cb (b := (cm_I h 76 x5.toNatClampNeg) = 0) (off := 7) (tgt := 442) (pc3 := 438) (st' := [.int x5, .ref 52]) d190_435 rfl rfl rfl rfl (by decide) rfl (fun c4 => wl_st d190_442 rfl rfl rfl rfl (wl_gr (b := 52) d190_443 pf11_49 (ly_k L 38 rfl) rfl (ly_r L 38 15 rfl) (wl_st d190_446 rfl rfl rfl rfl (wl_if (g := cm_ok (cm_setI h 57 x5.toNatClampNeg (if (0 : Int32) < (cm_I h 57 x5.toNatClampNeg) then (cm_I h 57 x5.toNatClampNeg) else (0 : Int32))) 13 52 x5) (st' := [.int (cm_I h 52 x5.toNatClampNeg), .int x5, .ref 52]) d190_448 rfl rfl rfl rfl (ly_o L 52 rfl g2) ((g3k.1 c4)))))) (fun c4 => wl_ic (v := 4) d190_438 rfl (wl_go (tgt := 449) d190_439 (by decide) ((g3k.2 c4)))))) g2k)))))))))) (H.2 c1))))))))))))
theorem s190_449 {sc : cmS} {d : Nat} {h : cmH} {Q : Option Value → cmH → Prop} (L : LY h) (y1 : Int64) (x3 : Int32) (x4 : Int32) (x5 : Int32) (sx0 : Int32) (sx1 : Int32) (H : (IX 9 sx1) ∧ cm_wp sc d 190 395 [some (.ref 38), some (.long y1), none, some (.int x3), some (.int x4), some (.int (x5 + 1))] [] (cm_setI h 52 sx1.toNatClampNeg sx0) Q) : cm_wp sc d 190 449 [some (.ref 38), some (.long y1), none, some (.int x3), some (.int x4), some (.int x5)] [.int sx0, .int sx1, .ref 52] h Q :=
  And.elim (fun g1 g1k => wl_if (h' := (cm_setI h 52 sx1.toNatClampNeg sx0)) d190_449 rfl rfl rfl rfl (ly_o L 52 rfl g1) (wl_st (ls' := [some (.ref 38), some (.long y1), none, some (.int x3), some (.int x4), some (.int (x5 + 1))]) d190_450 rfl rfl rfl rfl (wl_go (tgt := 395) d190_453 (by decide) (g1k)))) H
-- ClogHouseModel.weightOf(I)I
theorem d191_0 : decode (cm_M 191).2.2.1 0 = .ok (.aload_n 0, 1) := by decide +kernel
theorem d191_1 : decode (cm_M 191).2.2.1 1 = .ok (.iload_n 1, 1) := by decide +kernel
theorem d191_2 : decode (cm_M 191).2.2.1 2 = .ok (.invokevirtual 192, 3) := by decide +kernel
theorem d191_5 : decode (cm_M 191).2.2.1 5 = .ok (.istore_n 2, 1) := by decide +kernel
theorem d191_6 : decode (cm_M 191).2.2.1 6 = .ok (.iload_n 2, 1) := by decide +kernel
theorem d191_7 : decode (cm_M 191).2.2.1 7 = .ok (.iconst (-1), 1) := by decide +kernel
theorem d191_8 : decode (cm_M 191).2.2.1 8 = .ok (.if_icmp .ne 7, 3) := by decide +kernel
theorem d191_11 : decode (cm_M 191).2.2.1 11 = .ok (.iconst 0, 1) := by decide +kernel
theorem d191_12 : decode (cm_M 191).2.2.1 12 = .ok (.goto 18, 3) := by decide +kernel
theorem d191_15 : decode (cm_M 191).2.2.1 15 = .ok (.ldc_w 329, 3) := by decide +kernel
theorem d191_18 : decode (cm_M 191).2.2.1 18 = .ok (.iconst 1, 1) := by decide +kernel
theorem d191_19 : decode (cm_M 191).2.2.1 19 = .ok (.iload_n 2, 1) := by decide +kernel
theorem d191_20 : decode (cm_M 191).2.2.1 20 = .ok (.aload_n 0, 1) := by decide +kernel
theorem d191_21 : decode (cm_M 191).2.2.1 21 = .ok (.iload_n 1, 1) := by decide +kernel
theorem d191_22 : decode (cm_M 191).2.2.1 22 = .ok (.invokevirtual 195, 3) := by decide +kernel
theorem d191_25 : decode (cm_M 191).2.2.1 25 = .ok (.iadd, 1) := by decide +kernel
theorem d191_26 : decode (cm_M 191).2.2.1 26 = .ok (.invokestatic 172, 3) := by decide +kernel
theorem d191_29 : decode (cm_M 191).2.2.1 29 = .ok (.idiv, 1) := by decide +kernel
theorem d191_30 : decode (cm_M 191).2.2.1 30 = .ok (.ireturn, 1) := by decide +kernel
theorem s191_0 {sc : cmS} {d : Nat} {h : cmH} {Q : Option Value → cmH → Prop} (L : LY h) (x1 : Int32) (u2 : Option Value) (H : cm_ci sc d 144 [.ref 38, .int x1] h (fun r h' => cm_wp sc (d + 1) 191 5 [some (.ref 38), some (.int x1), u2] [.int r] h' Q)) : cm_wp sc (d + 1) 191 0 [some (.ref 38), some (.int x1), u2] [] h Q :=
  wl_st d191_0 rfl rfl rfl rfl (wl_st d191_1 rfl rfl rfl rfl (wl_ci d191_2 rfl rfl rfl pm11_192 (by decide) (ca_v (Or.inl rfl) rfl (Nat.le_of_ble_eq_true rfl) (Nat.le_of_ble_eq_true rfl) (ly_k L 38 rfl).2 (ly_k L 38 rfl).1 (by decide)) H))
theorem s191_5 {sc : cmS} {d : Nat} {h : cmH} {Q : Option Value → cmH → Prop} (L : LY h) (x1 : Int32) (u2 : Option Value) (sx0 : Int32) (H : (((¬ sx0 = (-1 : Int32)) → cm_ci sc d 149 [.ref 38, .int x1] h (fun r h' => cm_wp sc (d + 1) 191 25 [some (.ref 38), some (.int x1), some (.int sx0)] [.int r, .int sx0, .int (1 : Int32), .int (1000000 : Int32)] h' Q)) ∧ (¬ (¬ sx0 = (-1 : Int32)) → Q (some (.int (0 : Int32))) h))) : cm_wp sc (d + 1) 191 5 [some (.ref 38), some (.int x1), u2] [.int sx0] h Q :=
  wl_st (ls' := [some (.ref 38), some (.int x1), some (.int sx0)]) d191_5 rfl rfl rfl rfl (wl_st d191_6 rfl rfl rfl rfl (wl_ic (v := (-1)) d191_7 rfl (wl_cb (b := ¬ sx0 = (-1 : Int32)) (off := 7) (tgt := 15) (pc3 := 11) (st' := []) d191_8 rfl rfl rfl rfl (by decide) rfl (fun c1 => wl_cIw (v := 1000000) d191_15 pc11_329 (wl_ic (v := 1) d191_18 rfl (wl_st d191_19 rfl rfl rfl rfl (wl_st d191_20 rfl rfl rfl rfl (wl_st d191_21 rfl rfl rfl rfl (wl_ci d191_22 rfl rfl rfl pm11_195 (by decide) (ca_v (Or.inl rfl) rfl (Nat.le_of_ble_eq_true rfl) (Nat.le_of_ble_eq_true rfl) (ly_k L 38 rfl).2 (ly_k L 38 rfl).1 (by decide)) (H.1 c1))))))) (fun c1 => wl_ic (v := 0) d191_11 rfl (wl_go (tgt := 30) d191_12 (by decide) (wl_rt d191_30 rfl rfl rfl (H.2 c1)))))))
theorem s191_25 {sc : cmS} {d : Nat} {h : cmH} {Q : Option Value → cmH → Prop} (x1 : Int32) (x2 : Int32) (sx0 : Int32) (sx1 : Int32) (sx2 : Int32) (sx3 : Int32) (H : (¬ (if sx2 < (sx1 + sx0) then (sx1 + sx0) else sx2) = 0) ∧ Q (some (.int (sx3 / (if sx2 < (sx1 + sx0) then (sx1 + sx0) else sx2)))) h) : cm_wp sc (d + 1) 191 25 [some (.ref 38), some (.int x1), some (.int x2)] [.int sx0, .int sx1, .int sx2, .int sx3] h Q :=
  wl_st d191_25 rfl rfl rfl rfl (wl_pr (st' := [.int (if sx2 < (sx1 + sx0) then (sx1 + sx0) else sx2), .int sx3]) d191_26 rfl rfl rfl pm11_172 (by decide) rfl rfl (And.elim (fun g1 g1k => wl_ne (g := (if sx2 < (sx1 + sx0) then (sx1 + sx0) else sx2) = 0) d191_29 rfl rfl rfl rfl g1 (wl_rt d191_30 rfl rfl rfl g1k)) H))
-- ClogHouseModel.look(I)V
theorem d192_0 : decode (cm_M 192).2.2.1 0 = .ok (.iconst 0, 1) := by decide +kernel
theorem d192_1 : decode (cm_M 192).2.2.1 1 = .ok (.istore_n 2, 1) := by decide +kernel
theorem d192_2 : decode (cm_M 192).2.2.1 2 = .ok (.iload_n 2, 1) := by decide +kernel
theorem d192_3 : decode (cm_M 192).2.2.1 3 = .ok (.aload_n 0, 1) := by decide +kernel
theorem d192_4 : decode (cm_M 192).2.2.1 4 = .ok (.getfield 19, 3) := by decide +kernel
theorem d192_7 : decode (cm_M 192).2.2.1 7 = .ok (.iload_n 1, 1) := by decide +kernel
theorem d192_8 : decode (cm_M 192).2.2.1 8 = .ok (.iaload, 1) := by decide +kernel
theorem d192_9 : decode (cm_M 192).2.2.1 9 = .ok (.if_icmp .ge 21, 3) := by decide +kernel
theorem d192_12 : decode (cm_M 192).2.2.1 12 = .ok (.aload_n 0, 1) := by decide +kernel
theorem d192_13 : decode (cm_M 192).2.2.1 13 = .ok (.getfield 120, 3) := by decide +kernel
theorem d192_16 : decode (cm_M 192).2.2.1 16 = .ok (.iload_n 2, 1) := by decide +kernel
theorem d192_17 : decode (cm_M 192).2.2.1 17 = .ok (.aload_n 0, 1) := by decide +kernel
theorem d192_18 : decode (cm_M 192).2.2.1 18 = .ok (.iload_n 1, 1) := by decide +kernel
theorem d192_19 : decode (cm_M 192).2.2.1 19 = .ok (.iload_n 2, 1) := by decide +kernel
theorem d192_20 : decode (cm_M 192).2.2.1 20 = .ok (.invokevirtual 185, 3) := by decide +kernel
theorem d192_23 : decode (cm_M 192).2.2.1 23 = .ok (.iastore, 1) := by decide +kernel
theorem d192_24 : decode (cm_M 192).2.2.1 24 = .ok (.iinc 2 1, 3) := by decide +kernel
theorem d192_27 : decode (cm_M 192).2.2.1 27 = .ok (.goto (-25), 3) := by decide +kernel
theorem d192_30 : decode (cm_M 192).2.2.1 30 = .ok (.return_, 1) := by decide +kernel
theorem s192_0 {sc : cmS} {d : Nat} {h : cmH} {Q : Option Value → cmH → Prop} (x1 : Int32) (u2 : Option Value) (H : cm_wp sc d 192 2 [some (.ref 38), some (.int x1), some (.int (0 : Int32))] [] h Q) : cm_wp sc d 192 0 [some (.ref 38), some (.int x1), u2] [] h Q :=
  wl_ic (v := 0) d192_0 rfl (wl_st (ls' := [some (.ref 38), some (.int x1), some (.int (0 : Int32))]) d192_1 rfl rfl rfl rfl (H))
theorem s192_2 {sc : cmS} {d : Nat} {h : cmH} {Q : Option Value → cmH → Prop} (L : LY h) (x1 : Int32) (x2 : Int32) (H : (IX 9 x1) ∧ ((((cm_I h 42 x1.toNatClampNeg) ≤ x2) → Q none h) ∧ (¬ ((cm_I h 42 x1.toNatClampNeg) ≤ x2) → cm_ci sc d 145 [.ref 38, .int x1, .int x2] h (fun r h' => cm_wp sc (d + 1) 192 23 [some (.ref 38), some (.int x1), some (.int x2)] [.int r, .int x2, .ref 75] h' Q)))) : cm_wp sc (d + 1) 192 2 [some (.ref 38), some (.int x1), some (.int x2)] [] h Q :=
  wl_st d192_2 rfl rfl rfl rfl (wl_st d192_3 rfl rfl rfl rfl (wl_gr (b := 42) d192_4 pf11_19 (ly_k L 38 rfl) rfl (ly_r L 38 5 rfl) (wl_st d192_7 rfl rfl rfl rfl (And.elim (fun g1 g1k => wl_if (g := cm_ok h 13 42 x1) (st' := [.int (cm_I h 42 x1.toNatClampNeg), .int x2]) d192_8 rfl rfl rfl rfl (ly_o L 42 rfl g1) (wl_cb (b := (cm_I h 42 x1.toNatClampNeg) ≤ x2) (off := 21) (tgt := 30) (pc3 := 12) (st' := []) d192_9 rfl rfl rfl rfl (by decide) rfl (fun c2 => wl_rt d192_30 rfl rfl rfl (g1k.1 c2)) (fun c2 => wl_st d192_12 rfl rfl rfl rfl (wl_gr (b := 75) d192_13 pf11_120 (ly_k L 38 rfl) rfl (ly_r L 38 46 rfl) (wl_st d192_16 rfl rfl rfl rfl (wl_st d192_17 rfl rfl rfl rfl (wl_st d192_18 rfl rfl rfl rfl (wl_st d192_19 rfl rfl rfl rfl (wl_ci d192_20 rfl rfl rfl pm11_185 (by decide) (ca_v (Or.inl rfl) rfl (Nat.le_of_ble_eq_true rfl) (Nat.le_of_ble_eq_true rfl) (ly_k L 38 rfl).2 (ly_k L 38 rfl).1 (by decide)) (g1k.2 c2)))))))))) H))))
theorem s192_23 {sc : cmS} {d : Nat} {h : cmH} {Q : Option Value → cmH → Prop} (L : LY h) (x1 : Int32) (x2 : Int32) (sx0 : Int32) (sx1 : Int32) (H : (IX 10 sx1) ∧ cm_wp sc d 192 2 [some (.ref 38), some (.int x1), some (.int (x2 + 1))] [] (cm_setI h 75 sx1.toNatClampNeg sx0) Q) : cm_wp sc d 192 23 [some (.ref 38), some (.int x1), some (.int x2)] [.int sx0, .int sx1, .ref 75] h Q :=
  And.elim (fun g1 g1k => wl_if (h' := (cm_setI h 75 sx1.toNatClampNeg sx0)) d192_23 rfl rfl rfl rfl (ly_o L 75 rfl g1) (wl_st (ls' := [some (.ref 38), some (.int x1), some (.int (x2 + 1))]) d192_24 rfl rfl rfl rfl (wl_go (tgt := 2) d192_27 (by decide) (g1k)))) H
-- ClogHouseModel.tell(III)V
theorem d193_0 : decode (cm_M 193).2.2.1 0 = .ok (.aload_n 0, 1) := by decide +kernel
theorem d193_1 : decode (cm_M 193).2.2.1 1 = .ok (.getfield 99, 3) := by decide +kernel
theorem d193_4 : decode (cm_M 193).2.2.1 4 = .ok (.iconst 3, 1) := by decide +kernel
theorem d193_5 : decode (cm_M 193).2.2.1 5 = .ok (.bipush 8, 2) := by decide +kernel
theorem d193_7 : decode (cm_M 193).2.2.1 7 = .ok (.aload_n 0, 1) := by decide +kernel
theorem d193_8 : decode (cm_M 193).2.2.1 8 = .ok (.getfield 330, 3) := by decide +kernel
theorem d193_11 : decode (cm_M 193).2.2.1 11 = .ok (.imul, 1) := by decide +kernel
theorem d193_12 : decode (cm_M 193).2.2.1 12 = .ok (.iload_n 1, 1) := by decide +kernel
theorem d193_13 : decode (cm_M 193).2.2.1 13 = .ok (.iadd, 1) := by decide +kernel
theorem d193_14 : decode (cm_M 193).2.2.1 14 = .ok (.imul, 1) := by decide +kernel
theorem d193_15 : decode (cm_M 193).2.2.1 15 = .ok (.iload_n 2, 1) := by decide +kernel
theorem d193_16 : decode (cm_M 193).2.2.1 16 = .ok (.iadd, 1) := by decide +kernel
theorem d193_17 : decode (cm_M 193).2.2.1 17 = .ok (.dup2, 1) := by decide +kernel
theorem d193_18 : decode (cm_M 193).2.2.1 18 = .ok (.iaload, 1) := by decide +kernel
theorem d193_19 : decode (cm_M 193).2.2.1 19 = .ok (.iload_n 3, 1) := by decide +kernel
theorem d193_20 : decode (cm_M 193).2.2.1 20 = .ok (.iadd, 1) := by decide +kernel
theorem d193_21 : decode (cm_M 193).2.2.1 21 = .ok (.iastore, 1) := by decide +kernel
theorem d193_22 : decode (cm_M 193).2.2.1 22 = .ok (.aload_n 0, 1) := by decide +kernel
theorem d193_23 : decode (cm_M 193).2.2.1 23 = .ok (.getfield 108, 3) := by decide +kernel
theorem d193_26 : decode (cm_M 193).2.2.1 26 = .ok (.bipush 6, 2) := by decide +kernel
theorem d193_28 : decode (cm_M 193).2.2.1 28 = .ok (.iload_n 1, 1) := by decide +kernel
theorem d193_29 : decode (cm_M 193).2.2.1 29 = .ok (.imul, 1) := by decide +kernel
theorem d193_30 : decode (cm_M 193).2.2.1 30 = .ok (.iload_n 2, 1) := by decide +kernel
theorem d193_31 : decode (cm_M 193).2.2.1 31 = .ok (.ifCond .ne 7, 3) := by decide +kernel
theorem d193_34 : decode (cm_M 193).2.2.1 34 = .ok (.iconst 0, 1) := by decide +kernel
theorem d193_35 : decode (cm_M 193).2.2.1 35 = .ok (.goto 6, 3) := by decide +kernel
theorem d193_38 : decode (cm_M 193).2.2.1 38 = .ok (.iload_n 2, 1) := by decide +kernel
theorem d193_39 : decode (cm_M 193).2.2.1 39 = .ok (.iconst 3, 1) := by decide +kernel
theorem d193_40 : decode (cm_M 193).2.2.1 40 = .ok (.iadd, 1) := by decide +kernel
theorem d193_41 : decode (cm_M 193).2.2.1 41 = .ok (.iadd, 1) := by decide +kernel
theorem d193_42 : decode (cm_M 193).2.2.1 42 = .ok (.dup2, 1) := by decide +kernel
theorem d193_43 : decode (cm_M 193).2.2.1 43 = .ok (.iaload, 1) := by decide +kernel
theorem d193_44 : decode (cm_M 193).2.2.1 44 = .ok (.iload_n 3, 1) := by decide +kernel
theorem d193_45 : decode (cm_M 193).2.2.1 45 = .ok (.iadd, 1) := by decide +kernel
theorem d193_46 : decode (cm_M 193).2.2.1 46 = .ok (.iastore, 1) := by decide +kernel
theorem d193_47 : decode (cm_M 193).2.2.1 47 = .ok (.return_, 1) := by decide +kernel
theorem s193_0 {sc : cmS} {d : Nat} {h : cmH} {Q : Option Value → cmH → Prop} (L : LY h) (x1 : Int32) (x2 : Int32) (x3 : Int32) (H : (IX 48024 (((3 : Int32) * (((8 : Int32) * (cm_I h 38 0)) + x1)) + x2)) ∧ (((¬ x2 = 0) → cm_wp sc d 193 41 [some (.ref 38), some (.int x1), some (.int x2), some (.int x3)] [.int (x2 + (3 : Int32)), .int ((6 : Int32) * x1), .ref 71] (cm_setI h 68 (((3 : Int32) * (((8 : Int32) * (cm_I h 38 0)) + x1)) + x2).toNatClampNeg ((cm_I h 68 (((3 : Int32) * (((8 : Int32) * (cm_I h 38 0)) + x1)) + x2).toNatClampNeg) + x3)) Q) ∧ (¬ (¬ x2 = 0) → cm_wp sc d 193 41 [some (.ref 38), some (.int x1), some (.int x2), some (.int x3)] [.int (0 : Int32), .int ((6 : Int32) * x1), .ref 71] (cm_setI h 68 (((3 : Int32) * (((8 : Int32) * (cm_I h 38 0)) + x1)) + x2).toNatClampNeg ((cm_I h 68 (((3 : Int32) * (((8 : Int32) * (cm_I h 38 0)) + x1)) + x2).toNatClampNeg) + x3)) Q))) : cm_wp sc d 193 0 [some (.ref 38), some (.int x1), some (.int x2), some (.int x3)] [] h Q :=
  wl_st d193_0 rfl rfl rfl rfl (wl_gr (b := 68) d193_1 pf11_99 (ly_k L 38 rfl) rfl (ly_r L 38 39 rfl) (wl_ic (v := 3) d193_4 rfl (wl_bi (v := 8) d193_5 rfl (wl_st d193_7 rfl rfl rfl rfl (wl_gf (v := .int (cm_I h 38 0)) d193_8 pf11_330 (ly_k L 38 rfl) rfl (wl_st d193_11 rfl rfl rfl rfl (wl_st d193_12 rfl rfl rfl rfl (wl_st d193_13 rfl rfl rfl rfl (wl_st d193_14 rfl rfl rfl rfl (wl_st d193_15 rfl rfl rfl rfl (wl_st d193_16 rfl rfl rfl rfl (wl_st d193_17 rfl rfl rfl rfl (And.elim (fun g1 g1k => wl_if (g := cm_ok h 13 68 (((3 : Int32) * (((8 : Int32) * (cm_I h 38 0)) + x1)) + x2)) (st' := [.int (cm_I h 68 (((3 : Int32) * (((8 : Int32) * (cm_I h 38 0)) + x1)) + x2).toNatClampNeg), .int (((3 : Int32) * (((8 : Int32) * (cm_I h 38 0)) + x1)) + x2), .ref 68]) d193_18 rfl rfl rfl rfl (ly_o L 68 rfl g1) (wl_st d193_19 rfl rfl rfl rfl (wl_st d193_20 rfl rfl rfl rfl (wl_if (h' := (cm_setI h 68 (((3 : Int32) * (((8 : Int32) * (cm_I h 38 0)) + x1)) + x2).toNatClampNeg ((cm_I h 68 (((3 : Int32) * (((8 : Int32) * (cm_I h 38 0)) + x1)) + x2).toNatClampNeg) + x3))) d193_21 rfl rfl rfl rfl (ly_o L 68 rfl g1) (wl_st d193_22 rfl rfl rfl rfl (wl_gr (b := 71) d193_23 pf11_108 (ly_k L 38 rfl) rfl (ly_r L 38 42 rfl) (wl_bi (v := 6) d193_26 rfl (wl_st d193_28 rfl rfl rfl rfl (wl_st d193_29 rfl rfl rfl rfl (wl_st d193_30 rfl rfl rfl rfl (wl_cb (b := ¬ x2 = 0) (off := 7) (tgt := 38) (pc3 := 34) (st' := [.int ((6 : Int32) * x1), .ref 71]) d193_31 rfl rfl rfl rfl (by decide) rfl (fun c2 => wl_st d193_38 rfl rfl rfl rfl (wl_ic (v := 3) d193_39 rfl (wl_st d193_40 rfl rfl rfl rfl ((g1k.1 c2))))) (fun c2 => wl_ic (v := 0) d193_34 rfl (wl_go (tgt := 41) d193_35 (by decide) ((g1k.2 c2))))))))))))))) H)))))))))))))
theorem s193_41 {sc : cmS} {d : Nat} {h : cmH} {Q : Option Value → cmH → Prop} (L : LY h) (x1 : Int32) (x2 : Int32) (x3 : Int32) (sx0 : Int32) (sx1 : Int32) (H : (IX 48 (sx1 + sx0)) ∧ Q none (cm_setI h 71 (sx1 + sx0).toNatClampNeg ((cm_I h 71 (sx1 + sx0).toNatClampNeg) + x3))) : cm_wp sc d 193 41 [some (.ref 38), some (.int x1), some (.int x2), some (.int x3)] [.int sx0, .int sx1, .ref 71] h Q :=
  wl_st d193_41 rfl rfl rfl rfl (wl_st d193_42 rfl rfl rfl rfl (And.elim (fun g1 g1k => wl_if (g := cm_ok h 13 71 (sx1 + sx0)) (st' := [.int (cm_I h 71 (sx1 + sx0).toNatClampNeg), .int (sx1 + sx0), .ref 71]) d193_43 rfl rfl rfl rfl (ly_o L 71 rfl g1) (wl_st d193_44 rfl rfl rfl rfl (wl_st d193_45 rfl rfl rfl rfl (wl_if (h' := (cm_setI h 71 (sx1 + sx0).toNatClampNeg ((cm_I h 71 (sx1 + sx0).toNatClampNeg) + x3))) d193_46 rfl rfl rfl rfl (ly_o L 71 rfl g1) (wl_rt d193_47 rfl rfl rfl g1k))))) H))
-- ClogHouseModel.runOne(I)V
theorem d194_0 : decode (cm_M 194).2.2.1 0 = .ok (.iconst 0, 1) := by decide +kernel
theorem d194_1 : decode (cm_M 194).2.2.1 1 = .ok (.istore_n 2, 1) := by decide +kernel
theorem d194_2 : decode (cm_M 194).2.2.1 2 = .ok (.aload_n 0, 1) := by decide +kernel
theorem d194_3 : decode (cm_M 194).2.2.1 3 = .ok (.iload_n 1, 1) := by decide +kernel
theorem d194_4 : decode (cm_M 194).2.2.1 4 = .ok (.invokevirtual 336, 3) := by decide +kernel
theorem d194_7 : decode (cm_M 194).2.2.1 7 = .ok (.bipush 7, 2) := by decide +kernel
theorem d194_9 : decode (cm_M 194).2.2.1 9 = .ok (.istore_n 3, 1) := by decide +kernel
theorem d194_10 : decode (cm_M 194).2.2.1 10 = .ok (.iload_n 3, 1) := by decide +kernel
theorem d194_11 : decode (cm_M 194).2.2.1 11 = .ok (.ifCond .lt 72, 3) := by decide +kernel
theorem d194_14 : decode (cm_M 194).2.2.1 14 = .ok (.aload_n 0, 1) := by decide +kernel
theorem d194_15 : decode (cm_M 194).2.2.1 15 = .ok (.iload_n 1, 1) := by decide +kernel
theorem d194_16 : decode (cm_M 194).2.2.1 16 = .ok (.iload_n 3, 1) := by decide +kernel
theorem d194_17 : decode (cm_M 194).2.2.1 17 = .ok (.invokevirtual 345, 3) := by decide +kernel
theorem d194_20 : decode (cm_M 194).2.2.1 20 = .ok (.istore 4, 2) := by decide +kernel
theorem d194_22 : decode (cm_M 194).2.2.1 22 = .ok (.iload_n 2, 1) := by decide +kernel
theorem d194_23 : decode (cm_M 194).2.2.1 23 = .ok (.iload 4, 2) := by decide +kernel
theorem d194_25 : decode (cm_M 194).2.2.1 25 = .ok (.iadd, 1) := by decide +kernel
theorem d194_26 : decode (cm_M 194).2.2.1 26 = .ok (.istore_n 2, 1) := by decide +kernel
theorem d194_27 : decode (cm_M 194).2.2.1 27 = .ok (.aload_n 0, 1) := by decide +kernel
theorem d194_28 : decode (cm_M 194).2.2.1 28 = .ok (.getfield 64, 3) := by decide +kernel
theorem d194_31 : decode (cm_M 194).2.2.1 31 = .ok (.iload_n 1, 1) := by decide +kernel
theorem d194_32 : decode (cm_M 194).2.2.1 32 = .ok (.iaload, 1) := by decide +kernel
theorem d194_33 : decode (cm_M 194).2.2.1 33 = .ok (.iconst (-1), 1) := by decide +kernel
theorem d194_34 : decode (cm_M 194).2.2.1 34 = .ok (.if_icmp .ne 14, 3) := by decide +kernel
theorem d194_37 : decode (cm_M 194).2.2.1 37 = .ok (.aload_n 0, 1) := by decide +kernel
theorem d194_38 : decode (cm_M 194).2.2.1 38 = .ok (.iload_n 3, 1) := by decide +kernel
theorem d194_39 : decode (cm_M 194).2.2.1 39 = .ok (.iconst 2, 1) := by decide +kernel
theorem d194_40 : decode (cm_M 194).2.2.1 40 = .ok (.iload 4, 2) := by decide +kernel
theorem d194_42 : decode (cm_M 194).2.2.1 42 = .ok (.invokevirtual 338, 3) := by decide +kernel
theorem d194_45 : decode (cm_M 194).2.2.1 45 = .ok (.goto 32, 3) := by decide +kernel
theorem d194_48 : decode (cm_M 194).2.2.1 48 = .ok (.aload_n 0, 1) := by decide +kernel
theorem d194_49 : decode (cm_M 194).2.2.1 49 = .ok (.iload_n 1, 1) := by decide +kernel
theorem d194_50 : decode (cm_M 194).2.2.1 50 = .ok (.iload_n 3, 1) := by decide +kernel
theorem d194_51 : decode (cm_M 194).2.2.1 51 = .ok (.iload 4, 2) := by decide +kernel
theorem d194_53 : decode (cm_M 194).2.2.1 53 = .ok (.invokevirtual 348, 3) := by decide +kernel
theorem d194_56 : decode (cm_M 194).2.2.1 56 = .ok (.istore 5, 2) := by decide +kernel
theorem d194_58 : decode (cm_M 194).2.2.1 58 = .ok (.aload_n 0, 1) := by decide +kernel
theorem d194_59 : decode (cm_M 194).2.2.1 59 = .ok (.getfield 67, 3) := by decide +kernel
theorem d194_62 : decode (cm_M 194).2.2.1 62 = .ok (.iload_n 1, 1) := by decide +kernel
theorem d194_63 : decode (cm_M 194).2.2.1 63 = .ok (.dup2, 1) := by decide +kernel
theorem d194_64 : decode (cm_M 194).2.2.1 64 = .ok (.iaload, 1) := by decide +kernel
theorem d194_65 : decode (cm_M 194).2.2.1 65 = .ok (.iload 5, 2) := by decide +kernel
theorem d194_67 : decode (cm_M 194).2.2.1 67 = .ok (.iadd, 1) := by decide +kernel
theorem d194_68 : decode (cm_M 194).2.2.1 68 = .ok (.iastore, 1) := by decide +kernel
theorem d194_69 : decode (cm_M 194).2.2.1 69 = .ok (.aload_n 0, 1) := by decide +kernel
theorem d194_70 : decode (cm_M 194).2.2.1 70 = .ok (.iload_n 3, 1) := by decide +kernel
theorem d194_71 : decode (cm_M 194).2.2.1 71 = .ok (.iconst 1, 1) := by decide +kernel
theorem d194_72 : decode (cm_M 194).2.2.1 72 = .ok (.iload 5, 2) := by decide +kernel
theorem d194_74 : decode (cm_M 194).2.2.1 74 = .ok (.invokevirtual 338, 3) := by decide +kernel
theorem d194_77 : decode (cm_M 194).2.2.1 77 = .ok (.iinc 3 (-1), 3) := by decide +kernel
theorem d194_80 : decode (cm_M 194).2.2.1 80 = .ok (.goto (-70), 3) := by decide +kernel
theorem d194_83 : decode (cm_M 194).2.2.1 83 = .ok (.aload_n 0, 1) := by decide +kernel
theorem d194_84 : decode (cm_M 194).2.2.1 84 = .ok (.getfield 64, 3) := by decide +kernel
theorem d194_87 : decode (cm_M 194).2.2.1 87 = .ok (.iload_n 1, 1) := by decide +kernel
theorem d194_88 : decode (cm_M 194).2.2.1 88 = .ok (.iaload, 1) := by decide +kernel
theorem d194_89 : decode (cm_M 194).2.2.1 89 = .ok (.iconst (-1), 1) := by decide +kernel
theorem d194_90 : decode (cm_M 194).2.2.1 90 = .ok (.if_icmp .ne 13, 3) := by decide +kernel
theorem d194_93 : decode (cm_M 194).2.2.1 93 = .ok (.aload_n 0, 1) := by decide +kernel
theorem d194_94 : decode (cm_M 194).2.2.1 94 = .ok (.getfield 123, 3) := by decide +kernel
theorem d194_97 : decode (cm_M 194).2.2.1 97 = .ok (.iload_n 1, 1) := by decide +kernel
theorem d194_98 : decode (cm_M 194).2.2.1 98 = .ok (.iconst 1, 1) := by decide +kernel
theorem d194_99 : decode (cm_M 194).2.2.1 99 = .ok (.bastore, 1) := by decide +kernel
theorem d194_100 : decode (cm_M 194).2.2.1 100 = .ok (.goto 54, 3) := by decide +kernel
theorem d194_103 : decode (cm_M 194).2.2.1 103 = .ok (.iload_n 2, 1) := by decide +kernel
theorem d194_104 : decode (cm_M 194).2.2.1 104 = .ok (.ifCond .le 50, 3) := by decide +kernel
theorem d194_107 : decode (cm_M 194).2.2.1 107 = .ok (.aload_n 0, 1) := by decide +kernel
theorem d194_108 : decode (cm_M 194).2.2.1 108 = .ok (.getfield 102, 3) := by decide +kernel
theorem d194_111 : decode (cm_M 194).2.2.1 111 = .ok (.iload_n 1, 1) := by decide +kernel
theorem d194_112 : decode (cm_M 194).2.2.1 112 = .ok (.iaload, 1) := by decide +kernel
theorem d194_113 : decode (cm_M 194).2.2.1 113 = .ok (.iconst (-1), 1) := by decide +kernel
theorem d194_114 : decode (cm_M 194).2.2.1 114 = .ok (.if_icmp .eq 18, 3) := by decide +kernel
theorem d194_117 : decode (cm_M 194).2.2.1 117 = .ok (.aload_n 0, 1) := by decide +kernel
theorem d194_118 : decode (cm_M 194).2.2.1 118 = .ok (.getfield 67, 3) := by decide +kernel
theorem d194_121 : decode (cm_M 194).2.2.1 121 = .ok (.iload_n 1, 1) := by decide +kernel
theorem d194_122 : decode (cm_M 194).2.2.1 122 = .ok (.iaload, 1) := by decide +kernel
theorem d194_123 : decode (cm_M 194).2.2.1 123 = .ok (.aload_n 0, 1) := by decide +kernel
theorem d194_124 : decode (cm_M 194).2.2.1 124 = .ok (.getfield 105, 3) := by decide +kernel
theorem d194_127 : decode (cm_M 194).2.2.1 127 = .ok (.iload_n 1, 1) := by decide +kernel
theorem d194_128 : decode (cm_M 194).2.2.1 128 = .ok (.iaload, 1) := by decide +kernel
theorem d194_129 : decode (cm_M 194).2.2.1 129 = .ok (.if_icmp .ge 25, 3) := by decide +kernel
theorem d194_132 : decode (cm_M 194).2.2.1 132 = .ok (.aload_n 0, 1) := by decide +kernel
theorem d194_133 : decode (cm_M 194).2.2.1 133 = .ok (.getfield 102, 3) := by decide +kernel
theorem d194_136 : decode (cm_M 194).2.2.1 136 = .ok (.iload_n 1, 1) := by decide +kernel
theorem d194_137 : decode (cm_M 194).2.2.1 137 = .ok (.aload_n 0, 1) := by decide +kernel
theorem d194_138 : decode (cm_M 194).2.2.1 138 = .ok (.getfield 330, 3) := by decide +kernel
theorem d194_141 : decode (cm_M 194).2.2.1 141 = .ok (.iastore, 1) := by decide +kernel
theorem d194_142 : decode (cm_M 194).2.2.1 142 = .ok (.aload_n 0, 1) := by decide +kernel
theorem d194_143 : decode (cm_M 194).2.2.1 143 = .ok (.getfield 105, 3) := by decide +kernel
theorem d194_146 : decode (cm_M 194).2.2.1 146 = .ok (.iload_n 1, 1) := by decide +kernel
theorem d194_147 : decode (cm_M 194).2.2.1 147 = .ok (.aload_n 0, 1) := by decide +kernel
theorem d194_148 : decode (cm_M 194).2.2.1 148 = .ok (.getfield 67, 3) := by decide +kernel
theorem d194_151 : decode (cm_M 194).2.2.1 151 = .ok (.iload_n 1, 1) := by decide +kernel
theorem d194_152 : decode (cm_M 194).2.2.1 152 = .ok (.iaload, 1) := by decide +kernel
theorem d194_153 : decode (cm_M 194).2.2.1 153 = .ok (.iastore, 1) := by decide +kernel
theorem d194_154 : decode (cm_M 194).2.2.1 154 = .ok (.return_, 1) := by decide +kernel
theorem s194_0 {sc : cmS} {d : Nat} {h : cmH} {Q : Option Value → cmH → Prop} (L : LY h) (x1 : Int32) (u2 : Option Value) (u3 : Option Value) (u4 : Option Value) (u5 : Option Value) (H : cm_cv sc d 192 [.ref 38, .int x1] h (fun h' => cm_wp sc (d + 1) 194 7 [some (.ref 38), some (.int x1), some (.int (0 : Int32)), u3, u4, u5] [] h' Q)) : cm_wp sc (d + 1) 194 0 [some (.ref 38), some (.int x1), u2, u3, u4, u5] [] h Q :=
  wl_ic (v := 0) d194_0 rfl (wl_st (ls' := [some (.ref 38), some (.int x1), some (.int (0 : Int32)), u3, u4, u5]) d194_1 rfl rfl rfl rfl (wl_st d194_2 rfl rfl rfl rfl (wl_st d194_3 rfl rfl rfl rfl (wl_cv d194_4 rfl rfl rfl pm11_336 (by decide) (ca_v (Or.inl rfl) rfl (Nat.le_of_ble_eq_true rfl) (Nat.le_of_ble_eq_true rfl) (ly_k L 38 rfl).2 (ly_k L 38 rfl).1 (by decide)) H))))
theorem s194_7 {sc : cmS} {d : Nat} {h : cmH} {Q : Option Value → cmH → Prop} (x1 : Int32) (x2 : Int32) (u3 : Option Value) (u4 : Option Value) (u5 : Option Value) (H : cm_wp sc d 194 10 [some (.ref 38), some (.int x1), some (.int x2), some (.int (7 : Int32)), u4, u5] [] h Q) : cm_wp sc d 194 7 [some (.ref 38), some (.int x1), some (.int x2), u3, u4, u5] [] h Q :=
  wl_bi (v := 7) d194_7 rfl (wl_st (ls' := [some (.ref 38), some (.int x1), some (.int x2), some (.int (7 : Int32)), u4, u5]) d194_9 rfl rfl rfl rfl (H))
theorem s194_10 {sc : cmS} {d : Nat} {h : cmH} {Q : Option Value → cmH → Prop} (L : LY h) (x1 : Int32) (x2 : Int32) (x3 : Int32) (u4 : Option Value) (u5 : Option Value) (H : (((x3 < 0) → (IX 9 x1) ∧ (((¬ (cm_I h 57 x1.toNatClampNeg) = (-1 : Int32)) → (((x2 ≤ 0) → Q none h) ∧ (¬ (x2 ≤ 0) → (IX 8 x1) ∧ ((((cm_I h 69 x1.toNatClampNeg) = (-1 : Int32)) → cm_wp sc (d + 1) 194 132 [some (.ref 38), some (.int x1), some (.int x2), some (.int x3), u4, u5] [] h Q) ∧ (¬ ((cm_I h 69 x1.toNatClampNeg) = (-1 : Int32)) → ((((cm_I h 70 x1.toNatClampNeg) ≤ (cm_I h 58 x1.toNatClampNeg)) → Q none h) ∧ (¬ ((cm_I h 70 x1.toNatClampNeg) ≤ (cm_I h 58 x1.toNatClampNeg)) → cm_wp sc (d + 1) 194 132 [some (.ref 38), some (.int x1), some (.int x2), some (.int x3), u4, u5] [] h Q))))))) ∧ (¬ (¬ (cm_I h 57 x1.toNatClampNeg) = (-1 : Int32)) → (IX 8 x1) ∧ Q none (cm_setI h 76 x1.toNatClampNeg (vp_nar .boolean (1 : Int32)))))) ∧ (¬ (x3 < 0) → cm_ci sc d 195 [.ref 38, .int x1, .int x3] h (fun r h' => cm_wp sc (d + 1) 194 20 [some (.ref 38), some (.int x1), some (.int x2), some (.int x3), u4, u5] [.int r] h' Q)))) : cm_wp sc (d + 1) 194 10 [some (.ref 38), some (.int x1), some (.int x2), some (.int x3), u4, u5] [] h Q :=
  wl_st d194_10 rfl rfl rfl rfl (wl_cb (b := x3 < 0) (off := 72) (tgt := 83) (pc3 := 14) (st' := []) d194_11 rfl rfl rfl rfl (by decide) rfl (fun c1 => wl_st d194_83 rfl rfl rfl rfl (wl_gr (b := 57) d194_84 pf11_64 (ly_k L 38 rfl) rfl (ly_r L 38 20 rfl) (wl_st d194_87 rfl rfl rfl rfl (And.elim (fun g2 g2k => wl_if (g := cm_ok h 13 57 x1) (st' := [.int (cm_I h 57 x1.toNatClampNeg)]) d194_88 rfl rfl rfl rfl (ly_o L 57 rfl g2) (wl_ic (v := (-1)) d194_89 rfl (wl_cb (b := ¬ (cm_I h 57 x1.toNatClampNeg) = (-1 : Int32)) (off := 13) (tgt := 103) (pc3 := 93) (st' := []) d194_90 rfl rfl rfl rfl (by decide) rfl (fun c3 => wl_st d194_103 rfl rfl rfl rfl (wl_cb (b := x2 ≤ 0) (off := 50) (tgt := 154) (pc3 := 107) (st' := []) d194_104 rfl rfl rfl rfl (by decide) rfl (fun c4 => wl_rt d194_154 rfl rfl rfl ((g2k.1 c3).1 c4)) (fun c4 => wl_st d194_107 rfl rfl rfl rfl (wl_gr (b := 69) d194_108 pf11_102 (ly_k L 38 rfl) rfl (ly_r L 38 40 rfl) (wl_st d194_111 rfl rfl rfl rfl (And.elim (fun g5 g5k => wl_if (g := cm_ok h 13 69 x1) (st' := [.int (cm_I h 69 x1.toNatClampNeg)]) d194_112 rfl rfl rfl rfl (ly_o L 69 rfl g5) (wl_ic (v := (-1)) d194_113 rfl (wl_cb (b := (cm_I h 69 x1.toNatClampNeg) = (-1 : Int32)) (off := 18) (tgt := 132) (pc3 := 117) (st' := []) d194_114 rfl rfl rfl rfl (by decide) rfl (fun c6 => (g5k.1 c6)) (fun c6 => wl_st d194_117 rfl rfl rfl rfl (wl_gr (b := 58) d194_118 pf11_67 (ly_k L 38 rfl) rfl (ly_r L 38 21 rfl) (wl_st d194_121 rfl rfl rfl rfl (wl_if (g := cm_ok h 13 58 x1) (st' := [.int (cm_I h 58 x1.toNatClampNeg)]) d194_122 rfl rfl rfl rfl (ly_o L 58 rfl g2) (wl_st d194_123 rfl rfl rfl rfl (wl_gr (b := 70) d194_124 pf11_105 (ly_k L 38 rfl) rfl (ly_r L 38 41 rfl) (wl_st d194_127 rfl rfl rfl rfl (wl_if (g := cm_ok h 13 70 x1) (st' := [.int (cm_I h 70 x1.toNatClampNeg), .int (cm_I h 58 x1.toNatClampNeg)]) d194_128 rfl rfl rfl rfl (ly_o L 70 rfl g5) (wl_cb (b := (cm_I h 70 x1.toNatClampNeg) ≤ (cm_I h 58 x1.toNatClampNeg)) (off := 25) (tgt := 154) (pc3 := 132) (st' := []) d194_129 rfl rfl rfl rfl (by decide) rfl (fun c7 => wl_rt d194_154 rfl rfl rfl ((g5k.2 c6).1 c7)) (fun c7 => ((g5k.2 c6).2 c7)))))))))))))) ((g2k.1 c3).2 c4))))))) (fun c3 => wl_st d194_93 rfl rfl rfl rfl (wl_gr (b := 76) d194_94 pf11_123 (ly_k L 38 rfl) rfl (ly_r L 38 47 rfl) (wl_st d194_97 rfl rfl rfl rfl (wl_ic (v := 1) d194_98 rfl (And.elim (fun g8 g8k => wl_if (h' := (cm_setI h 76 x1.toNatClampNeg (vp_nar .boolean (1 : Int32)))) d194_99 rfl rfl rfl rfl (ly_o L 76 rfl g8) (wl_go (tgt := 154) d194_100 (by decide) (wl_rt d194_154 rfl rfl rfl g8k))) (g2k.2 c3))))))))) (H.1 c1))))) (fun c1 => wl_st d194_14 rfl rfl rfl rfl (wl_st d194_15 rfl rfl rfl rfl (wl_st d194_16 rfl rfl rfl rfl (wl_ci d194_17 rfl rfl rfl pm11_345 (by decide) (ca_v (Or.inl rfl) rfl (Nat.le_of_ble_eq_true rfl) (Nat.le_of_ble_eq_true rfl) (ly_k L 38 rfl).2 (ly_k L 38 rfl).1 (by decide)) (H.2 c1))))))
theorem s194_20 {sc : cmS} {d : Nat} {h : cmH} {Q : Option Value → cmH → Prop} (L : LY h) (x1 : Int32) (x2 : Int32) (x3 : Int32) (u4 : Option Value) (u5 : Option Value) (sx0 : Int32) (H : (IX 9 x1) ∧ (((¬ (cm_I h 57 x1.toNatClampNeg) = (-1 : Int32)) → cm_ci sc d 196 [.ref 38, .int x1, .int x3, .int sx0] h (fun r h' => cm_wp sc (d + 1) 194 56 [some (.ref 38), some (.int x1), some (.int (x2 + sx0)), some (.int x3), some (.int sx0), u5] [.int r] h' Q)) ∧ (¬ (¬ (cm_I h 57 x1.toNatClampNeg) = (-1 : Int32)) → cm_cv sc d 193 [.ref 38, .int x3, .int (2 : Int32), .int sx0] h (fun h' => cm_wp sc (d + 1) 194 45 [some (.ref 38), some (.int x1), some (.int (x2 + sx0)), some (.int x3), some (.int sx0), u5] [] h' Q)))) : cm_wp sc (d + 1) 194 20 [some (.ref 38), some (.int x1), some (.int x2), some (.int x3), u4, u5] [.int sx0] h Q :=
  wl_st (ls' := [some (.ref 38), some (.int x1), some (.int x2), some (.int x3), some (.int sx0), u5]) d194_20 rfl rfl rfl rfl (wl_st d194_22 rfl rfl rfl rfl (wl_st d194_23 rfl rfl rfl rfl (wl_st d194_25 rfl rfl rfl rfl (wl_st (ls' := [some (.ref 38), some (.int x1), some (.int (x2 + sx0)), some (.int x3), some (.int sx0), u5]) d194_26 rfl rfl rfl rfl (wl_st d194_27 rfl rfl rfl rfl (wl_gr (b := 57) d194_28 pf11_64 (ly_k L 38 rfl) rfl (ly_r L 38 20 rfl) (wl_st d194_31 rfl rfl rfl rfl (And.elim (fun g1 g1k => wl_if (g := cm_ok h 13 57 x1) (st' := [.int (cm_I h 57 x1.toNatClampNeg)]) d194_32 rfl rfl rfl rfl (ly_o L 57 rfl g1) (wl_ic (v := (-1)) d194_33 rfl (wl_cb (b := ¬ (cm_I h 57 x1.toNatClampNeg) = (-1 : Int32)) (off := 14) (tgt := 48) (pc3 := 37) (st' := []) d194_34 rfl rfl rfl rfl (by decide) rfl (fun c2 => wl_st d194_48 rfl rfl rfl rfl (wl_st d194_49 rfl rfl rfl rfl (wl_st d194_50 rfl rfl rfl rfl (wl_st d194_51 rfl rfl rfl rfl (wl_ci d194_53 rfl rfl rfl pm11_348 (by decide) (ca_v (Or.inl rfl) rfl (Nat.le_of_ble_eq_true rfl) (Nat.le_of_ble_eq_true rfl) (ly_k L 38 rfl).2 (ly_k L 38 rfl).1 (by decide)) (g1k.1 c2)))))) (fun c2 => wl_st d194_37 rfl rfl rfl rfl (wl_st d194_38 rfl rfl rfl rfl (wl_ic (v := 2) d194_39 rfl (wl_st d194_40 rfl rfl rfl rfl (wl_cv d194_42 rfl rfl rfl pm11_338 (by decide) (ca_v (Or.inl rfl) rfl (Nat.le_of_ble_eq_true rfl) (Nat.le_of_ble_eq_true rfl) (ly_k L 38 rfl).2 (ly_k L 38 rfl).1 (by decide)) (g1k.2 c2))))))))) H))))))))
theorem s194_45 {sc : cmS} {d : Nat} {h : cmH} {Q : Option Value → cmH → Prop} (x1 : Int32) (x2 : Int32) (x3 : Int32) (x4 : Int32) (u5 : Option Value) (H : cm_wp sc d 194 77 [some (.ref 38), some (.int x1), some (.int x2), some (.int x3), some (.int x4), u5] [] h Q) : cm_wp sc d 194 45 [some (.ref 38), some (.int x1), some (.int x2), some (.int x3), some (.int x4), u5] [] h Q :=
  wl_go (tgt := 77) d194_45 (by decide) (H)
theorem s194_56 {sc : cmS} {d : Nat} {h : cmH} {Q : Option Value → cmH → Prop} (L : LY h) (x1 : Int32) (x2 : Int32) (x3 : Int32) (x4 : Int32) (u5 : Option Value) (sx0 : Int32) (H : (IX 9 x1) ∧ cm_cv sc d 193 [.ref 38, .int x3, .int (1 : Int32), .int sx0] (cm_setI h 58 x1.toNatClampNeg ((cm_I h 58 x1.toNatClampNeg) + sx0)) (fun h' => cm_wp sc (d + 1) 194 77 [some (.ref 38), some (.int x1), some (.int x2), some (.int x3), some (.int x4), some (.int sx0)] [] h' Q)) : cm_wp sc (d + 1) 194 56 [some (.ref 38), some (.int x1), some (.int x2), some (.int x3), some (.int x4), u5] [.int sx0] h Q :=
  wl_st (ls' := [some (.ref 38), some (.int x1), some (.int x2), some (.int x3), some (.int x4), some (.int sx0)]) d194_56 rfl rfl rfl rfl (wl_st d194_58 rfl rfl rfl rfl (wl_gr (b := 58) d194_59 pf11_67 (ly_k L 38 rfl) rfl (ly_r L 38 21 rfl) (wl_st d194_62 rfl rfl rfl rfl (wl_st d194_63 rfl rfl rfl rfl (And.elim (fun g1 g1k => wl_if (g := cm_ok h 13 58 x1) (st' := [.int (cm_I h 58 x1.toNatClampNeg), .int x1, .ref 58]) d194_64 rfl rfl rfl rfl (ly_o L 58 rfl g1) (wl_st d194_65 rfl rfl rfl rfl (wl_st d194_67 rfl rfl rfl rfl (wl_if (h' := (cm_setI h 58 x1.toNatClampNeg ((cm_I h 58 x1.toNatClampNeg) + sx0))) d194_68 rfl rfl rfl rfl (ly_o L 58 rfl g1) (wl_st d194_69 rfl rfl rfl rfl (wl_st d194_70 rfl rfl rfl rfl (wl_ic (v := 1) d194_71 rfl (wl_st d194_72 rfl rfl rfl rfl (wl_cv d194_74 rfl rfl rfl pm11_338 (by decide) (ca_v (Or.inl rfl) rfl (Nat.le_of_ble_eq_true rfl) (Nat.le_of_ble_eq_true rfl) (ly_k L 38 rfl).2 (ly_k L 38 rfl).1 (by decide)) g1k))))))))) H)))))
theorem s194_77 {sc : cmS} {d : Nat} {h : cmH} {Q : Option Value → cmH → Prop} (x1 : Int32) (x2 : Int32) (x3 : Int32) (x4 : Int32) (u5 : Option Value) (H : cm_wp sc d 194 10 [some (.ref 38), some (.int x1), some (.int x2), some (.int (x3 + (-1))), some (.int x4), u5] [] h Q) : cm_wp sc d 194 77 [some (.ref 38), some (.int x1), some (.int x2), some (.int x3), some (.int x4), u5] [] h Q :=
  wl_st (ls' := [some (.ref 38), some (.int x1), some (.int x2), some (.int (x3 + (-1))), some (.int x4), u5]) d194_77 rfl rfl rfl rfl (wl_go (tgt := 10) d194_80 (by decide) (H))
theorem s194_132 {sc : cmS} {d : Nat} {h : cmH} {Q : Option Value → cmH → Prop} (L : LY h) (x1 : Int32) (x2 : Int32) (x3 : Int32) (u4 : Option Value) (u5 : Option Value) (H : (IX 8 x1) ∧ (IX 9 x1) ∧ Q none (cm_setI (cm_setI h 69 x1.toNatClampNeg (cm_I h 38 0)) 70 x1.toNatClampNeg (cm_I h 58 x1.toNatClampNeg))) : cm_wp sc d 194 132 [some (.ref 38), some (.int x1), some (.int x2), some (.int x3), u4, u5] [] h Q :=
  wl_st d194_132 rfl rfl rfl rfl (wl_gr (b := 69) d194_133 pf11_102 (ly_k L 38 rfl) rfl (ly_r L 38 40 rfl) (wl_st d194_136 rfl rfl rfl rfl (wl_st d194_137 rfl rfl rfl rfl (wl_gf (v := .int (cm_I h 38 0)) d194_138 pf11_330 (ly_k L 38 rfl) rfl (And.elim (fun g1 g1k => wl_if (h' := (cm_setI h 69 x1.toNatClampNeg (cm_I h 38 0))) d194_141 rfl rfl rfl rfl (ly_o L 69 rfl g1) (wl_st d194_142 rfl rfl rfl rfl (wl_gr (b := 70) d194_143 pf11_105 (ly_k L 38 rfl) rfl (ly_r L 38 41 rfl) (wl_st d194_146 rfl rfl rfl rfl (wl_st d194_147 rfl rfl rfl rfl (wl_gr (b := 58) d194_148 pf11_67 (ly_k L 38 rfl) rfl (ly_r L 38 21 rfl) (wl_st d194_151 rfl rfl rfl rfl (And.elim (fun g2 g2k => wl_if (g := cm_ok (cm_setI h 69 x1.toNatClampNeg (cm_I h 38 0)) 13 58 x1) (st' := [.int (cm_I h 58 x1.toNatClampNeg), .int x1, .ref 70]) d194_152 rfl rfl rfl rfl (ly_o L 58 rfl g2) (wl_if (h' := (cm_setI (cm_setI h 69 x1.toNatClampNeg (cm_I h 38 0)) 70 x1.toNatClampNeg (cm_I h 58 x1.toNatClampNeg))) d194_153 rfl rfl rfl rfl (ly_o L 70 rfl g1) (wl_rt d194_154 rfl rfl rfl g2k))) g1k)))))))) H)))))
-- ClogHouseModel.partOf(II)I
theorem d195_0 : decode (cm_M 195).2.2.1 0 = .ok (.aload_n 0, 1) := by decide +kernel
theorem d195_1 : decode (cm_M 195).2.2.1 1 = .ok (.getfield 95, 3) := by decide +kernel
theorem d195_4 : decode (cm_M 195).2.2.1 4 = .ok (.iload_n 2, 1) := by decide +kernel
theorem d195_5 : decode (cm_M 195).2.2.1 5 = .ok (.iaload, 1) := by decide +kernel
theorem d195_6 : decode (cm_M 195).2.2.1 6 = .ok (.i2l, 1) := by decide +kernel
theorem d195_7 : decode (cm_M 195).2.2.1 7 = .ok (.aload_n 0, 1) := by decide +kernel
theorem d195_8 : decode (cm_M 195).2.2.1 8 = .ok (.getfield 61, 3) := by decide +kernel
theorem d195_11 : decode (cm_M 195).2.2.1 11 = .ok (.iload_n 1, 1) := by decide +kernel
theorem d195_12 : decode (cm_M 195).2.2.1 12 = .ok (.iaload, 1) := by decide +kernel
theorem d195_13 : decode (cm_M 195).2.2.1 13 = .ok (.i2l, 1) := by decide +kernel
theorem d195_14 : decode (cm_M 195).2.2.1 14 = .ok (.lmul, 1) := by decide +kernel
theorem d195_15 : decode (cm_M 195).2.2.1 15 = .ok (.aload_n 0, 1) := by decide +kernel
theorem d195_16 : decode (cm_M 195).2.2.1 16 = .ok (.getfield 319, 3) := by decide +kernel
theorem d195_19 : decode (cm_M 195).2.2.1 19 = .ok (.i2l, 1) := by decide +kernel
theorem d195_20 : decode (cm_M 195).2.2.1 20 = .ok (.ldiv, 1) := by decide +kernel
theorem d195_21 : decode (cm_M 195).2.2.1 21 = .ok (.l2i, 1) := by decide +kernel
theorem d195_22 : decode (cm_M 195).2.2.1 22 = .ok (.istore_n 3, 1) := by decide +kernel
theorem d195_23 : decode (cm_M 195).2.2.1 23 = .ok (.aload_n 0, 1) := by decide +kernel
theorem d195_24 : decode (cm_M 195).2.2.1 24 = .ok (.getfield 95, 3) := by decide +kernel
theorem d195_27 : decode (cm_M 195).2.2.1 27 = .ok (.iload_n 2, 1) := by decide +kernel
theorem d195_28 : decode (cm_M 195).2.2.1 28 = .ok (.iaload, 1) := by decide +kernel
theorem d195_29 : decode (cm_M 195).2.2.1 29 = .ok (.istore 4, 2) := by decide +kernel
theorem d195_31 : decode (cm_M 195).2.2.1 31 = .ok (.iconst 0, 1) := by decide +kernel
theorem d195_32 : decode (cm_M 195).2.2.1 32 = .ok (.istore 5, 2) := by decide +kernel
theorem d195_34 : decode (cm_M 195).2.2.1 34 = .ok (.iconst 0, 1) := by decide +kernel
theorem d195_35 : decode (cm_M 195).2.2.1 35 = .ok (.istore 6, 2) := by decide +kernel
theorem d195_37 : decode (cm_M 195).2.2.1 37 = .ok (.iload 6, 2) := by decide +kernel
theorem d195_39 : decode (cm_M 195).2.2.1 39 = .ok (.aload_n 0, 1) := by decide +kernel
theorem d195_40 : decode (cm_M 195).2.2.1 40 = .ok (.getfield 165, 3) := by decide +kernel
theorem d195_43 : decode (cm_M 195).2.2.1 43 = .ok (.if_icmp .ge 63, 3) := by decide +kernel
theorem d195_46 : decode (cm_M 195).2.2.1 46 = .ok (.iload 4, 2) := by decide +kernel
theorem d195_48 : decode (cm_M 195).2.2.1 48 = .ok (.aload_n 0, 1) := by decide +kernel
theorem d195_49 : decode (cm_M 195).2.2.1 49 = .ok (.getfield 95, 3) := by decide +kernel
theorem d195_52 : decode (cm_M 195).2.2.1 52 = .ok (.iload_n 2, 1) := by decide +kernel
theorem d195_53 : decode (cm_M 195).2.2.1 53 = .ok (.iaload, 1) := by decide +kernel
theorem d195_54 : decode (cm_M 195).2.2.1 54 = .ok (.i2l, 1) := by decide +kernel
theorem d195_55 : decode (cm_M 195).2.2.1 55 = .ok (.aload_n 0, 1) := by decide +kernel
theorem d195_56 : decode (cm_M 195).2.2.1 56 = .ok (.getfield 61, 3) := by decide +kernel
theorem d195_59 : decode (cm_M 195).2.2.1 59 = .ok (.iload 6, 2) := by decide +kernel
theorem d195_61 : decode (cm_M 195).2.2.1 61 = .ok (.iaload, 1) := by decide +kernel
theorem d195_62 : decode (cm_M 195).2.2.1 62 = .ok (.i2l, 1) := by decide +kernel
theorem d195_63 : decode (cm_M 195).2.2.1 63 = .ok (.lmul, 1) := by decide +kernel
theorem d195_64 : decode (cm_M 195).2.2.1 64 = .ok (.aload_n 0, 1) := by decide +kernel
theorem d195_65 : decode (cm_M 195).2.2.1 65 = .ok (.getfield 319, 3) := by decide +kernel
theorem d195_68 : decode (cm_M 195).2.2.1 68 = .ok (.i2l, 1) := by decide +kernel
theorem d195_69 : decode (cm_M 195).2.2.1 69 = .ok (.ldiv, 1) := by decide +kernel
theorem d195_70 : decode (cm_M 195).2.2.1 70 = .ok (.l2i, 1) := by decide +kernel
theorem d195_71 : decode (cm_M 195).2.2.1 71 = .ok (.isub, 1) := by decide +kernel
theorem d195_72 : decode (cm_M 195).2.2.1 72 = .ok (.istore 4, 2) := by decide +kernel
theorem d195_74 : decode (cm_M 195).2.2.1 74 = .ok (.iload 5, 2) := by decide +kernel
theorem d195_76 : decode (cm_M 195).2.2.1 76 = .ok (.iload 6, 2) := by decide +kernel
theorem d195_78 : decode (cm_M 195).2.2.1 78 = .ok (.iload_n 1, 1) := by decide +kernel
theorem d195_79 : decode (cm_M 195).2.2.1 79 = .ok (.if_icmp .ge 17, 3) := by decide +kernel
theorem d195_82 : decode (cm_M 195).2.2.1 82 = .ok (.aload_n 0, 1) := by decide +kernel
theorem d195_83 : decode (cm_M 195).2.2.1 83 = .ok (.getfield 61, 3) := by decide +kernel
theorem d195_86 : decode (cm_M 195).2.2.1 86 = .ok (.iload 6, 2) := by decide +kernel
theorem d195_88 : decode (cm_M 195).2.2.1 88 = .ok (.iaload, 1) := by decide +kernel
theorem d195_89 : decode (cm_M 195).2.2.1 89 = .ok (.ifCond .le 7, 3) := by decide +kernel
theorem d195_92 : decode (cm_M 195).2.2.1 92 = .ok (.iconst 1, 1) := by decide +kernel
theorem d195_93 : decode (cm_M 195).2.2.1 93 = .ok (.goto 4, 3) := by decide +kernel
theorem d195_96 : decode (cm_M 195).2.2.1 96 = .ok (.iconst 0, 1) := by decide +kernel
theorem d195_97 : decode (cm_M 195).2.2.1 97 = .ok (.iadd, 1) := by decide +kernel
theorem d195_98 : decode (cm_M 195).2.2.1 98 = .ok (.istore 5, 2) := by decide +kernel
theorem d195_100 : decode (cm_M 195).2.2.1 100 = .ok (.iinc 6 1, 3) := by decide +kernel
theorem d195_103 : decode (cm_M 195).2.2.1 103 = .ok (.goto (-66), 3) := by decide +kernel
theorem d195_106 : decode (cm_M 195).2.2.1 106 = .ok (.iload_n 3, 1) := by decide +kernel
theorem d195_107 : decode (cm_M 195).2.2.1 107 = .ok (.iload 5, 2) := by decide +kernel
theorem d195_109 : decode (cm_M 195).2.2.1 109 = .ok (.iload 4, 2) := by decide +kernel
theorem d195_111 : decode (cm_M 195).2.2.1 111 = .ok (.if_icmp .ge 7, 3) := by decide +kernel
theorem d195_114 : decode (cm_M 195).2.2.1 114 = .ok (.iconst 1, 1) := by decide +kernel
theorem d195_115 : decode (cm_M 195).2.2.1 115 = .ok (.goto 4, 3) := by decide +kernel
theorem d195_118 : decode (cm_M 195).2.2.1 118 = .ok (.iconst 0, 1) := by decide +kernel
theorem d195_119 : decode (cm_M 195).2.2.1 119 = .ok (.iadd, 1) := by decide +kernel
theorem d195_120 : decode (cm_M 195).2.2.1 120 = .ok (.ireturn, 1) := by decide +kernel
theorem s195_0 {sc : cmS} {d : Nat} {h : cmH} {Q : Option Value → cmH → Prop} (L : LY h) (x1 : Int32) (x2 : Int32) (u3 : Option Value) (u4 : Option Value) (u5 : Option Value) (u6 : Option Value) (H : (IX 8 x2) ∧ (IX 9 x1) ∧ (¬ (cm_I h 38 48).toInt64 = 0) ∧ cm_wp sc d 195 37 [some (.ref 38), some (.int x1), some (.int x2), some (.int (((((cm_I h 67 x2.toNatClampNeg).toInt64) * ((cm_I h 56 x1.toNatClampNeg).toInt64)) / ((cm_I h 38 48).toInt64)).toInt32)), some (.int (cm_I h 67 x2.toNatClampNeg)), some (.int (0 : Int32)), some (.int (0 : Int32))] [] h Q) : cm_wp sc d 195 0 [some (.ref 38), some (.int x1), some (.int x2), u3, u4, u5, u6] [] h Q :=
  wl_st d195_0 rfl rfl rfl rfl (wl_gr (b := 67) d195_1 pf11_95 (ly_k L 38 rfl) rfl (ly_r L 38 38 rfl) (wl_st d195_4 rfl rfl rfl rfl (And.elim (fun g1 g1k => wl_if (g := cm_ok h 13 67 x2) (st' := [.int (cm_I h 67 x2.toNatClampNeg)]) d195_5 rfl rfl rfl rfl (ly_o L 67 rfl g1) (wl_st d195_6 rfl rfl rfl rfl (wl_st d195_7 rfl rfl rfl rfl (wl_gr (b := 56) d195_8 pf11_61 (ly_k L 38 rfl) rfl (ly_r L 38 19 rfl) (wl_st d195_11 rfl rfl rfl rfl (And.elim (fun g2 g2k => wl_if (g := cm_ok h 13 56 x1) (st' := [.int (cm_I h 56 x1.toNatClampNeg), .long ((cm_I h 67 x2.toNatClampNeg).toInt64)]) d195_12 rfl rfl rfl rfl (ly_o L 56 rfl g2) (wl_st d195_13 rfl rfl rfl rfl (wl_st d195_14 rfl rfl rfl rfl (wl_st d195_15 rfl rfl rfl rfl (wl_gf (v := .int (cm_I h 38 48)) d195_16 pf11_319 (ly_k L 38 rfl) rfl (wl_st d195_19 rfl rfl rfl rfl (And.elim (fun g3 g3k => wl_ne (g := (cm_I h 38 48).toInt64 = 0) d195_20 rfl rfl rfl rfl g3 (wl_st d195_21 rfl rfl rfl rfl (wl_st (ls' := [some (.ref 38), some (.int x1), some (.int x2), some (.int (((((cm_I h 67 x2.toNatClampNeg).toInt64) * ((cm_I h 56 x1.toNatClampNeg).toInt64)) / ((cm_I h 38 48).toInt64)).toInt32)), u4, u5, u6]) d195_22 rfl rfl rfl rfl (wl_st d195_23 rfl rfl rfl rfl (wl_gr (b := 67) d195_24 pf11_95 (ly_k L 38 rfl) rfl (ly_r L 38 38 rfl) (wl_st d195_27 rfl rfl rfl rfl (wl_if (g := cm_ok h 13 67 x2) (st' := [.int (cm_I h 67 x2.toNatClampNeg)]) d195_28 rfl rfl rfl rfl (ly_o L 67 rfl g1) (wl_st (ls' := [some (.ref 38), some (.int x1), some (.int x2), some (.int (((((cm_I h 67 x2.toNatClampNeg).toInt64) * ((cm_I h 56 x1.toNatClampNeg).toInt64)) / ((cm_I h 38 48).toInt64)).toInt32)), some (.int (cm_I h 67 x2.toNatClampNeg)), u5, u6]) d195_29 rfl rfl rfl rfl (wl_ic (v := 0) d195_31 rfl (wl_st (ls' := [some (.ref 38), some (.int x1), some (.int x2), some (.int (((((cm_I h 67 x2.toNatClampNeg).toInt64) * ((cm_I h 56 x1.toNatClampNeg).toInt64)) / ((cm_I h 38 48).toInt64)).toInt32)), some (.int (cm_I h 67 x2.toNatClampNeg)), some (.int (0 : Int32)), u6]) d195_32 rfl rfl rfl rfl (wl_ic (v := 0) d195_34 rfl (wl_st (ls' := [some (.ref 38), some (.int x1), some (.int x2), some (.int (((((cm_I h 67 x2.toNatClampNeg).toInt64) * ((cm_I h 56 x1.toNatClampNeg).toInt64)) / ((cm_I h 38 48).toInt64)).toInt32)), some (.int (cm_I h 67 x2.toNatClampNeg)), some (.int (0 : Int32)), some (.int (0 : Int32))]) d195_35 rfl rfl rfl rfl (g3k))))))))))))) g2k))))))) g1k)))))) H)))
theorem s195_37 {sc : cmS} {d : Nat} {h : cmH} {Q : Option Value → cmH → Prop} (L : LY h) (x1 : Int32) (x2 : Int32) (x3 : Int32) (x4 : Int32) (x5 : Int32) (x6 : Int32) (H : ((((cm_I h 38 24) ≤ x6) → (((x4 ≤ x5) → Q (some (.int (x3 + (0 : Int32)))) h) ∧ (¬ (x4 ≤ x5) → Q (some (.int (x3 + (1 : Int32)))) h))) ∧ (¬ ((cm_I h 38 24) ≤ x6) → (IX 8 x2) ∧ (IX 9 x6) ∧ (¬ (cm_I h 38 48).toInt64 = 0) ∧ (((x1 ≤ x6) → cm_wp sc d 195 96 [some (.ref 38), some (.int x1), some (.int x2), some (.int x3), some (.int (x4 - (((((cm_I h 67 x2.toNatClampNeg).toInt64) * ((cm_I h 56 x6.toNatClampNeg).toInt64)) / ((cm_I h 38 48).toInt64)).toInt32))), some (.int x5), some (.int x6)] [.int x5] h Q) ∧ (¬ (x1 ≤ x6) → ((((cm_I h 56 x6.toNatClampNeg) ≤ 0) → cm_wp sc d 195 96 [some (.ref 38), some (.int x1), some (.int x2), some (.int x3), some (.int (x4 - (((((cm_I h 67 x2.toNatClampNeg).toInt64) * ((cm_I h 56 x6.toNatClampNeg).toInt64)) / ((cm_I h 38 48).toInt64)).toInt32))), some (.int x5), some (.int x6)] [.int x5] h Q) ∧ (¬ ((cm_I h 56 x6.toNatClampNeg) ≤ 0) → cm_wp sc d 195 97 [some (.ref 38), some (.int x1), some (.int x2), some (.int x3), some (.int (x4 - (((((cm_I h 67 x2.toNatClampNeg).toInt64) * ((cm_I h 56 x6.toNatClampNeg).toInt64)) / ((cm_I h 38 48).toInt64)).toInt32))), some (.int x5), some (.int x6)] [.int (1 : Int32), .int x5] h Q))))))) : cm_wp sc d 195 37 [some (.ref 38), some (.int x1), some (.int x2), some (.int x3), some (.int x4), some (.int x5), some (.int x6)] [] h Q :=
  wl_st d195_37 rfl rfl rfl rfl (wl_st d195_39 rfl rfl rfl rfl (wl_gf (v := .int (cm_I h 38 24)) d195_40 pf11_165 (ly_k L 38 rfl) rfl (wl_cb (b := (cm_I h 38 24) ≤ x6) (off := 63) (tgt := 106) (pc3 := 46) (st' := []) d195_43 rfl rfl rfl rfl (by decide) rfl (fun c1 => wl_st d195_106 rfl rfl rfl rfl (wl_st d195_107 rfl rfl rfl rfl (wl_st d195_109 rfl rfl rfl rfl (wl_cb (b := x4 ≤ x5) (off := 7) (tgt := 118) (pc3 := 114) (st' := [.int x3]) d195_111 rfl rfl rfl rfl (by decide) rfl (fun c2 => wl_ic (v := 0) d195_118 rfl (wl_st d195_119 rfl rfl rfl rfl (wl_rt d195_120 rfl rfl rfl ((H.1 c1).1 c2)))) (fun c2 => wl_ic (v := 1) d195_114 rfl (wl_go (tgt := 119) d195_115 (by decide) (wl_st d195_119 rfl rfl rfl rfl (wl_rt d195_120 rfl rfl rfl ((H.1 c1).2 c2))))))))) (fun c1 => wl_st d195_46 rfl rfl rfl rfl (wl_st d195_48 rfl rfl rfl rfl (wl_gr (b := 67) d195_49 pf11_95 (ly_k L 38 rfl) rfl (ly_r L 38 38 rfl) (wl_st d195_52 rfl rfl rfl rfl (And.elim (fun g3 g3k => wl_if (g := cm_ok h 13 67 x2) (st' := [.int (cm_I h 67 x2.toNatClampNeg), .int x4]) d195_53 rfl rfl rfl rfl (ly_o L 67 rfl g3) (wl_st d195_54 rfl rfl rfl rfl (wl_st d195_55 rfl rfl rfl rfl (wl_gr (b := 56) d195_56 pf11_61 (ly_k L 38 rfl) rfl (ly_r L 38 19 rfl) (wl_st d195_59 rfl rfl rfl rfl (And.elim (fun g4 g4k => wl_if (g := cm_ok h 13 56 x6) (st' := [.int (cm_I h 56 x6.toNatClampNeg), .long ((cm_I h 67 x2.toNatClampNeg).toInt64), .int x4]) d195_61 rfl rfl rfl rfl (ly_o L 56 rfl g4) (wl_st d195_62 rfl rfl rfl rfl (wl_st d195_63 rfl rfl rfl rfl (wl_st d195_64 rfl rfl rfl rfl (wl_gf (v := .int (cm_I h 38 48)) d195_65 pf11_319 (ly_k L 38 rfl) rfl (wl_st d195_68 rfl rfl rfl rfl (And.elim (fun g5 g5k => wl_ne (g := (cm_I h 38 48).toInt64 = 0) d195_69 rfl rfl rfl rfl g5 (wl_st d195_70 rfl rfl rfl rfl (wl_st d195_71 rfl rfl rfl rfl (wl_st (ls' := [some (.ref 38), some (.int x1), some (.int x2), some (.int x3), some (.int (x4 - (((((cm_I h 67 x2.toNatClampNeg).toInt64) * ((cm_I h 56 x6.toNatClampNeg).toInt64)) / ((cm_I h 38 48).toInt64)).toInt32))), some (.int x5), some (.int x6)]) d195_72 rfl rfl rfl rfl (wl_st d195_74 rfl rfl rfl rfl (wl_st d195_76 rfl rfl rfl rfl (wl_st d195_78 rfl rfl rfl rfl (wl_cb (b := x1 ≤ x6) (off := 17) (tgt := 96) (pc3 := 82) (st' := [.int x5]) d195_79 rfl rfl rfl rfl (by decide) rfl (fun c6 => (g5k.1 c6)) (fun c6 => wl_st d195_82 rfl rfl rfl rfl (wl_gr (b := 56) d195_83 pf11_61 (ly_k L 38 rfl) rfl (ly_r L 38 19 rfl) (wl_st d195_86 rfl rfl rfl rfl (wl_if (g := cm_ok h 13 56 x6) (st' := [.int (cm_I h 56 x6.toNatClampNeg), .int x5]) d195_88 rfl rfl rfl rfl (ly_o L 56 rfl g4) (wl_cb (b := (cm_I h 56 x6.toNatClampNeg) ≤ 0) (off := 7) (tgt := 96) (pc3 := 92) (st' := [.int x5]) d195_89 rfl rfl rfl rfl (by decide) rfl (fun c7 => ((g5k.2 c6).1 c7)) (fun c7 => wl_ic (v := 1) d195_92 rfl (wl_go (tgt := 97) d195_93 (by decide) (((g5k.2 c6).2 c7))))))))))))))))) g4k))))))) g3k)))))) (H.2 c1)))))))))
theorem s195_96 {sc : cmS} {d : Nat} {h : cmH} {Q : Option Value → cmH → Prop} (x1 : Int32) (x2 : Int32) (x3 : Int32) (x4 : Int32) (x5 : Int32) (x6 : Int32) (sx0 : Int32) (H : cm_wp sc d 195 97 [some (.ref 38), some (.int x1), some (.int x2), some (.int x3), some (.int x4), some (.int x5), some (.int x6)] [.int (0 : Int32), .int sx0] h Q) : cm_wp sc d 195 96 [some (.ref 38), some (.int x1), some (.int x2), some (.int x3), some (.int x4), some (.int x5), some (.int x6)] [.int sx0] h Q :=
  wl_ic (v := 0) d195_96 rfl (H)
theorem s195_97 {sc : cmS} {d : Nat} {h : cmH} {Q : Option Value → cmH → Prop} (x1 : Int32) (x2 : Int32) (x3 : Int32) (x4 : Int32) (x5 : Int32) (x6 : Int32) (sx0 : Int32) (sx1 : Int32) (H : cm_wp sc d 195 37 [some (.ref 38), some (.int x1), some (.int x2), some (.int x3), some (.int x4), some (.int (sx1 + sx0)), some (.int (x6 + 1))] [] h Q) : cm_wp sc d 195 97 [some (.ref 38), some (.int x1), some (.int x2), some (.int x3), some (.int x4), some (.int x5), some (.int x6)] [.int sx0, .int sx1] h Q :=
  wl_st d195_97 rfl rfl rfl rfl (wl_st (ls' := [some (.ref 38), some (.int x1), some (.int x2), some (.int x3), some (.int x4), some (.int (sx1 + sx0)), some (.int x6)]) d195_98 rfl rfl rfl rfl (wl_st (ls' := [some (.ref 38), some (.int x1), some (.int x2), some (.int x3), some (.int x4), some (.int (sx1 + sx0)), some (.int (x6 + 1))]) d195_100 rfl rfl rfl rfl (wl_go (tgt := 37) d195_103 (by decide) (H))))
-- ClogHouseModel.lead(III)I
theorem d196_0 : decode (cm_M 196).2.2.1 0 = .ok (.iload_n 2, 1) := by decide +kernel
theorem d196_1 : decode (cm_M 196).2.2.1 1 = .ok (.aload_n 0, 1) := by decide +kernel
theorem d196_2 : decode (cm_M 196).2.2.1 2 = .ok (.getfield 120, 3) := by decide +kernel
theorem d196_5 : decode (cm_M 196).2.2.1 5 = .ok (.iconst 0, 1) := by decide +kernel
theorem d196_6 : decode (cm_M 196).2.2.1 6 = .ok (.iaload, 1) := by decide +kernel
theorem d196_7 : decode (cm_M 196).2.2.1 7 = .ok (.if_icmp .lt 20, 3) := by decide +kernel
theorem d196_10 : decode (cm_M 196).2.2.1 10 = .ok (.aload_n 0, 1) := by decide +kernel
theorem d196_11 : decode (cm_M 196).2.2.1 11 = .ok (.getfield 37, 3) := by decide +kernel
theorem d196_14 : decode (cm_M 196).2.2.1 14 = .ok (.bipush 8, 2) := by decide +kernel
theorem d196_16 : decode (cm_M 196).2.2.1 16 = .ok (.iload_n 1, 1) := by decide +kernel
theorem d196_17 : decode (cm_M 196).2.2.1 17 = .ok (.imul, 1) := by decide +kernel
theorem d196_18 : decode (cm_M 196).2.2.1 18 = .ok (.iload_n 2, 1) := by decide +kernel
theorem d196_19 : decode (cm_M 196).2.2.1 19 = .ok (.iadd, 1) := by decide +kernel
theorem d196_20 : decode (cm_M 196).2.2.1 20 = .ok (.dup2, 1) := by decide +kernel
theorem d196_21 : decode (cm_M 196).2.2.1 21 = .ok (.iaload, 1) := by decide +kernel
theorem d196_22 : decode (cm_M 196).2.2.1 22 = .ok (.iload_n 3, 1) := by decide +kernel
theorem d196_23 : decode (cm_M 196).2.2.1 23 = .ok (.iadd, 1) := by decide +kernel
theorem d196_24 : decode (cm_M 196).2.2.1 24 = .ok (.iastore, 1) := by decide +kernel
theorem d196_25 : decode (cm_M 196).2.2.1 25 = .ok (.iconst 0, 1) := by decide +kernel
theorem d196_26 : decode (cm_M 196).2.2.1 26 = .ok (.ireturn, 1) := by decide +kernel
theorem d196_27 : decode (cm_M 196).2.2.1 27 = .ok (.iload_n 3, 1) := by decide +kernel
theorem d196_28 : decode (cm_M 196).2.2.1 28 = .ok (.istore 4, 2) := by decide +kernel
theorem d196_30 : decode (cm_M 196).2.2.1 30 = .ok (.iconst 0, 1) := by decide +kernel
theorem d196_31 : decode (cm_M 196).2.2.1 31 = .ok (.istore 5, 2) := by decide +kernel
theorem d196_33 : decode (cm_M 196).2.2.1 33 = .ok (.iload 5, 2) := by decide +kernel
theorem d196_35 : decode (cm_M 196).2.2.1 35 = .ok (.aload_n 0, 1) := by decide +kernel
theorem d196_36 : decode (cm_M 196).2.2.1 36 = .ok (.getfield 19, 3) := by decide +kernel
theorem d196_39 : decode (cm_M 196).2.2.1 39 = .ok (.iload_n 1, 1) := by decide +kernel
theorem d196_40 : decode (cm_M 196).2.2.1 40 = .ok (.iaload, 1) := by decide +kernel
theorem d196_41 : decode (cm_M 196).2.2.1 41 = .ok (.if_icmp .ge 84, 3) := by decide +kernel
theorem d196_44 : decode (cm_M 196).2.2.1 44 = .ok (.iload_n 2, 1) := by decide +kernel
theorem d196_45 : decode (cm_M 196).2.2.1 45 = .ok (.aload_n 0, 1) := by decide +kernel
theorem d196_46 : decode (cm_M 196).2.2.1 46 = .ok (.getfield 120, 3) := by decide +kernel
theorem d196_49 : decode (cm_M 196).2.2.1 49 = .ok (.iload 5, 2) := by decide +kernel
theorem d196_51 : decode (cm_M 196).2.2.1 51 = .ok (.iaload, 1) := by decide +kernel
theorem d196_52 : decode (cm_M 196).2.2.1 52 = .ok (.if_icmp .lt 9, 3) := by decide +kernel
theorem d196_55 : decode (cm_M 196).2.2.1 55 = .ok (.sipush 1000, 3) := by decide +kernel
theorem d196_58 : decode (cm_M 196).2.2.1 58 = .ok (.goto 19, 3) := by decide +kernel
theorem d196_61 : decode (cm_M 196).2.2.1 61 = .ok (.aload_n 0, 1) := by decide +kernel
theorem d196_62 : decode (cm_M 196).2.2.1 62 = .ok (.getfield 9, 3) := by decide +kernel
theorem d196_65 : decode (cm_M 196).2.2.1 65 = .ok (.iload_n 2, 1) := by decide +kernel
theorem d196_66 : decode (cm_M 196).2.2.1 66 = .ok (.iaload, 1) := by decide +kernel
theorem d196_67 : decode (cm_M 196).2.2.1 67 = .ok (.aload_n 0, 1) := by decide +kernel
theorem d196_68 : decode (cm_M 196).2.2.1 68 = .ok (.getfield 120, 3) := by decide +kernel
theorem d196_71 : decode (cm_M 196).2.2.1 71 = .ok (.iload 5, 2) := by decide +kernel
theorem d196_73 : decode (cm_M 196).2.2.1 73 = .ok (.iaload, 1) := by decide +kernel
theorem d196_74 : decode (cm_M 196).2.2.1 74 = .ok (.iload_n 2, 1) := by decide +kernel
theorem d196_75 : decode (cm_M 196).2.2.1 75 = .ok (.isub, 1) := by decide +kernel
theorem d196_76 : decode (cm_M 196).2.2.1 76 = .ok (.idiv, 1) := by decide +kernel
theorem d196_77 : decode (cm_M 196).2.2.1 77 = .ok (.istore 6, 2) := by decide +kernel
theorem d196_79 : decode (cm_M 196).2.2.1 79 = .ok (.iload 4, 2) := by decide +kernel
theorem d196_81 : decode (cm_M 196).2.2.1 81 = .ok (.iload 6, 2) := by decide +kernel
theorem d196_83 : decode (cm_M 196).2.2.1 83 = .ok (.imul, 1) := by decide +kernel
theorem d196_84 : decode (cm_M 196).2.2.1 84 = .ok (.sipush 1000, 3) := by decide +kernel
theorem d196_87 : decode (cm_M 196).2.2.1 87 = .ok (.idiv, 1) := by decide +kernel
theorem d196_88 : decode (cm_M 196).2.2.1 88 = .ok (.istore 7, 2) := by decide +kernel
theorem d196_90 : decode (cm_M 196).2.2.1 90 = .ok (.aload_n 0, 1) := by decide +kernel
theorem d196_91 : decode (cm_M 196).2.2.1 91 = .ok (.getfield 31, 3) := by decide +kernel
theorem d196_94 : decode (cm_M 196).2.2.1 94 = .ok (.bipush 8, 2) := by decide +kernel
theorem d196_96 : decode (cm_M 196).2.2.1 96 = .ok (.bipush 10, 2) := by decide +kernel
theorem d196_98 : decode (cm_M 196).2.2.1 98 = .ok (.iload_n 1, 1) := by decide +kernel
theorem d196_99 : decode (cm_M 196).2.2.1 99 = .ok (.imul, 1) := by decide +kernel
theorem d196_100 : decode (cm_M 196).2.2.1 100 = .ok (.iload 5, 2) := by decide +kernel
theorem d196_102 : decode (cm_M 196).2.2.1 102 = .ok (.iadd, 1) := by decide +kernel
theorem d196_103 : decode (cm_M 196).2.2.1 103 = .ok (.imul, 1) := by decide +kernel
theorem d196_104 : decode (cm_M 196).2.2.1 104 = .ok (.iload_n 2, 1) := by decide +kernel
theorem d196_105 : decode (cm_M 196).2.2.1 105 = .ok (.iadd, 1) := by decide +kernel
theorem d196_106 : decode (cm_M 196).2.2.1 106 = .ok (.dup2, 1) := by decide +kernel
theorem d196_107 : decode (cm_M 196).2.2.1 107 = .ok (.iaload, 1) := by decide +kernel
theorem d196_108 : decode (cm_M 196).2.2.1 108 = .ok (.iload 7, 2) := by decide +kernel
theorem d196_110 : decode (cm_M 196).2.2.1 110 = .ok (.iadd, 1) := by decide +kernel
theorem d196_111 : decode (cm_M 196).2.2.1 111 = .ok (.iastore, 1) := by decide +kernel
theorem d196_112 : decode (cm_M 196).2.2.1 112 = .ok (.iload 4, 2) := by decide +kernel
theorem d196_114 : decode (cm_M 196).2.2.1 114 = .ok (.iload 7, 2) := by decide +kernel
theorem d196_116 : decode (cm_M 196).2.2.1 116 = .ok (.isub, 1) := by decide +kernel
theorem d196_117 : decode (cm_M 196).2.2.1 117 = .ok (.istore 4, 2) := by decide +kernel
theorem d196_119 : decode (cm_M 196).2.2.1 119 = .ok (.iinc 5 1, 3) := by decide +kernel
theorem d196_122 : decode (cm_M 196).2.2.1 122 = .ok (.goto (-89), 3) := by decide +kernel
theorem d196_125 : decode (cm_M 196).2.2.1 125 = .ok (.iload 4, 2) := by decide +kernel
theorem d196_127 : decode (cm_M 196).2.2.1 127 = .ok (.ireturn, 1) := by decide +kernel
theorem s196_0 {sc : cmS} {d : Nat} {h : cmH} {Q : Option Value → cmH → Prop} (L : LY h) (x1 : Int32) (x2 : Int32) (x3 : Int32) (u4 : Option Value) (u5 : Option Value) (u6 : Option Value) (u7 : Option Value) (H : (((x2 < (cm_I h 75 0)) → cm_wp sc d 196 33 [some (.ref 38), some (.int x1), some (.int x2), some (.int x3), some (.int x3), some (.int (0 : Int32)), u6, u7] [] h Q) ∧ (¬ (x2 < (cm_I h 75 0)) → (IX 72 (((8 : Int32) * x1) + x2)) ∧ Q (some (.int (0 : Int32))) (cm_setI h 48 (((8 : Int32) * x1) + x2).toNatClampNeg ((cm_I h 48 (((8 : Int32) * x1) + x2).toNatClampNeg) + x3))))) : cm_wp sc d 196 0 [some (.ref 38), some (.int x1), some (.int x2), some (.int x3), u4, u5, u6, u7] [] h Q :=
  wl_st d196_0 rfl rfl rfl rfl (wl_st d196_1 rfl rfl rfl rfl (wl_gr (b := 75) d196_2 pf11_120 (ly_k L 38 rfl) rfl (ly_r L 38 46 rfl) (wl_ic (v := 0) d196_5 rfl (wl_if (g := cm_ok h 13 75 (0 : Int32)) (st' := [.int (cm_I h 75 0), .int x2]) d196_6 rfl rfl rfl rfl (ly_o L 75 rfl (by decide)) (wl_cb (b := x2 < (cm_I h 75 0)) (off := 20) (tgt := 27) (pc3 := 10) (st' := []) d196_7 rfl rfl rfl rfl (by decide) rfl (fun c1 => wl_st d196_27 rfl rfl rfl rfl (wl_st (ls' := [some (.ref 38), some (.int x1), some (.int x2), some (.int x3), some (.int x3), u5, u6, u7]) d196_28 rfl rfl rfl rfl (wl_ic (v := 0) d196_30 rfl (wl_st (ls' := [some (.ref 38), some (.int x1), some (.int x2), some (.int x3), some (.int x3), some (.int (0 : Int32)), u6, u7]) d196_31 rfl rfl rfl rfl ((H.1 c1)))))) (fun c1 => wl_st d196_10 rfl rfl rfl rfl (wl_gr (b := 48) d196_11 pf11_37 (ly_k L 38 rfl) rfl (ly_r L 38 11 rfl) (wl_bi (v := 8) d196_14 rfl (wl_st d196_16 rfl rfl rfl rfl (wl_st d196_17 rfl rfl rfl rfl (wl_st d196_18 rfl rfl rfl rfl (wl_st d196_19 rfl rfl rfl rfl (wl_st d196_20 rfl rfl rfl rfl (And.elim (fun g2 g2k => wl_if (g := cm_ok h 13 48 (((8 : Int32) * x1) + x2)) (st' := [.int (cm_I h 48 (((8 : Int32) * x1) + x2).toNatClampNeg), .int (((8 : Int32) * x1) + x2), .ref 48]) d196_21 rfl rfl rfl rfl (ly_o L 48 rfl g2) (wl_st d196_22 rfl rfl rfl rfl (wl_st d196_23 rfl rfl rfl rfl (wl_if (h' := (cm_setI h 48 (((8 : Int32) * x1) + x2).toNatClampNeg ((cm_I h 48 (((8 : Int32) * x1) + x2).toNatClampNeg) + x3))) d196_24 rfl rfl rfl rfl (ly_o L 48 rfl g2) (wl_ic (v := 0) d196_25 rfl (wl_rt d196_26 rfl rfl rfl g2k)))))) (H.2 c1)))))))))))))))
theorem s196_33 {sc : cmS} {d : Nat} {h : cmH} {Q : Option Value → cmH → Prop} (L : LY h) (x1 : Int32) (x2 : Int32) (x3 : Int32) (x4 : Int32) (x5 : Int32) (u6 : Option Value) (u7 : Option Value) (H : (IX 9 x1) ∧ ((((cm_I h 42 x1.toNatClampNeg) ≤ x5) → Q (some (.int x4)) h) ∧ (¬ ((cm_I h 42 x1.toNatClampNeg) ≤ x5) → (IX 10 x5) ∧ (((x2 < (cm_I h 75 x5.toNatClampNeg)) → (IX 8 x2) ∧ (¬ ((cm_I h 75 x5.toNatClampNeg) - x2) = 0) ∧ cm_wp sc d 196 77 [some (.ref 38), some (.int x1), some (.int x2), some (.int x3), some (.int x4), some (.int x5), u6, u7] [.int ((cm_I h 39 x2.toNatClampNeg) / ((cm_I h 75 x5.toNatClampNeg) - x2))] h Q) ∧ (¬ (x2 < (cm_I h 75 x5.toNatClampNeg)) → cm_wp sc d 196 77 [some (.ref 38), some (.int x1), some (.int x2), some (.int x3), some (.int x4), some (.int x5), u6, u7] [.int (1000 : Int32)] h Q))))) : cm_wp sc d 196 33 [some (.ref 38), some (.int x1), some (.int x2), some (.int x3), some (.int x4), some (.int x5), u6, u7] [] h Q :=
  wl_st d196_33 rfl rfl rfl rfl (wl_st d196_35 rfl rfl rfl rfl (wl_gr (b := 42) d196_36 pf11_19 (ly_k L 38 rfl) rfl (ly_r L 38 5 rfl) (wl_st d196_39 rfl rfl rfl rfl (And.elim (fun g1 g1k => wl_if (g := cm_ok h 13 42 x1) (st' := [.int (cm_I h 42 x1.toNatClampNeg), .int x5]) d196_40 rfl rfl rfl rfl (ly_o L 42 rfl g1) (wl_cb (b := (cm_I h 42 x1.toNatClampNeg) ≤ x5) (off := 84) (tgt := 125) (pc3 := 44) (st' := []) d196_41 rfl rfl rfl rfl (by decide) rfl (fun c2 => wl_st d196_125 rfl rfl rfl rfl (wl_rt d196_127 rfl rfl rfl (g1k.1 c2))) (fun c2 => wl_st d196_44 rfl rfl rfl rfl (wl_st d196_45 rfl rfl rfl rfl (wl_gr (b := 75) d196_46 pf11_120 (ly_k L 38 rfl) rfl (ly_r L 38 46 rfl) (wl_st d196_49 rfl rfl rfl rfl (And.elim (fun g3 g3k => wl_if (g := cm_ok h 13 75 x5) (st' := [.int (cm_I h 75 x5.toNatClampNeg), .int x2]) d196_51 rfl rfl rfl rfl (ly_o L 75 rfl g3) (wl_cb (b := x2 < (cm_I h 75 x5.toNatClampNeg)) (off := 9) (tgt := 61) (pc3 := 55) (st' := []) d196_52 rfl rfl rfl rfl (by decide) rfl (fun c4 => wl_st d196_61 rfl rfl rfl rfl (wl_gr (b := 39) d196_62 pf11_9 (ly_k L 38 rfl) rfl (ly_r L 38 2 rfl) (wl_st d196_65 rfl rfl rfl rfl (And.elim (fun g5 g5k => wl_if (g := cm_ok h 13 39 x2) (st' := [.int (cm_I h 39 x2.toNatClampNeg)]) d196_66 rfl rfl rfl rfl (ly_o L 39 rfl g5) (wl_st d196_67 rfl rfl rfl rfl (wl_gr (b := 75) d196_68 pf11_120 (ly_k L 38 rfl) rfl (ly_r L 38 46 rfl) (wl_st d196_71 rfl rfl rfl rfl (wl_if (g := cm_ok h 13 75 x5) (st' := [.int (cm_I h 75 x5.toNatClampNeg), .int (cm_I h 39 x2.toNatClampNeg)]) d196_73 rfl rfl rfl rfl (ly_o L 75 rfl g3) (wl_st d196_74 rfl rfl rfl rfl (wl_st d196_75 rfl rfl rfl rfl (And.elim (fun g6 g6k => wl_ne (g := ((cm_I h 75 x5.toNatClampNeg) - x2) = 0) d196_76 rfl rfl rfl rfl g6 (g6k)) g5k)))))))) (g3k.1 c4))))) (fun c4 => wl_si (v := 1000) d196_55 rfl (wl_go (tgt := 77) d196_58 (by decide) ((g3k.2 c4)))))) (g1k.2 c2)))))))) H))))
theorem s196_77 {sc : cmS} {d : Nat} {h : cmH} {Q : Option Value → cmH → Prop} (L : LY h) (x1 : Int32) (x2 : Int32) (x3 : Int32) (x4 : Int32) (x5 : Int32) (u6 : Option Value) (u7 : Option Value) (sx0 : Int32) (H : (IX 720 (((8 : Int32) * (((10 : Int32) * x1) + x5)) + x2)) ∧ cm_wp sc d 196 33 [some (.ref 38), some (.int x1), some (.int x2), some (.int x3), some (.int (x4 - ((x4 * sx0) / (1000 : Int32)))), some (.int (x5 + 1)), some (.int sx0), some (.int ((x4 * sx0) / (1000 : Int32)))] [] (cm_setI h 46 (((8 : Int32) * (((10 : Int32) * x1) + x5)) + x2).toNatClampNeg ((cm_I h 46 (((8 : Int32) * (((10 : Int32) * x1) + x5)) + x2).toNatClampNeg) + ((x4 * sx0) / (1000 : Int32)))) Q) : cm_wp sc d 196 77 [some (.ref 38), some (.int x1), some (.int x2), some (.int x3), some (.int x4), some (.int x5), u6, u7] [.int sx0] h Q :=
  wl_st (ls' := [some (.ref 38), some (.int x1), some (.int x2), some (.int x3), some (.int x4), some (.int x5), some (.int sx0), u7]) d196_77 rfl rfl rfl rfl (wl_st d196_79 rfl rfl rfl rfl (wl_st d196_81 rfl rfl rfl rfl (wl_st d196_83 rfl rfl rfl rfl (wl_si (v := 1000) d196_84 rfl (wl_ne (g := (1000 : Int32) = 0) d196_87 rfl rfl rfl rfl (by decide) (wl_st (ls' := [some (.ref 38), some (.int x1), some (.int x2), some (.int x3), some (.int x4), some (.int x5), some (.int sx0), some (.int ((x4 * sx0) / (1000 : Int32)))]) d196_88 rfl rfl rfl rfl (wl_st d196_90 rfl rfl rfl rfl (wl_gr (b := 46) d196_91 pf11_31 (ly_k L 38 rfl) rfl (ly_r L 38 9 rfl) (wl_bi (v := 8) d196_94 rfl (wl_bi (v := 10) d196_96 rfl (wl_st d196_98 rfl rfl rfl rfl (wl_st d196_99 rfl rfl rfl rfl (wl_st d196_100 rfl rfl rfl rfl (wl_st d196_102 rfl rfl rfl rfl (wl_st d196_103 rfl rfl rfl rfl (wl_st d196_104 rfl rfl rfl rfl (wl_st d196_105 rfl rfl rfl rfl (wl_st d196_106 rfl rfl rfl rfl (And.elim (fun g1 g1k => wl_if (g := cm_ok h 13 46 (((8 : Int32) * (((10 : Int32) * x1) + x5)) + x2)) (st' := [.int (cm_I h 46 (((8 : Int32) * (((10 : Int32) * x1) + x5)) + x2).toNatClampNeg), .int (((8 : Int32) * (((10 : Int32) * x1) + x5)) + x2), .ref 46]) d196_107 rfl rfl rfl rfl (ly_o L 46 rfl g1) (wl_st d196_108 rfl rfl rfl rfl (wl_st d196_110 rfl rfl rfl rfl (wl_if (h' := (cm_setI h 46 (((8 : Int32) * (((10 : Int32) * x1) + x5)) + x2).toNatClampNeg ((cm_I h 46 (((8 : Int32) * (((10 : Int32) * x1) + x5)) + x2).toNatClampNeg) + ((x4 * sx0) / (1000 : Int32))))) d196_111 rfl rfl rfl rfl (ly_o L 46 rfl g1) (wl_st d196_112 rfl rfl rfl rfl (wl_st d196_114 rfl rfl rfl rfl (wl_st d196_116 rfl rfl rfl rfl (wl_st (ls' := [some (.ref 38), some (.int x1), some (.int x2), some (.int x3), some (.int (x4 - ((x4 * sx0) / (1000 : Int32)))), some (.int x5), some (.int sx0), some (.int ((x4 * sx0) / (1000 : Int32)))]) d196_117 rfl rfl rfl rfl (wl_st (ls' := [some (.ref 38), some (.int x1), some (.int x2), some (.int x3), some (.int (x4 - ((x4 * sx0) / (1000 : Int32)))), some (.int (x5 + 1)), some (.int sx0), some (.int ((x4 * sx0) / (1000 : Int32)))]) d196_119 rfl rfl rfl rfl (wl_go (tgt := 33) d196_122 (by decide) (g1k))))))))))) H)))))))))))))))))))
-- ClogHouseModel.hand(II)Z
theorem d197_0 : decode (cm_M 197).2.2.1 0 = .ok (.aload_n 0, 1) := by decide +kernel
theorem d197_1 : decode (cm_M 197).2.2.1 1 = .ok (.iload_n 1, 1) := by decide +kernel
theorem d197_2 : decode (cm_M 197).2.2.1 2 = .ok (.invokevirtual 168, 3) := by decide +kernel
theorem d197_5 : decode (cm_M 197).2.2.1 5 = .ok (.ifCond .eq 12, 3) := by decide +kernel
theorem d197_8 : decode (cm_M 197).2.2.1 8 = .ok (.iload_n 2, 1) := by decide +kernel
theorem d197_9 : decode (cm_M 197).2.2.1 9 = .ok (.iconst 0, 1) := by decide +kernel
theorem d197_10 : decode (cm_M 197).2.2.1 10 = .ok (.iconst 2, 1) := by decide +kernel
theorem d197_11 : decode (cm_M 197).2.2.1 11 = .ok (.invokestatic 161, 3) := by decide +kernel
theorem d197_14 : decode (cm_M 197).2.2.1 14 = .ok (.ifCond .ne 5, 3) := by decide +kernel
theorem d197_17 : decode (cm_M 197).2.2.1 17 = .ok (.iconst 0, 1) := by decide +kernel
theorem d197_18 : decode (cm_M 197).2.2.1 18 = .ok (.ireturn, 1) := by decide +kernel
theorem d197_19 : decode (cm_M 197).2.2.1 19 = .ok (.iload_n 2, 1) := by decide +kernel
theorem d197_20 : decode (cm_M 197).2.2.1 20 = .ok (.ifCond .ne 17, 3) := by decide +kernel
theorem d197_23 : decode (cm_M 197).2.2.1 23 = .ok (.aload_n 0, 1) := by decide +kernel
theorem d197_24 : decode (cm_M 197).2.2.1 24 = .ok (.iload_n 1, 1) := by decide +kernel
theorem d197_25 : decode (cm_M 197).2.2.1 25 = .ok (.invokevirtual 322, 3) := by decide +kernel
theorem d197_28 : decode (cm_M 197).2.2.1 28 = .ok (.aload_n 0, 1) := by decide +kernel
theorem d197_29 : decode (cm_M 197).2.2.1 29 = .ok (.getfield 49, 3) := by decide +kernel
theorem d197_32 : decode (cm_M 197).2.2.1 32 = .ok (.iload_n 1, 1) := by decide +kernel
theorem d197_33 : decode (cm_M 197).2.2.1 33 = .ok (.iconst 0, 1) := by decide +kernel
theorem d197_34 : decode (cm_M 197).2.2.1 34 = .ok (.iastore, 1) := by decide +kernel
theorem d197_35 : decode (cm_M 197).2.2.1 35 = .ok (.iconst 1, 1) := by decide +kernel
theorem d197_36 : decode (cm_M 197).2.2.1 36 = .ok (.ireturn, 1) := by decide +kernel
theorem d197_37 : decode (cm_M 197).2.2.1 37 = .ok (.aload_n 0, 1) := by decide +kernel
theorem d197_38 : decode (cm_M 197).2.2.1 38 = .ok (.getfield 49, 3) := by decide +kernel
theorem d197_41 : decode (cm_M 197).2.2.1 41 = .ok (.iload_n 1, 1) := by decide +kernel
theorem d197_42 : decode (cm_M 197).2.2.1 42 = .ok (.iaload, 1) := by decide +kernel
theorem d197_43 : decode (cm_M 197).2.2.1 43 = .ok (.iconst 4, 1) := by decide +kernel
theorem d197_44 : decode (cm_M 197).2.2.1 44 = .ok (.if_icmp .ne 7, 3) := by decide +kernel
theorem d197_47 : decode (cm_M 197).2.2.1 47 = .ok (.iconst 1, 1) := by decide +kernel
theorem d197_48 : decode (cm_M 197).2.2.1 48 = .ok (.goto 4, 3) := by decide +kernel
theorem d197_51 : decode (cm_M 197).2.2.1 51 = .ok (.iconst 0, 1) := by decide +kernel
theorem d197_52 : decode (cm_M 197).2.2.1 52 = .ok (.iload_n 2, 1) := by decide +kernel
theorem d197_53 : decode (cm_M 197).2.2.1 53 = .ok (.iconst 2, 1) := by decide +kernel
theorem d197_54 : decode (cm_M 197).2.2.1 54 = .ok (.if_icmp .ne 7, 3) := by decide +kernel
theorem d197_57 : decode (cm_M 197).2.2.1 57 = .ok (.iconst 1, 1) := by decide +kernel
theorem d197_58 : decode (cm_M 197).2.2.1 58 = .ok (.goto 4, 3) := by decide +kernel
theorem d197_61 : decode (cm_M 197).2.2.1 61 = .ok (.iconst 0, 1) := by decide +kernel
theorem d197_62 : decode (cm_M 197).2.2.1 62 = .ok (.if_icmp .eq 5, 3) := by decide +kernel
theorem d197_65 : decode (cm_M 197).2.2.1 65 = .ok (.iconst 0, 1) := by decide +kernel
theorem d197_66 : decode (cm_M 197).2.2.1 66 = .ok (.ireturn, 1) := by decide +kernel
theorem d197_67 : decode (cm_M 197).2.2.1 67 = .ok (.aload_n 0, 1) := by decide +kernel
theorem d197_68 : decode (cm_M 197).2.2.1 68 = .ok (.getfield 49, 3) := by decide +kernel
theorem d197_71 : decode (cm_M 197).2.2.1 71 = .ok (.iload_n 1, 1) := by decide +kernel
theorem d197_72 : decode (cm_M 197).2.2.1 72 = .ok (.iload_n 2, 1) := by decide +kernel
theorem d197_73 : decode (cm_M 197).2.2.1 73 = .ok (.iconst 1, 1) := by decide +kernel
theorem d197_74 : decode (cm_M 197).2.2.1 74 = .ok (.if_icmp .ne 7, 3) := by decide +kernel
theorem d197_77 : decode (cm_M 197).2.2.1 77 = .ok (.iconst 4, 1) := by decide +kernel
theorem d197_78 : decode (cm_M 197).2.2.1 78 = .ok (.goto 4, 3) := by decide +kernel
theorem d197_81 : decode (cm_M 197).2.2.1 81 = .ok (.iconst 0, 1) := by decide +kernel
theorem d197_82 : decode (cm_M 197).2.2.1 82 = .ok (.iastore, 1) := by decide +kernel
theorem d197_83 : decode (cm_M 197).2.2.1 83 = .ok (.iconst 1, 1) := by decide +kernel
theorem d197_84 : decode (cm_M 197).2.2.1 84 = .ok (.ireturn, 1) := by decide +kernel
theorem s197_0 {sc : cmS} {d : Nat} {h : cmH} {Q : Option Value → cmH → Prop} (L : LY h) (x1 : Int32) (x2 : Int32) (H : cm_ci sc d 140 [.ref 38, .int x1] h (fun r h' => cm_wp sc (d + 1) 197 5 [some (.ref 38), some (.int x1), some (.int x2)] [.int r] h' Q)) : cm_wp sc (d + 1) 197 0 [some (.ref 38), some (.int x1), some (.int x2)] [] h Q :=
  wl_st d197_0 rfl rfl rfl rfl (wl_st d197_1 rfl rfl rfl rfl (wl_ci d197_2 rfl rfl rfl pm11_168 (by decide) (ca_v (Or.inl rfl) rfl (Nat.le_of_ble_eq_true rfl) (Nat.le_of_ble_eq_true rfl) (ly_k L 38 rfl).2 (ly_k L 38 rfl).1 (by decide)) H))
theorem s197_5 {sc : cmS} {d : Nat} {h : cmH} {Q : Option Value → cmH → Prop} (x1 : Int32) (x2 : Int32) (sx0 : Int32) (H : (((sx0 = 0) → Q (some (.int (0 : Int32))) h) ∧ (¬ (sx0 = 0) → cm_ci sc d 137 [.int x2, .int (0 : Int32), .int (2 : Int32)] h (fun r h' => cm_wp sc (d + 1) 197 14 [some (.ref 38), some (.int x1), some (.int x2)] [.int r] h' Q)))) : cm_wp sc (d + 1) 197 5 [some (.ref 38), some (.int x1), some (.int x2)] [.int sx0] h Q :=
  wl_cb (b := sx0 = 0) (off := 12) (tgt := 17) (pc3 := 8) (st' := []) d197_5 rfl rfl rfl rfl (by decide) rfl (fun c1 => wl_ic (v := 0) d197_17 rfl (wl_rz d197_18 rfl (by decide) (H.1 c1))) (fun c1 => wl_st d197_8 rfl rfl rfl rfl (wl_ic (v := 0) d197_9 rfl (wl_ic (v := 2) d197_10 rfl (wl_ci d197_11 rfl rfl rfl pm11_161 (by decide) (ca_s (Or.inl rfl) rfl (Nat.le_of_ble_eq_true rfl) (Nat.le_of_ble_eq_true rfl)) (H.2 c1)))))
theorem s197_14 {sc : cmS} {d : Nat} {h : cmH} {Q : Option Value → cmH → Prop} (L : LY h) (x1 : Int32) (x2 : Int32) (sx0 : Int32) (H : (((¬ sx0 = 0) → (((¬ x2 = 0) → (IX 9 x1) ∧ (((¬ (cm_I h 52 x1.toNatClampNeg) = (4 : Int32)) → cm_wp sc (d + 1) 197 52 [some (.ref 38), some (.int x1), some (.int x2)] [.int (0 : Int32)] h Q) ∧ (¬ (¬ (cm_I h 52 x1.toNatClampNeg) = (4 : Int32)) → cm_wp sc (d + 1) 197 52 [some (.ref 38), some (.int x1), some (.int x2)] [.int (1 : Int32)] h Q))) ∧ (¬ (¬ x2 = 0) → cm_cv sc d 188 [.ref 38, .int x1] h (fun h' => cm_wp sc (d + 1) 197 28 [some (.ref 38), some (.int x1), some (.int x2)] [] h' Q)))) ∧ (¬ (¬ sx0 = 0) → Q (some (.int (0 : Int32))) h))) : cm_wp sc (d + 1) 197 14 [some (.ref 38), some (.int x1), some (.int x2)] [.int sx0] h Q :=
  wl_cb (b := ¬ sx0 = 0) (off := 5) (tgt := 19) (pc3 := 17) (st' := []) d197_14 rfl rfl rfl rfl (by decide) rfl (fun c1 => wl_st d197_19 rfl rfl rfl rfl (wl_cb (b := ¬ x2 = 0) (off := 17) (tgt := 37) (pc3 := 23) (st' := []) d197_20 rfl rfl rfl rfl (by decide) rfl (fun c2 => wl_st d197_37 rfl rfl rfl rfl (wl_gr (b := 52) d197_38 pf11_49 (ly_k L 38 rfl) rfl (ly_r L 38 15 rfl) (wl_st d197_41 rfl rfl rfl rfl (And.elim (fun g3 g3k => wl_if (g := cm_ok h 13 52 x1) (st' := [.int (cm_I h 52 x1.toNatClampNeg)]) d197_42 rfl rfl rfl rfl (ly_o L 52 rfl g3) (wl_ic (v := 4) d197_43 rfl (wl_cb (b := ¬ (cm_I h 52 x1.toNatClampNeg) = (4 : Int32)) (off := 7) (tgt := 51) (pc3 := 47) (st' := []) d197_44 rfl rfl rfl rfl (by decide) rfl (fun c4 => wl_ic (v := 0) d197_51 rfl ((g3k.1 c4))) (fun c4 => wl_ic (v := 1) d197_47 rfl (wl_go (tgt := 52) d197_48 (by decide) ((g3k.2 c4))))))) ((H.1 c1).1 c2))))) (fun c2 => wl_st d197_23 rfl rfl rfl rfl (wl_st d197_24 rfl rfl rfl rfl (wl_cv d197_25 rfl rfl rfl pm11_322 (by decide) (ca_v (Or.inl rfl) rfl (Nat.le_of_ble_eq_true rfl) (Nat.le_of_ble_eq_true rfl) (ly_k L 38 rfl).2 (ly_k L 38 rfl).1 (by decide)) ((H.1 c1).2 c2)))))) (fun c1 => wl_ic (v := 0) d197_17 rfl (wl_rz d197_18 rfl (by decide) (H.2 c1)))
theorem s197_28 {sc : cmS} {d : Nat} {h : cmH} {Q : Option Value → cmH → Prop} (L : LY h) (x1 : Int32) (x2 : Int32) (H : (IX 9 x1) ∧ Q (some (.int (1 : Int32))) (cm_setI h 52 x1.toNatClampNeg (0 : Int32))) : cm_wp sc d 197 28 [some (.ref 38), some (.int x1), some (.int x2)] [] h Q :=
  wl_st d197_28 rfl rfl rfl rfl (wl_gr (b := 52) d197_29 pf11_49 (ly_k L 38 rfl) rfl (ly_r L 38 15 rfl) (wl_st d197_32 rfl rfl rfl rfl (wl_ic (v := 0) d197_33 rfl (And.elim (fun g1 g1k => wl_if (h' := (cm_setI h 52 x1.toNatClampNeg (0 : Int32))) d197_34 rfl rfl rfl rfl (ly_o L 52 rfl g1) (wl_ic (v := 1) d197_35 rfl (wl_rz d197_36 rfl (by decide) g1k))) H))))
theorem s197_52 {sc : cmS} {d : Nat} {h : cmH} {Q : Option Value → cmH → Prop} (x1 : Int32) (x2 : Int32) (sx0 : Int32) (H : (((¬ x2 = (2 : Int32)) → cm_wp sc d 197 62 [some (.ref 38), some (.int x1), some (.int x2)] [.int (0 : Int32), .int sx0] h Q) ∧ (¬ (¬ x2 = (2 : Int32)) → cm_wp sc d 197 62 [some (.ref 38), some (.int x1), some (.int x2)] [.int (1 : Int32), .int sx0] h Q))) : cm_wp sc d 197 52 [some (.ref 38), some (.int x1), some (.int x2)] [.int sx0] h Q :=
  wl_st d197_52 rfl rfl rfl rfl (wl_ic (v := 2) d197_53 rfl (wl_cb (b := ¬ x2 = (2 : Int32)) (off := 7) (tgt := 61) (pc3 := 57) (st' := [.int sx0]) d197_54 rfl rfl rfl rfl (by decide) rfl (fun c1 => wl_ic (v := 0) d197_61 rfl ((H.1 c1))) (fun c1 => wl_ic (v := 1) d197_57 rfl (wl_go (tgt := 62) d197_58 (by decide) ((H.2 c1))))))
theorem s197_62 {sc : cmS} {d : Nat} {h : cmH} {Q : Option Value → cmH → Prop} (L : LY h) (x1 : Int32) (x2 : Int32) (sx0 : Int32) (sx1 : Int32) (H : (((sx1 = sx0) → (((¬ x2 = (1 : Int32)) → cm_wp sc d 197 82 [some (.ref 38), some (.int x1), some (.int x2)] [.int (0 : Int32), .int x1, .ref 52] h Q) ∧ (¬ (¬ x2 = (1 : Int32)) → cm_wp sc d 197 82 [some (.ref 38), some (.int x1), some (.int x2)] [.int (4 : Int32), .int x1, .ref 52] h Q))) ∧ (¬ (sx1 = sx0) → Q (some (.int (0 : Int32))) h))) : cm_wp sc d 197 62 [some (.ref 38), some (.int x1), some (.int x2)] [.int sx0, .int sx1] h Q :=
  wl_cb (b := sx1 = sx0) (off := 5) (tgt := 67) (pc3 := 65) (st' := []) d197_62 rfl rfl rfl rfl (by decide) rfl (fun c1 => wl_st d197_67 rfl rfl rfl rfl (wl_gr (b := 52) d197_68 pf11_49 (ly_k L 38 rfl) rfl (ly_r L 38 15 rfl) (wl_st d197_71 rfl rfl rfl rfl (wl_st d197_72 rfl rfl rfl rfl (wl_ic (v := 1) d197_73 rfl (wl_cb (b := ¬ x2 = (1 : Int32)) (off := 7) (tgt := 81) (pc3 := 77) (st' := [.int x1, .ref 52]) d197_74 rfl rfl rfl rfl (by decide) rfl (fun c2 => wl_ic (v := 0) d197_81 rfl (((H.1 c1).1 c2))) (fun c2 => wl_ic (v := 4) d197_77 rfl (wl_go (tgt := 82) d197_78 (by decide) (((H.1 c1).2 c2)))))))))) (fun c1 => wl_ic (v := 0) d197_65 rfl (wl_rz d197_66 rfl (by decide) (H.2 c1)))
theorem s197_82 {sc : cmS} {d : Nat} {h : cmH} {Q : Option Value → cmH → Prop} (L : LY h) (x1 : Int32) (x2 : Int32) (sx0 : Int32) (sx1 : Int32) (H : (IX 9 sx1) ∧ Q (some (.int (1 : Int32))) (cm_setI h 52 sx1.toNatClampNeg sx0)) : cm_wp sc d 197 82 [some (.ref 38), some (.int x1), some (.int x2)] [.int sx0, .int sx1, .ref 52] h Q :=
  And.elim (fun g1 g1k => wl_if (h' := (cm_setI h 52 sx1.toNatClampNeg sx0)) d197_82 rfl rfl rfl rfl (ly_o L 52 rfl g1) (wl_ic (v := 1) d197_83 rfl (wl_rz d197_84 rfl (by decide) g1k))) H
-- ClogHouseModel.history(III)I
theorem d198_0 : decode (cm_M 198).2.2.1 0 = .ok (.iload_n 1, 1) := by decide +kernel
theorem d198_1 : decode (cm_M 198).2.2.1 1 = .ok (.iconst 1, 1) := by decide +kernel
theorem d198_2 : decode (cm_M 198).2.2.1 2 = .ok (.aload_n 0, 1) := by decide +kernel
theorem d198_3 : decode (cm_M 198).2.2.1 3 = .ok (.getfield 330, 3) := by decide +kernel
theorem d198_6 : decode (cm_M 198).2.2.1 6 = .ok (.invokestatic 161, 3) := by decide +kernel
theorem d198_9 : decode (cm_M 198).2.2.1 9 = .ok (.ifCond .eq 40, 3) := by decide +kernel
theorem d198_12 : decode (cm_M 198).2.2.1 12 = .ok (.iload_n 2, 1) := by decide +kernel
theorem d198_13 : decode (cm_M 198).2.2.1 13 = .ok (.iconst 0, 1) := by decide +kernel
theorem d198_14 : decode (cm_M 198).2.2.1 14 = .ok (.bipush 7, 2) := by decide +kernel
theorem d198_16 : decode (cm_M 198).2.2.1 16 = .ok (.invokestatic 161, 3) := by decide +kernel
theorem d198_19 : decode (cm_M 198).2.2.1 19 = .ok (.ifCond .eq 30, 3) := by decide +kernel
theorem d198_22 : decode (cm_M 198).2.2.1 22 = .ok (.iload_n 3, 1) := by decide +kernel
theorem d198_23 : decode (cm_M 198).2.2.1 23 = .ok (.iconst 0, 1) := by decide +kernel
theorem d198_24 : decode (cm_M 198).2.2.1 24 = .ok (.iconst 2, 1) := by decide +kernel
theorem d198_25 : decode (cm_M 198).2.2.1 25 = .ok (.invokestatic 161, 3) := by decide +kernel
theorem d198_28 : decode (cm_M 198).2.2.1 28 = .ok (.ifCond .eq 21, 3) := by decide +kernel
theorem d198_31 : decode (cm_M 198).2.2.1 31 = .ok (.aload_n 0, 1) := by decide +kernel
theorem d198_32 : decode (cm_M 198).2.2.1 32 = .ok (.getfield 99, 3) := by decide +kernel
theorem d198_35 : decode (cm_M 198).2.2.1 35 = .ok (.iconst 3, 1) := by decide +kernel
theorem d198_36 : decode (cm_M 198).2.2.1 36 = .ok (.bipush 8, 2) := by decide +kernel
theorem d198_38 : decode (cm_M 198).2.2.1 38 = .ok (.iload_n 1, 1) := by decide +kernel
theorem d198_39 : decode (cm_M 198).2.2.1 39 = .ok (.imul, 1) := by decide +kernel
theorem d198_40 : decode (cm_M 198).2.2.1 40 = .ok (.iload_n 2, 1) := by decide +kernel
theorem d198_41 : decode (cm_M 198).2.2.1 41 = .ok (.iadd, 1) := by decide +kernel
theorem d198_42 : decode (cm_M 198).2.2.1 42 = .ok (.imul, 1) := by decide +kernel
theorem d198_43 : decode (cm_M 198).2.2.1 43 = .ok (.iload_n 3, 1) := by decide +kernel
theorem d198_44 : decode (cm_M 198).2.2.1 44 = .ok (.iadd, 1) := by decide +kernel
theorem d198_45 : decode (cm_M 198).2.2.1 45 = .ok (.iaload, 1) := by decide +kernel
theorem d198_46 : decode (cm_M 198).2.2.1 46 = .ok (.goto 4, 3) := by decide +kernel
theorem d198_49 : decode (cm_M 198).2.2.1 49 = .ok (.iconst (-1), 1) := by decide +kernel
theorem d198_50 : decode (cm_M 198).2.2.1 50 = .ok (.ireturn, 1) := by decide +kernel
theorem s198_0 {sc : cmS} {d : Nat} {h : cmH} {Q : Option Value → cmH → Prop} (L : LY h) (x1 : Int32) (x2 : Int32) (x3 : Int32) (H : cm_ci sc d 137 [.int x1, .int (1 : Int32), .int (cm_I h 38 0)] h (fun r h' => cm_wp sc (d + 1) 198 9 [some (.ref 38), some (.int x1), some (.int x2), some (.int x3)] [.int r] h' Q)) : cm_wp sc (d + 1) 198 0 [some (.ref 38), some (.int x1), some (.int x2), some (.int x3)] [] h Q :=
  wl_st d198_0 rfl rfl rfl rfl (wl_ic (v := 1) d198_1 rfl (wl_st d198_2 rfl rfl rfl rfl (wl_gf (v := .int (cm_I h 38 0)) d198_3 pf11_330 (ly_k L 38 rfl) rfl (wl_ci d198_6 rfl rfl rfl pm11_161 (by decide) (ca_s (Or.inl rfl) rfl (Nat.le_of_ble_eq_true rfl) (Nat.le_of_ble_eq_true rfl)) H))))
theorem s198_9 {sc : cmS} {d : Nat} {h : cmH} {Q : Option Value → cmH → Prop} (x1 : Int32) (x2 : Int32) (x3 : Int32) (sx0 : Int32) (H : (((sx0 = 0) → Q (some (.int (-1 : Int32))) h) ∧ (¬ (sx0 = 0) → cm_ci sc d 137 [.int x2, .int (0 : Int32), .int (7 : Int32)] h (fun r h' => cm_wp sc (d + 1) 198 19 [some (.ref 38), some (.int x1), some (.int x2), some (.int x3)] [.int r] h' Q)))) : cm_wp sc (d + 1) 198 9 [some (.ref 38), some (.int x1), some (.int x2), some (.int x3)] [.int sx0] h Q :=
  wl_cb (b := sx0 = 0) (off := 40) (tgt := 49) (pc3 := 12) (st' := []) d198_9 rfl rfl rfl rfl (by decide) rfl (fun c1 => wl_ic (v := (-1)) d198_49 rfl (wl_rt d198_50 rfl rfl rfl (H.1 c1))) (fun c1 => wl_st d198_12 rfl rfl rfl rfl (wl_ic (v := 0) d198_13 rfl (wl_bi (v := 7) d198_14 rfl (wl_ci d198_16 rfl rfl rfl pm11_161 (by decide) (ca_s (Or.inl rfl) rfl (Nat.le_of_ble_eq_true rfl) (Nat.le_of_ble_eq_true rfl)) (H.2 c1)))))
theorem s198_19 {sc : cmS} {d : Nat} {h : cmH} {Q : Option Value → cmH → Prop} (x1 : Int32) (x2 : Int32) (x3 : Int32) (sx0 : Int32) (H : (((sx0 = 0) → Q (some (.int (-1 : Int32))) h) ∧ (¬ (sx0 = 0) → cm_ci sc d 137 [.int x3, .int (0 : Int32), .int (2 : Int32)] h (fun r h' => cm_wp sc (d + 1) 198 28 [some (.ref 38), some (.int x1), some (.int x2), some (.int x3)] [.int r] h' Q)))) : cm_wp sc (d + 1) 198 19 [some (.ref 38), some (.int x1), some (.int x2), some (.int x3)] [.int sx0] h Q :=
  wl_cb (b := sx0 = 0) (off := 30) (tgt := 49) (pc3 := 22) (st' := []) d198_19 rfl rfl rfl rfl (by decide) rfl (fun c1 => wl_ic (v := (-1)) d198_49 rfl (wl_rt d198_50 rfl rfl rfl (H.1 c1))) (fun c1 => wl_st d198_22 rfl rfl rfl rfl (wl_ic (v := 0) d198_23 rfl (wl_ic (v := 2) d198_24 rfl (wl_ci d198_25 rfl rfl rfl pm11_161 (by decide) (ca_s (Or.inl rfl) rfl (Nat.le_of_ble_eq_true rfl) (Nat.le_of_ble_eq_true rfl)) (H.2 c1)))))
theorem s198_28 {sc : cmS} {d : Nat} {h : cmH} {Q : Option Value → cmH → Prop} (L : LY h) (x1 : Int32) (x2 : Int32) (x3 : Int32) (sx0 : Int32) (H : (((sx0 = 0) → Q (some (.int (-1 : Int32))) h) ∧ (¬ (sx0 = 0) → (IX 48024 (((3 : Int32) * (((8 : Int32) * x1) + x2)) + x3)) ∧ Q (some (.int (cm_I h 68 (((3 : Int32) * (((8 : Int32) * x1) + x2)) + x3).toNatClampNeg))) h))) : cm_wp sc d 198 28 [some (.ref 38), some (.int x1), some (.int x2), some (.int x3)] [.int sx0] h Q :=
  wl_cb (b := sx0 = 0) (off := 21) (tgt := 49) (pc3 := 31) (st' := []) d198_28 rfl rfl rfl rfl (by decide) rfl (fun c1 => wl_ic (v := (-1)) d198_49 rfl (wl_rt d198_50 rfl rfl rfl (H.1 c1))) (fun c1 => wl_st d198_31 rfl rfl rfl rfl (wl_gr (b := 68) d198_32 pf11_99 (ly_k L 38 rfl) rfl (ly_r L 38 39 rfl) (wl_ic (v := 3) d198_35 rfl (wl_bi (v := 8) d198_36 rfl (wl_st d198_38 rfl rfl rfl rfl (wl_st d198_39 rfl rfl rfl rfl (wl_st d198_40 rfl rfl rfl rfl (wl_st d198_41 rfl rfl rfl rfl (wl_st d198_42 rfl rfl rfl rfl (wl_st d198_43 rfl rfl rfl rfl (wl_st d198_44 rfl rfl rfl rfl (And.elim (fun g2 g2k => wl_if (g := cm_ok h 13 68 (((3 : Int32) * (((8 : Int32) * x1) + x2)) + x3)) (st' := [.int (cm_I h 68 (((3 : Int32) * (((8 : Int32) * x1) + x2)) + x3).toNatClampNeg)]) d198_45 rfl rfl rfl rfl (ly_o L 68 rfl g2) (wl_go (tgt := 50) d198_46 (by decide) (wl_rt d198_50 rfl rfl rfl g2k))) (H.2 c1)))))))))))))
-- ClogHouseModel.breaks(II)I
theorem d199_0 : decode (cm_M 199).2.2.1 0 = .ok (.iload_n 1, 1) := by decide +kernel
theorem d199_1 : decode (cm_M 199).2.2.1 1 = .ok (.iconst 0, 1) := by decide +kernel
theorem d199_2 : decode (cm_M 199).2.2.1 2 = .ok (.bipush 7, 2) := by decide +kernel
theorem d199_4 : decode (cm_M 199).2.2.1 4 = .ok (.invokestatic 161, 3) := by decide +kernel
theorem d199_7 : decode (cm_M 199).2.2.1 7 = .ok (.ifCond .eq 7, 3) := by decide +kernel
theorem d199_10 : decode (cm_M 199).2.2.1 10 = .ok (.iload_n 2, 1) := by decide +kernel
theorem d199_11 : decode (cm_M 199).2.2.1 11 = .ok (.ifCond .ge 5, 3) := by decide +kernel
theorem d199_14 : decode (cm_M 199).2.2.1 14 = .ok (.iconst (-1), 1) := by decide +kernel
theorem d199_15 : decode (cm_M 199).2.2.1 15 = .ok (.ireturn, 1) := by decide +kernel
theorem d199_16 : decode (cm_M 199).2.2.1 16 = .ok (.iconst 1, 1) := by decide +kernel
theorem d199_17 : decode (cm_M 199).2.2.1 17 = .ok (.istore_n 3, 1) := by decide +kernel
theorem d199_18 : decode (cm_M 199).2.2.1 18 = .ok (.iload_n 3, 1) := by decide +kernel
theorem d199_19 : decode (cm_M 199).2.2.1 19 = .ok (.aload_n 0, 1) := by decide +kernel
theorem d199_20 : decode (cm_M 199).2.2.1 20 = .ok (.getfield 330, 3) := by decide +kernel
theorem d199_23 : decode (cm_M 199).2.2.1 23 = .ok (.if_icmp .gt 74, 3) := by decide +kernel
theorem d199_26 : decode (cm_M 199).2.2.1 26 = .ok (.iconst 0, 1) := by decide +kernel
theorem d199_27 : decode (cm_M 199).2.2.1 27 = .ok (.istore 4, 2) := by decide +kernel
theorem d199_29 : decode (cm_M 199).2.2.1 29 = .ok (.iload_n 1, 1) := by decide +kernel
theorem d199_30 : decode (cm_M 199).2.2.1 30 = .ok (.istore 5, 2) := by decide +kernel
theorem d199_32 : decode (cm_M 199).2.2.1 32 = .ok (.iload 5, 2) := by decide +kernel
theorem d199_34 : decode (cm_M 199).2.2.1 34 = .ok (.bipush 8, 2) := by decide +kernel
theorem d199_36 : decode (cm_M 199).2.2.1 36 = .ok (.if_icmp .ge 47, 3) := by decide +kernel
theorem d199_39 : decode (cm_M 199).2.2.1 39 = .ok (.iload 4, 2) := by decide +kernel
theorem d199_41 : decode (cm_M 199).2.2.1 41 = .ok (.aload_n 0, 1) := by decide +kernel
theorem d199_42 : decode (cm_M 199).2.2.1 42 = .ok (.getfield 99, 3) := by decide +kernel
theorem d199_45 : decode (cm_M 199).2.2.1 45 = .ok (.iconst 3, 1) := by decide +kernel
theorem d199_46 : decode (cm_M 199).2.2.1 46 = .ok (.bipush 8, 2) := by decide +kernel
theorem d199_48 : decode (cm_M 199).2.2.1 48 = .ok (.iload_n 3, 1) := by decide +kernel
theorem d199_49 : decode (cm_M 199).2.2.1 49 = .ok (.imul, 1) := by decide +kernel
theorem d199_50 : decode (cm_M 199).2.2.1 50 = .ok (.iload 5, 2) := by decide +kernel
theorem d199_52 : decode (cm_M 199).2.2.1 52 = .ok (.iadd, 1) := by decide +kernel
theorem d199_53 : decode (cm_M 199).2.2.1 53 = .ok (.imul, 1) := by decide +kernel
theorem d199_54 : decode (cm_M 199).2.2.1 54 = .ok (.iconst 1, 1) := by decide +kernel
theorem d199_55 : decode (cm_M 199).2.2.1 55 = .ok (.iadd, 1) := by decide +kernel
theorem d199_56 : decode (cm_M 199).2.2.1 56 = .ok (.iaload, 1) := by decide +kernel
theorem d199_57 : decode (cm_M 199).2.2.1 57 = .ok (.aload_n 0, 1) := by decide +kernel
theorem d199_58 : decode (cm_M 199).2.2.1 58 = .ok (.getfield 99, 3) := by decide +kernel
theorem d199_61 : decode (cm_M 199).2.2.1 61 = .ok (.iconst 3, 1) := by decide +kernel
theorem d199_62 : decode (cm_M 199).2.2.1 62 = .ok (.bipush 8, 2) := by decide +kernel
theorem d199_64 : decode (cm_M 199).2.2.1 64 = .ok (.iload_n 3, 1) := by decide +kernel
theorem d199_65 : decode (cm_M 199).2.2.1 65 = .ok (.imul, 1) := by decide +kernel
theorem d199_66 : decode (cm_M 199).2.2.1 66 = .ok (.iload 5, 2) := by decide +kernel
theorem d199_68 : decode (cm_M 199).2.2.1 68 = .ok (.iadd, 1) := by decide +kernel
theorem d199_69 : decode (cm_M 199).2.2.1 69 = .ok (.imul, 1) := by decide +kernel
theorem d199_70 : decode (cm_M 199).2.2.1 70 = .ok (.iconst 2, 1) := by decide +kernel
theorem d199_71 : decode (cm_M 199).2.2.1 71 = .ok (.iadd, 1) := by decide +kernel
theorem d199_72 : decode (cm_M 199).2.2.1 72 = .ok (.iaload, 1) := by decide +kernel
theorem d199_73 : decode (cm_M 199).2.2.1 73 = .ok (.iadd, 1) := by decide +kernel
theorem d199_74 : decode (cm_M 199).2.2.1 74 = .ok (.iadd, 1) := by decide +kernel
theorem d199_75 : decode (cm_M 199).2.2.1 75 = .ok (.istore 4, 2) := by decide +kernel
theorem d199_77 : decode (cm_M 199).2.2.1 77 = .ok (.iinc 5 1, 3) := by decide +kernel
theorem d199_80 : decode (cm_M 199).2.2.1 80 = .ok (.goto (-48), 3) := by decide +kernel
theorem d199_83 : decode (cm_M 199).2.2.1 83 = .ok (.iload 4, 2) := by decide +kernel
theorem d199_85 : decode (cm_M 199).2.2.1 85 = .ok (.iload_n 2, 1) := by decide +kernel
theorem d199_86 : decode (cm_M 199).2.2.1 86 = .ok (.if_icmp .le 5, 3) := by decide +kernel
theorem d199_89 : decode (cm_M 199).2.2.1 89 = .ok (.iload_n 3, 1) := by decide +kernel
theorem d199_90 : decode (cm_M 199).2.2.1 90 = .ok (.ireturn, 1) := by decide +kernel
theorem d199_91 : decode (cm_M 199).2.2.1 91 = .ok (.iinc 3 1, 3) := by decide +kernel
theorem d199_94 : decode (cm_M 199).2.2.1 94 = .ok (.goto (-76), 3) := by decide +kernel
theorem d199_97 : decode (cm_M 199).2.2.1 97 = .ok (.iconst (-1), 1) := by decide +kernel
theorem d199_98 : decode (cm_M 199).2.2.1 98 = .ok (.ireturn, 1) := by decide +kernel
theorem s199_0 {sc : cmS} {d : Nat} {h : cmH} {Q : Option Value → cmH → Prop} (x1 : Int32) (x2 : Int32) (u3 : Option Value) (u4 : Option Value) (u5 : Option Value) (H : cm_ci sc d 137 [.int x1, .int (0 : Int32), .int (7 : Int32)] h (fun r h' => cm_wp sc (d + 1) 199 7 [some (.ref 38), some (.int x1), some (.int x2), u3, u4, u5] [.int r] h' Q)) : cm_wp sc (d + 1) 199 0 [some (.ref 38), some (.int x1), some (.int x2), u3, u4, u5] [] h Q :=
  wl_st d199_0 rfl rfl rfl rfl (wl_ic (v := 0) d199_1 rfl (wl_bi (v := 7) d199_2 rfl (wl_ci d199_4 rfl rfl rfl pm11_161 (by decide) (ca_s (Or.inl rfl) rfl (Nat.le_of_ble_eq_true rfl) (Nat.le_of_ble_eq_true rfl)) H)))
theorem s199_7 {sc : cmS} {d : Nat} {h : cmH} {Q : Option Value → cmH → Prop} (x1 : Int32) (x2 : Int32) (u3 : Option Value) (u4 : Option Value) (u5 : Option Value) (sx0 : Int32) (H : (((sx0 = 0) → Q (some (.int (-1 : Int32))) h) ∧ (¬ (sx0 = 0) → (((0 ≤ x2) → cm_wp sc d 199 18 [some (.ref 38), some (.int x1), some (.int x2), some (.int (1 : Int32)), u4, u5] [] h Q) ∧ (¬ (0 ≤ x2) → Q (some (.int (-1 : Int32))) h))))) : cm_wp sc d 199 7 [some (.ref 38), some (.int x1), some (.int x2), u3, u4, u5] [.int sx0] h Q :=
  wl_cb (b := sx0 = 0) (off := 7) (tgt := 14) (pc3 := 10) (st' := []) d199_7 rfl rfl rfl rfl (by decide) rfl (fun c1 => wl_ic (v := (-1)) d199_14 rfl (wl_rt d199_15 rfl rfl rfl (H.1 c1))) (fun c1 => wl_st d199_10 rfl rfl rfl rfl (wl_cb (b := 0 ≤ x2) (off := 5) (tgt := 16) (pc3 := 14) (st' := []) d199_11 rfl rfl rfl rfl (by decide) rfl (fun c2 => wl_ic (v := 1) d199_16 rfl (wl_st (ls' := [some (.ref 38), some (.int x1), some (.int x2), some (.int (1 : Int32)), u4, u5]) d199_17 rfl rfl rfl rfl (((H.2 c1).1 c2)))) (fun c2 => wl_ic (v := (-1)) d199_14 rfl (wl_rt d199_15 rfl rfl rfl ((H.2 c1).2 c2)))))
theorem s199_18 {sc : cmS} {d : Nat} {h : cmH} {Q : Option Value → cmH → Prop} (L : LY h) (x1 : Int32) (x2 : Int32) (x3 : Int32) (u4 : Option Value) (u5 : Option Value) (H : ((((cm_I h 38 0) < x3) → Q (some (.int (-1 : Int32))) h) ∧ (¬ ((cm_I h 38 0) < x3) → cm_wp sc d 199 32 [some (.ref 38), some (.int x1), some (.int x2), some (.int x3), some (.int (0 : Int32)), some (.int x1)] [] h Q))) : cm_wp sc d 199 18 [some (.ref 38), some (.int x1), some (.int x2), some (.int x3), u4, u5] [] h Q :=
  wl_st d199_18 rfl rfl rfl rfl (wl_st d199_19 rfl rfl rfl rfl (wl_gf (v := .int (cm_I h 38 0)) d199_20 pf11_330 (ly_k L 38 rfl) rfl (wl_cb (b := (cm_I h 38 0) < x3) (off := 74) (tgt := 97) (pc3 := 26) (st' := []) d199_23 rfl rfl rfl rfl (by decide) rfl (fun c1 => wl_ic (v := (-1)) d199_97 rfl (wl_rt d199_98 rfl rfl rfl (H.1 c1))) (fun c1 => wl_ic (v := 0) d199_26 rfl (wl_st (ls' := [some (.ref 38), some (.int x1), some (.int x2), some (.int x3), some (.int (0 : Int32)), u5]) d199_27 rfl rfl rfl rfl (wl_st d199_29 rfl rfl rfl rfl (wl_st (ls' := [some (.ref 38), some (.int x1), some (.int x2), some (.int x3), some (.int (0 : Int32)), some (.int x1)]) d199_30 rfl rfl rfl rfl ((H.2 c1)))))))))
theorem s199_32 {sc : cmS} {d : Nat} {h : cmH} {Q : Option Value → cmH → Prop} (L : LY h) (x1 : Int32) (x2 : Int32) (x3 : Int32) (x4 : Int32) (x5 : Int32) (H : ((((8 : Int32) ≤ x5) → (((x4 ≤ x2) → cm_wp sc d 199 18 [some (.ref 38), some (.int x1), some (.int x2), some (.int (x3 + 1)), some (.int x4), some (.int x5)] [] h Q) ∧ (¬ (x4 ≤ x2) → Q (some (.int x3)) h))) ∧ (¬ ((8 : Int32) ≤ x5) → (IX 48024 (((3 : Int32) * (((8 : Int32) * x3) + x5)) + (1 : Int32))) ∧ (IX 48024 (((3 : Int32) * (((8 : Int32) * x3) + x5)) + (2 : Int32))) ∧ cm_wp sc d 199 32 [some (.ref 38), some (.int x1), some (.int x2), some (.int x3), some (.int (x4 + ((cm_I h 68 (((3 : Int32) * (((8 : Int32) * x3) + x5)) + (1 : Int32)).toNatClampNeg) + (cm_I h 68 (((3 : Int32) * (((8 : Int32) * x3) + x5)) + (2 : Int32)).toNatClampNeg)))), some (.int (x5 + 1))] [] h Q))) : cm_wp sc d 199 32 [some (.ref 38), some (.int x1), some (.int x2), some (.int x3), some (.int x4), some (.int x5)] [] h Q :=
  wl_st d199_32 rfl rfl rfl rfl (wl_bi (v := 8) d199_34 rfl (wl_cb (b := (8 : Int32) ≤ x5) (off := 47) (tgt := 83) (pc3 := 39) (st' := []) d199_36 rfl rfl rfl rfl (by decide) rfl (fun c1 => wl_st d199_83 rfl rfl rfl rfl (wl_st d199_85 rfl rfl rfl rfl (wl_cb (b := x4 ≤ x2) (off := 5) (tgt := 91) (pc3 := 89) (st' := []) d199_86 rfl rfl rfl rfl (by decide) rfl (fun c2 => wl_st (ls' := [some (.ref 38), some (.int x1), some (.int x2), some (.int (x3 + 1)), some (.int x4), some (.int x5)]) d199_91 rfl rfl rfl rfl (wl_go (tgt := 18) d199_94 (by decide) (((H.1 c1).1 c2)))) (fun c2 => wl_st d199_89 rfl rfl rfl rfl (wl_rt d199_90 rfl rfl rfl ((H.1 c1).2 c2)))))) (fun c1 => wl_st d199_39 rfl rfl rfl rfl (wl_st d199_41 rfl rfl rfl rfl (wl_gr (b := 68) d199_42 pf11_99 (ly_k L 38 rfl) rfl (ly_r L 38 39 rfl) (wl_ic (v := 3) d199_45 rfl (wl_bi (v := 8) d199_46 rfl (wl_st d199_48 rfl rfl rfl rfl (wl_st d199_49 rfl rfl rfl rfl (wl_st d199_50 rfl rfl rfl rfl (wl_st d199_52 rfl rfl rfl rfl (wl_st d199_53 rfl rfl rfl rfl (wl_ic (v := 1) d199_54 rfl (wl_st d199_55 rfl rfl rfl rfl (And.elim (fun g3 g3k => wl_if (g := cm_ok h 13 68 (((3 : Int32) * (((8 : Int32) * x3) + x5)) + (1 : Int32))) (st' := [.int (cm_I h 68 (((3 : Int32) * (((8 : Int32) * x3) + x5)) + (1 : Int32)).toNatClampNeg), .int x4]) d199_56 rfl rfl rfl rfl (ly_o L 68 rfl g3) (wl_st d199_57 rfl rfl rfl rfl (wl_gr (b := 68) d199_58 pf11_99 (ly_k L 38 rfl) rfl (ly_r L 38 39 rfl) (wl_ic (v := 3) d199_61 rfl (wl_bi (v := 8) d199_62 rfl (wl_st d199_64 rfl rfl rfl rfl (wl_st d199_65 rfl rfl rfl rfl (wl_st d199_66 rfl rfl rfl rfl (wl_st d199_68 rfl rfl rfl rfl (wl_st d199_69 rfl rfl rfl rfl (wl_ic (v := 2) d199_70 rfl (wl_st d199_71 rfl rfl rfl rfl (And.elim (fun g4 g4k => wl_if (g := cm_ok h 13 68 (((3 : Int32) * (((8 : Int32) * x3) + x5)) + (2 : Int32))) (st' := [.int (cm_I h 68 (((3 : Int32) * (((8 : Int32) * x3) + x5)) + (2 : Int32)).toNatClampNeg), .int (cm_I h 68 (((3 : Int32) * (((8 : Int32) * x3) + x5)) + (1 : Int32)).toNatClampNeg), .int x4]) d199_72 rfl rfl rfl rfl (ly_o L 68 rfl g4) (wl_st d199_73 rfl rfl rfl rfl (wl_st d199_74 rfl rfl rfl rfl (wl_st (ls' := [some (.ref 38), some (.int x1), some (.int x2), some (.int x3), some (.int (x4 + ((cm_I h 68 (((3 : Int32) * (((8 : Int32) * x3) + x5)) + (1 : Int32)).toNatClampNeg) + (cm_I h 68 (((3 : Int32) * (((8 : Int32) * x3) + x5)) + (2 : Int32)).toNatClampNeg)))), some (.int x5)]) d199_75 rfl rfl rfl rfl (wl_st (ls' := [some (.ref 38), some (.int x1), some (.int x2), some (.int x3), some (.int (x4 + ((cm_I h 68 (((3 : Int32) * (((8 : Int32) * x3) + x5)) + (1 : Int32)).toNatClampNeg) + (cm_I h 68 (((3 : Int32) * (((8 : Int32) * x3) + x5)) + (2 : Int32)).toNatClampNeg)))), some (.int (x5 + 1))]) d199_77 rfl rfl rfl rfl (wl_go (tgt := 32) d199_80 (by decide) (g4k))))))) g3k))))))))))))) (H.2 c1))))))))))))))))

theorem dX9_in_0 : decode cX9_in 0 = .ok (.lload_n 0, 1) := by decide +kernel
theorem dX9_in_1 : decode cX9_in 1 = .ok (.lload_n 2, 1) := by decide +kernel
theorem dX9_in_2 : decode cX9_in 2 = .ok (.lcmp, 1) := by decide +kernel
theorem dX9_in_3 : decode cX9_in 3 = .ok (.ifCond .lt 14, 3) := by decide +kernel
theorem dX9_in_6 : decode cX9_in 6 = .ok (.lload_n 0, 1) := by decide +kernel
theorem dX9_in_7 : decode cX9_in 7 = .ok (.lload 4, 2) := by decide +kernel
theorem dX9_in_9 : decode cX9_in 9 = .ok (.lcmp, 1) := by decide +kernel
theorem dX9_in_10 : decode cX9_in 10 = .ok (.ifCond .gt 7, 3) := by decide +kernel
theorem dX9_in_13 : decode cX9_in 13 = .ok (.iconst 1, 1) := by decide +kernel
theorem dX9_in_14 : decode cX9_in 14 = .ok (.goto 4, 3) := by decide +kernel
theorem dX9_in_17 : decode cX9_in 17 = .ok (.iconst 0, 1) := by decide +kernel
theorem dX9_in_18 : decode cX9_in 18 = .ok (.ireturn, 1) := by decide +kernel
theorem dX9_within_0 : decode cX9_within 0 = .ok (.iload_n 0, 1) := by decide +kernel
theorem dX9_within_1 : decode cX9_within 1 = .ok (.iload_n 1, 1) := by decide +kernel
theorem dX9_within_2 : decode cX9_within 2 = .ok (.if_icmp .ge 7, 3) := by decide +kernel
theorem dX9_within_5 : decode cX9_within 5 = .ok (.iload_n 1, 1) := by decide +kernel
theorem dX9_within_6 : decode cX9_within 6 = .ok (.goto 13, 3) := by decide +kernel
theorem dX9_within_9 : decode cX9_within 9 = .ok (.iload_n 0, 1) := by decide +kernel
theorem dX9_within_10 : decode cX9_within 10 = .ok (.iload_n 2, 1) := by decide +kernel
theorem dX9_within_11 : decode cX9_within 11 = .ok (.if_icmp .le 7, 3) := by decide +kernel
theorem dX9_within_14 : decode cX9_within 14 = .ok (.iload_n 2, 1) := by decide +kernel
theorem dX9_within_15 : decode cX9_within 15 = .ok (.goto 4, 3) := by decide +kernel
theorem dX9_within_18 : decode cX9_within 18 = .ok (.iload_n 0, 1) := by decide +kernel
theorem dX9_within_19 : decode cX9_within 19 = .ok (.ireturn, 1) := by decide +kernel
theorem dX9_bitsOf_0 : decode cX9_bitsOf 0 = .ok (.iconst 0, 1) := by decide +kernel
theorem dX9_bitsOf_1 : decode cX9_bitsOf 1 = .ok (.istore_n 1, 1) := by decide +kernel
theorem dX9_bitsOf_2 : decode cX9_bitsOf 2 = .ok (.iload_n 0, 1) := by decide +kernel
theorem dX9_bitsOf_3 : decode cX9_bitsOf 3 = .ok (.istore_n 2, 1) := by decide +kernel
theorem dX9_bitsOf_4 : decode cX9_bitsOf 4 = .ok (.iload_n 2, 1) := by decide +kernel
theorem dX9_bitsOf_5 : decode cX9_bitsOf 5 = .ok (.ifCond .eq 15, 3) := by decide +kernel
theorem dX9_bitsOf_8 : decode cX9_bitsOf 8 = .ok (.iinc 1 1, 3) := by decide +kernel
theorem dX9_bitsOf_11 : decode cX9_bitsOf 11 = .ok (.iload_n 2, 1) := by decide +kernel
theorem dX9_bitsOf_12 : decode cX9_bitsOf 12 = .ok (.iload_n 2, 1) := by decide +kernel
theorem dX9_bitsOf_13 : decode cX9_bitsOf 13 = .ok (.iconst 1, 1) := by decide +kernel
theorem dX9_bitsOf_14 : decode cX9_bitsOf 14 = .ok (.isub, 1) := by decide +kernel
theorem dX9_bitsOf_15 : decode cX9_bitsOf 15 = .ok (.iand, 1) := by decide +kernel
theorem dX9_bitsOf_16 : decode cX9_bitsOf 16 = .ok (.istore_n 2, 1) := by decide +kernel
theorem dX9_bitsOf_17 : decode cX9_bitsOf 17 = .ok (.goto (-13), 3) := by decide +kernel
theorem dX9_bitsOf_20 : decode cX9_bitsOf 20 = .ok (.iload_n 1, 1) := by decide +kernel
theorem dX9_bitsOf_21 : decode cX9_bitsOf 21 = .ok (.ireturn, 1) := by decide +kernel
theorem dX9_init_0 : decode cX9_init 0 = .ok (.aload_n 0, 1) := by decide +kernel
theorem dX9_init_1 : decode cX9_init 1 = .ok (.invokespecial 7, 3) := by decide +kernel
theorem dX9_init_4 : decode cX9_init 4 = .ok (.aload_n 0, 1) := by decide +kernel
theorem dX9_init_5 : decode cX9_init 5 = .ok (.sipush 960, 3) := by decide +kernel
theorem dX9_init_8 : decode cX9_init 8 = .ok (.newarray .int, 2) := by decide +kernel
theorem dX9_init_10 : decode cX9_init 10 = .ok (.putfield 13, 3) := by decide +kernel
theorem dX9_init_13 : decode cX9_init 13 = .ok (.aload_n 0, 1) := by decide +kernel
theorem dX9_init_14 : decode cX9_init 14 = .ok (.bipush 6, 2) := by decide +kernel
theorem dX9_init_16 : decode cX9_init 16 = .ok (.newarray .int, 2) := by decide +kernel
theorem dX9_init_18 : decode cX9_init 18 = .ok (.putfield 17, 3) := by decide +kernel
theorem dX9_init_21 : decode cX9_init 21 = .ok (.aload_n 0, 1) := by decide +kernel
theorem dX9_init_22 : decode cX9_init 22 = .ok (.sipush 160, 3) := by decide +kernel
theorem dX9_init_25 : decode cX9_init 25 = .ok (.newarray .int, 2) := by decide +kernel
theorem dX9_init_27 : decode cX9_init 27 = .ok (.putfield 20, 3) := by decide +kernel
theorem dX9_init_30 : decode cX9_init 30 = .ok (.aload_n 0, 1) := by decide +kernel
theorem dX9_init_31 : decode cX9_init 31 = .ok (.bipush 32, 2) := by decide +kernel
theorem dX9_init_33 : decode cX9_init 33 = .ok (.newarray .int, 2) := by decide +kernel
theorem dX9_init_35 : decode cX9_init 35 = .ok (.putfield 23, 3) := by decide +kernel
theorem dX9_init_38 : decode cX9_init 38 = .ok (.aload_n 0, 1) := by decide +kernel
theorem dX9_init_39 : decode cX9_init 39 = .ok (.bipush 8, 2) := by decide +kernel
theorem dX9_init_41 : decode cX9_init 41 = .ok (.newarray .int, 2) := by decide +kernel
theorem dX9_init_43 : decode cX9_init 43 = .ok (.putfield 26, 3) := by decide +kernel
theorem dX9_init_46 : decode cX9_init 46 = .ok (.aload_n 0, 1) := by decide +kernel
theorem dX9_init_47 : decode cX9_init 47 = .ok (.bipush 8, 2) := by decide +kernel
theorem dX9_init_49 : decode cX9_init 49 = .ok (.newarray .int, 2) := by decide +kernel
theorem dX9_init_51 : decode cX9_init 51 = .ok (.putfield 29, 3) := by decide +kernel
theorem dX9_init_54 : decode cX9_init 54 = .ok (.aload_n 0, 1) := by decide +kernel
theorem dX9_init_55 : decode cX9_init 55 = .ok (.bipush 8, 2) := by decide +kernel
theorem dX9_init_57 : decode cX9_init 57 = .ok (.newarray .int, 2) := by decide +kernel
theorem dX9_init_59 : decode cX9_init 59 = .ok (.putfield 32, 3) := by decide +kernel
theorem dX9_init_62 : decode cX9_init 62 = .ok (.aload_n 0, 1) := by decide +kernel
theorem dX9_init_63 : decode cX9_init 63 = .ok (.bipush 8, 2) := by decide +kernel
theorem dX9_init_65 : decode cX9_init 65 = .ok (.newarray .int, 2) := by decide +kernel
theorem dX9_init_67 : decode cX9_init 67 = .ok (.putfield 35, 3) := by decide +kernel
theorem dX9_init_70 : decode cX9_init 70 = .ok (.aload_n 0, 1) := by decide +kernel
theorem dX9_init_71 : decode cX9_init 71 = .ok (.bipush 8, 2) := by decide +kernel
theorem dX9_init_73 : decode cX9_init 73 = .ok (.newarray .int, 2) := by decide +kernel
theorem dX9_init_75 : decode cX9_init 75 = .ok (.putfield 38, 3) := by decide +kernel
theorem dX9_init_78 : decode cX9_init 78 = .ok (.aload_n 0, 1) := by decide +kernel
theorem dX9_init_79 : decode cX9_init 79 = .ok (.sipush 192, 3) := by decide +kernel
theorem dX9_init_82 : decode cX9_init 82 = .ok (.newarray .int, 2) := by decide +kernel
theorem dX9_init_84 : decode cX9_init 84 = .ok (.putfield 41, 3) := by decide +kernel
theorem dX9_init_87 : decode cX9_init 87 = .ok (.aload_n 0, 1) := by decide +kernel
theorem dX9_init_88 : decode cX9_init 88 = .ok (.sipush 256, 3) := by decide +kernel
theorem dX9_init_91 : decode cX9_init 91 = .ok (.newarray .int, 2) := by decide +kernel
theorem dX9_init_93 : decode cX9_init 93 = .ok (.putfield 44, 3) := by decide +kernel
theorem dX9_init_96 : decode cX9_init 96 = .ok (.aload_n 0, 1) := by decide +kernel
theorem dX9_init_97 : decode cX9_init 97 = .ok (.bipush 32, 2) := by decide +kernel
theorem dX9_init_99 : decode cX9_init 99 = .ok (.newarray .int, 2) := by decide +kernel
theorem dX9_init_101 : decode cX9_init 101 = .ok (.putfield 47, 3) := by decide +kernel
theorem dX9_init_104 : decode cX9_init 104 = .ok (.aload_n 0, 1) := by decide +kernel
theorem dX9_init_105 : decode cX9_init 105 = .ok (.bipush 32, 2) := by decide +kernel
theorem dX9_init_107 : decode cX9_init 107 = .ok (.newarray .int, 2) := by decide +kernel
theorem dX9_init_109 : decode cX9_init 109 = .ok (.putfield 50, 3) := by decide +kernel
theorem dX9_init_112 : decode cX9_init 112 = .ok (.aload_n 0, 1) := by decide +kernel
theorem dX9_init_113 : decode cX9_init 113 = .ok (.bipush 32, 2) := by decide +kernel
theorem dX9_init_115 : decode cX9_init 115 = .ok (.newarray .int, 2) := by decide +kernel
theorem dX9_init_117 : decode cX9_init 117 = .ok (.putfield 53, 3) := by decide +kernel
theorem dX9_init_120 : decode cX9_init 120 = .ok (.aload_n 0, 1) := by decide +kernel
theorem dX9_init_121 : decode cX9_init 121 = .ok (.bipush 32, 2) := by decide +kernel
theorem dX9_init_123 : decode cX9_init 123 = .ok (.newarray .int, 2) := by decide +kernel
theorem dX9_init_125 : decode cX9_init 125 = .ok (.putfield 56, 3) := by decide +kernel
theorem dX9_init_128 : decode cX9_init 128 = .ok (.aload_n 0, 1) := by decide +kernel
theorem dX9_init_129 : decode cX9_init 129 = .ok (.iconst (-1), 1) := by decide +kernel
theorem dX9_init_130 : decode cX9_init 130 = .ok (.putfield 59, 3) := by decide +kernel
theorem dX9_init_133 : decode cX9_init 133 = .ok (.aload_n 0, 1) := by decide +kernel
theorem dX9_init_134 : decode cX9_init 134 = .ok (.iconst 4, 1) := by decide +kernel
theorem dX9_init_135 : decode cX9_init 135 = .ok (.newarray .boolean, 2) := by decide +kernel
theorem dX9_init_137 : decode cX9_init 137 = .ok (.putfield 62, 3) := by decide +kernel
theorem dX9_init_140 : decode cX9_init 140 = .ok (.aload_n 0, 1) := by decide +kernel
theorem dX9_init_141 : decode cX9_init 141 = .ok (.iconst 4, 1) := by decide +kernel
theorem dX9_init_142 : decode cX9_init 142 = .ok (.newarray .int, 2) := by decide +kernel
theorem dX9_init_144 : decode cX9_init 144 = .ok (.putfield 66, 3) := by decide +kernel
theorem dX9_init_147 : decode cX9_init 147 = .ok (.aload_n 0, 1) := by decide +kernel
theorem dX9_init_148 : decode cX9_init 148 = .ok (.iconst 4, 1) := by decide +kernel
theorem dX9_init_149 : decode cX9_init 149 = .ok (.newarray .int, 2) := by decide +kernel
theorem dX9_init_151 : decode cX9_init 151 = .ok (.putfield 69, 3) := by decide +kernel
theorem dX9_init_154 : decode cX9_init 154 = .ok (.aload_n 0, 1) := by decide +kernel
theorem dX9_init_155 : decode cX9_init 155 = .ok (.sipush 160, 3) := by decide +kernel
theorem dX9_init_158 : decode cX9_init 158 = .ok (.newarray .int, 2) := by decide +kernel
theorem dX9_init_160 : decode cX9_init 160 = .ok (.putfield 72, 3) := by decide +kernel
theorem dX9_init_163 : decode cX9_init 163 = .ok (.aload_n 0, 1) := by decide +kernel
theorem dX9_init_164 : decode cX9_init 164 = .ok (.iconst 0, 1) := by decide +kernel
theorem dX9_init_165 : decode cX9_init 165 = .ok (.bipush 99, 2) := by decide +kernel
theorem dX9_init_167 : decode cX9_init 167 = .ok (.bipush 111, 2) := by decide +kernel
theorem dX9_init_169 : decode cX9_init 169 = .ok (.bipush 115, 2) := by decide +kernel
theorem dX9_init_171 : decode cX9_init 171 = .ok (.bipush 116, 2) := by decide +kernel
theorem dX9_init_173 : decode cX9_init 173 = .ok (.bipush 115, 2) := by decide +kernel
theorem dX9_init_175 : decode cX9_init 175 = .ok (.bipush 32, 2) := by decide +kernel
theorem dX9_init_177 : decode cX9_init 177 = .ok (.bipush 49, 2) := by decide +kernel
theorem dX9_init_179 : decode cX9_init 179 = .ok (.bipush 32, 2) := by decide +kernel
theorem dX9_init_181 : decode cX9_init 181 = .ok (.invokevirtual 75, 3) := by decide +kernel
theorem dX9_init_184 : decode cX9_init 184 = .ok (.aload_n 0, 1) := by decide +kernel
theorem dX9_init_185 : decode cX9_init 185 = .ok (.bipush 8, 2) := by decide +kernel
theorem dX9_init_187 : decode cX9_init 187 = .ok (.bipush 43, 2) := by decide +kernel
theorem dX9_init_189 : decode cX9_init 189 = .ok (.bipush 32, 2) := by decide +kernel
theorem dX9_init_191 : decode cX9_init 191 = .ok (.bipush 110, 2) := by decide +kernel
theorem dX9_init_193 : decode cX9_init 193 = .ok (.bipush 117, 2) := by decide +kernel
theorem dX9_init_195 : decode cX9_init 195 = .ok (.bipush 109, 2) := by decide +kernel
theorem dX9_init_197 : decode cX9_init 197 = .ok (.bipush 98, 2) := by decide +kernel
theorem dX9_init_199 : decode cX9_init 199 = .ok (.bipush 101, 2) := by decide +kernel
theorem dX9_init_201 : decode cX9_init 201 = .ok (.bipush 114, 2) := by decide +kernel
theorem dX9_init_203 : decode cX9_init 203 = .ok (.invokevirtual 75, 3) := by decide +kernel
theorem dX9_init_206 : decode cX9_init 206 = .ok (.aload_n 0, 1) := by decide +kernel
theorem dX9_init_207 : decode cX9_init 207 = .ok (.bipush 16, 2) := by decide +kernel
theorem dX9_init_209 : decode cX9_init 209 = .ok (.bipush 32, 2) := by decide +kernel
theorem dX9_init_211 : decode cX9_init 211 = .ok (.bipush 59, 2) := by decide +kernel
theorem dX9_init_213 : decode cX9_init 213 = .ok (.bipush 32, 2) := by decide +kernel
theorem dX9_init_215 : decode cX9_init 215 = .ok (.bipush 119, 2) := by decide +kernel
theorem dX9_init_217 : decode cX9_init 217 = .ok (.bipush 101, 2) := by decide +kernel
theorem dX9_init_219 : decode cX9_init 219 = .ok (.bipush 116, 2) := by decide +kernel
theorem dX9_init_221 : decode cX9_init 221 = .ok (.bipush 115, 2) := by decide +kernel
theorem dX9_init_223 : decode cX9_init 223 = .ok (.bipush 32, 2) := by decide +kernel
theorem dX9_init_225 : decode cX9_init 225 = .ok (.invokevirtual 75, 3) := by decide +kernel
theorem dX9_init_228 : decode cX9_init 228 = .ok (.aload_n 0, 1) := by decide +kernel
theorem dX9_init_229 : decode cX9_init 229 = .ok (.bipush 24, 2) := by decide +kernel
theorem dX9_init_231 : decode cX9_init 231 = .ok (.bipush 119, 2) := by decide +kernel
theorem dX9_init_233 : decode cX9_init 233 = .ok (.bipush 101, 2) := by decide +kernel
theorem dX9_init_235 : decode cX9_init 235 = .ok (.bipush 97, 2) := by decide +kernel
theorem dX9_init_237 : decode cX9_init 237 = .ok (.bipush 116, 2) := by decide +kernel
theorem dX9_init_239 : decode cX9_init 239 = .ok (.bipush 104, 2) := by decide +kernel
theorem dX9_init_241 : decode cX9_init 241 = .ok (.bipush 101, 2) := by decide +kernel
theorem dX9_init_243 : decode cX9_init 243 = .ok (.bipush 114, 2) := by decide +kernel
theorem dX9_init_245 : decode cX9_init 245 = .ok (.bipush 32, 2) := by decide +kernel
theorem dX9_init_247 : decode cX9_init 247 = .ok (.invokevirtual 75, 3) := by decide +kernel
theorem dX9_init_250 : decode cX9_init 250 = .ok (.aload_n 0, 1) := by decide +kernel
theorem dX9_init_251 : decode cX9_init 251 = .ok (.bipush 32, 2) := by decide +kernel
theorem dX9_init_253 : decode cX9_init 253 = .ok (.bipush 59, 2) := by decide +kernel
theorem dX9_init_255 : decode cX9_init 255 = .ok (.bipush 32, 2) := by decide +kernel
theorem dX9_init_257 : decode cX9_init 257 = .ok (.bipush 112, 2) := by decide +kernel
theorem dX9_init_259 : decode cX9_init 259 = .ok (.bipush 114, 2) := by decide +kernel
theorem dX9_init_261 : decode cX9_init 261 = .ok (.bipush 105, 2) := by decide +kernel
theorem dX9_init_263 : decode cX9_init 263 = .ok (.bipush 99, 2) := by decide +kernel
theorem dX9_init_265 : decode cX9_init 265 = .ok (.bipush 101, 2) := by decide +kernel
theorem dX9_init_267 : decode cX9_init 267 = .ok (.bipush 32, 2) := by decide +kernel
theorem dX9_init_269 : decode cX9_init 269 = .ok (.invokevirtual 75, 3) := by decide +kernel
theorem dX9_init_272 : decode cX9_init 272 = .ok (.aload_n 0, 1) := by decide +kernel
theorem dX9_init_273 : decode cX9_init 273 = .ok (.bipush 40, 2) := by decide +kernel
theorem dX9_init_275 : decode cX9_init 275 = .ok (.bipush 119, 2) := by decide +kernel
theorem dX9_init_277 : decode cX9_init 277 = .ok (.bipush 101, 2) := by decide +kernel
theorem dX9_init_279 : decode cX9_init 279 = .ok (.bipush 97, 2) := by decide +kernel
theorem dX9_init_281 : decode cX9_init 281 = .ok (.bipush 116, 2) := by decide +kernel
theorem dX9_init_283 : decode cX9_init 283 = .ok (.bipush 104, 2) := by decide +kernel
theorem dX9_init_285 : decode cX9_init 285 = .ok (.bipush 101, 2) := by decide +kernel
theorem dX9_init_287 : decode cX9_init 287 = .ok (.bipush 114, 2) := by decide +kernel
theorem dX9_init_289 : decode cX9_init 289 = .ok (.bipush 32, 2) := by decide +kernel
theorem dX9_init_291 : decode cX9_init 291 = .ok (.invokevirtual 75, 3) := by decide +kernel
theorem dX9_init_294 : decode cX9_init 294 = .ok (.aload_n 0, 1) := by decide +kernel
theorem dX9_init_295 : decode cX9_init 295 = .ok (.bipush 48, 2) := by decide +kernel
theorem dX9_init_297 : decode cX9_init 297 = .ok (.bipush 42, 2) := by decide +kernel
theorem dX9_init_299 : decode cX9_init 299 = .ok (.bipush 32, 2) := by decide +kernel
theorem dX9_init_301 : decode cX9_init 301 = .ok (.bipush 51, 2) := by decide +kernel
theorem dX9_init_303 : decode cX9_init 303 = .ok (.bipush 32, 2) := by decide +kernel
theorem dX9_init_305 : decode cX9_init 305 = .ok (.bipush 59, 2) := by decide +kernel
theorem dX9_init_307 : decode cX9_init 307 = .ok (.bipush 32, 2) := by decide +kernel
theorem dX9_init_309 : decode cX9_init 309 = .ok (.bipush 32, 2) := by decide +kernel
theorem dX9_init_311 : decode cX9_init 311 = .ok (.bipush 32, 2) := by decide +kernel
theorem dX9_init_313 : decode cX9_init 313 = .ok (.invokevirtual 75, 3) := by decide +kernel
theorem dX9_init_316 : decode cX9_init 316 = .ok (.aload_n 0, 1) := by decide +kernel
theorem dX9_init_317 : decode cX9_init 317 = .ok (.getfield 17, 3) := by decide +kernel
theorem dX9_init_320 : decode cX9_init 320 = .ok (.iconst 0, 1) := by decide +kernel
theorem dX9_init_321 : decode cX9_init 321 = .ok (.bipush 56, 2) := by decide +kernel
theorem dX9_init_323 : decode cX9_init 323 = .ok (.iastore, 1) := by decide +kernel
theorem dX9_init_324 : decode cX9_init 324 = .ok (.aload_n 0, 1) := by decide +kernel
theorem dX9_init_325 : decode cX9_init 325 = .ok (.iconst 1, 1) := by decide +kernel
theorem dX9_init_326 : decode cX9_init 326 = .ok (.putfield 79, 3) := by decide +kernel
theorem dX9_init_329 : decode cX9_init 329 = .ok (.return_, 1) := by decide +kernel
theorem dX9_spell_0 : decode cX9_spell 0 = .ok (.aload_n 0, 1) := by decide +kernel
theorem dX9_spell_1 : decode cX9_spell 1 = .ok (.getfield 13, 3) := by decide +kernel
theorem dX9_spell_4 : decode cX9_spell 4 = .ok (.iload_n 1, 1) := by decide +kernel
theorem dX9_spell_5 : decode cX9_spell 5 = .ok (.iload_n 2, 1) := by decide +kernel
theorem dX9_spell_6 : decode cX9_spell 6 = .ok (.iastore, 1) := by decide +kernel
theorem dX9_spell_7 : decode cX9_spell 7 = .ok (.aload_n 0, 1) := by decide +kernel
theorem dX9_spell_8 : decode cX9_spell 8 = .ok (.getfield 13, 3) := by decide +kernel
theorem dX9_spell_11 : decode cX9_spell 11 = .ok (.iload_n 1, 1) := by decide +kernel
theorem dX9_spell_12 : decode cX9_spell 12 = .ok (.iconst 1, 1) := by decide +kernel
theorem dX9_spell_13 : decode cX9_spell 13 = .ok (.iadd, 1) := by decide +kernel
theorem dX9_spell_14 : decode cX9_spell 14 = .ok (.iload_n 3, 1) := by decide +kernel
theorem dX9_spell_15 : decode cX9_spell 15 = .ok (.iastore, 1) := by decide +kernel
theorem dX9_spell_16 : decode cX9_spell 16 = .ok (.aload_n 0, 1) := by decide +kernel
theorem dX9_spell_17 : decode cX9_spell 17 = .ok (.getfield 13, 3) := by decide +kernel
theorem dX9_spell_20 : decode cX9_spell 20 = .ok (.iload_n 1, 1) := by decide +kernel
theorem dX9_spell_21 : decode cX9_spell 21 = .ok (.iconst 2, 1) := by decide +kernel
theorem dX9_spell_22 : decode cX9_spell 22 = .ok (.iadd, 1) := by decide +kernel
theorem dX9_spell_23 : decode cX9_spell 23 = .ok (.iload 4, 2) := by decide +kernel
theorem dX9_spell_25 : decode cX9_spell 25 = .ok (.iastore, 1) := by decide +kernel
theorem dX9_spell_26 : decode cX9_spell 26 = .ok (.aload_n 0, 1) := by decide +kernel
theorem dX9_spell_27 : decode cX9_spell 27 = .ok (.getfield 13, 3) := by decide +kernel
theorem dX9_spell_30 : decode cX9_spell 30 = .ok (.iload_n 1, 1) := by decide +kernel
theorem dX9_spell_31 : decode cX9_spell 31 = .ok (.iconst 3, 1) := by decide +kernel
theorem dX9_spell_32 : decode cX9_spell 32 = .ok (.iadd, 1) := by decide +kernel
theorem dX9_spell_33 : decode cX9_spell 33 = .ok (.iload 5, 2) := by decide +kernel
theorem dX9_spell_35 : decode cX9_spell 35 = .ok (.iastore, 1) := by decide +kernel
theorem dX9_spell_36 : decode cX9_spell 36 = .ok (.aload_n 0, 1) := by decide +kernel
theorem dX9_spell_37 : decode cX9_spell 37 = .ok (.getfield 13, 3) := by decide +kernel
theorem dX9_spell_40 : decode cX9_spell 40 = .ok (.iload_n 1, 1) := by decide +kernel
theorem dX9_spell_41 : decode cX9_spell 41 = .ok (.iconst 4, 1) := by decide +kernel
theorem dX9_spell_42 : decode cX9_spell 42 = .ok (.iadd, 1) := by decide +kernel
theorem dX9_spell_43 : decode cX9_spell 43 = .ok (.iload 6, 2) := by decide +kernel
theorem dX9_spell_45 : decode cX9_spell 45 = .ok (.iastore, 1) := by decide +kernel
theorem dX9_spell_46 : decode cX9_spell 46 = .ok (.aload_n 0, 1) := by decide +kernel
theorem dX9_spell_47 : decode cX9_spell 47 = .ok (.getfield 13, 3) := by decide +kernel
theorem dX9_spell_50 : decode cX9_spell 50 = .ok (.iload_n 1, 1) := by decide +kernel
theorem dX9_spell_51 : decode cX9_spell 51 = .ok (.iconst 5, 1) := by decide +kernel
theorem dX9_spell_52 : decode cX9_spell 52 = .ok (.iadd, 1) := by decide +kernel
theorem dX9_spell_53 : decode cX9_spell 53 = .ok (.iload 7, 2) := by decide +kernel
theorem dX9_spell_55 : decode cX9_spell 55 = .ok (.iastore, 1) := by decide +kernel
theorem dX9_spell_56 : decode cX9_spell 56 = .ok (.aload_n 0, 1) := by decide +kernel
theorem dX9_spell_57 : decode cX9_spell 57 = .ok (.getfield 13, 3) := by decide +kernel
theorem dX9_spell_60 : decode cX9_spell 60 = .ok (.iload_n 1, 1) := by decide +kernel
theorem dX9_spell_61 : decode cX9_spell 61 = .ok (.bipush 6, 2) := by decide +kernel
theorem dX9_spell_63 : decode cX9_spell 63 = .ok (.iadd, 1) := by decide +kernel
theorem dX9_spell_64 : decode cX9_spell 64 = .ok (.iload 8, 2) := by decide +kernel
theorem dX9_spell_66 : decode cX9_spell 66 = .ok (.iastore, 1) := by decide +kernel
theorem dX9_spell_67 : decode cX9_spell 67 = .ok (.aload_n 0, 1) := by decide +kernel
theorem dX9_spell_68 : decode cX9_spell 68 = .ok (.getfield 13, 3) := by decide +kernel
theorem dX9_spell_71 : decode cX9_spell 71 = .ok (.iload_n 1, 1) := by decide +kernel
theorem dX9_spell_72 : decode cX9_spell 72 = .ok (.bipush 7, 2) := by decide +kernel
theorem dX9_spell_74 : decode cX9_spell 74 = .ok (.iadd, 1) := by decide +kernel
theorem dX9_spell_75 : decode cX9_spell 75 = .ok (.iload 9, 2) := by decide +kernel
theorem dX9_spell_77 : decode cX9_spell 77 = .ok (.iastore, 1) := by decide +kernel
theorem dX9_spell_78 : decode cX9_spell 78 = .ok (.return_, 1) := by decide +kernel
theorem dX9_isPane_0 : decode cX9_isPane 0 = .ok (.iload_n 1, 1) := by decide +kernel
theorem dX9_isPane_1 : decode cX9_isPane 1 = .ok (.i2l, 1) := by decide +kernel
theorem dX9_isPane_2 : decode cX9_isPane 2 = .ok (.lconst 0, 1) := by decide +kernel
theorem dX9_isPane_3 : decode cX9_isPane 3 = .ok (.aload_n 0, 1) := by decide +kernel
theorem dX9_isPane_4 : decode cX9_isPane 4 = .ok (.getfield 82, 3) := by decide +kernel
theorem dX9_isPane_7 : decode cX9_isPane 7 = .ok (.iconst 1, 1) := by decide +kernel
theorem dX9_isPane_8 : decode cX9_isPane 8 = .ok (.isub, 1) := by decide +kernel
theorem dX9_isPane_9 : decode cX9_isPane 9 = .ok (.i2l, 1) := by decide +kernel
theorem dX9_isPane_10 : decode cX9_isPane 10 = .ok (.invokestatic 85, 3) := by decide +kernel
theorem dX9_isPane_13 : decode cX9_isPane 13 = .ok (.ireturn, 1) := by decide +kernel
theorem dX9_isDay_0 : decode cX9_isDay 0 = .ok (.iload_n 0, 1) := by decide +kernel
theorem dX9_isDay_1 : decode cX9_isDay 1 = .ok (.i2l, 1) := by decide +kernel
theorem dX9_isDay_2 : decode cX9_isDay 2 = .ok (.lconst 0, 1) := by decide +kernel
theorem dX9_isDay_3 : decode cX9_isDay 3 = .ok (.ldc2_w 89, 3) := by decide +kernel
theorem dX9_isDay_6 : decode cX9_isDay 6 = .ok (.invokestatic 85, 3) := by decide +kernel
theorem dX9_isDay_9 : decode cX9_isDay 9 = .ok (.ireturn, 1) := by decide +kernel
theorem dX9_isRoom_0 : decode cX9_isRoom 0 = .ok (.iload_n 0, 1) := by decide +kernel
theorem dX9_isRoom_1 : decode cX9_isRoom 1 = .ok (.i2l, 1) := by decide +kernel
theorem dX9_isRoom_2 : decode cX9_isRoom 2 = .ok (.lconst 0, 1) := by decide +kernel
theorem dX9_isRoom_3 : decode cX9_isRoom 3 = .ok (.ldc2_w 91, 3) := by decide +kernel
theorem dX9_isRoom_6 : decode cX9_isRoom 6 = .ok (.invokestatic 85, 3) := by decide +kernel
theorem dX9_isRoom_9 : decode cX9_isRoom 9 = .ok (.ireturn, 1) := by decide +kernel
theorem dX9_isSpot_0 : decode cX9_isSpot 0 = .ok (.iload_n 0, 1) := by decide +kernel
theorem dX9_isSpot_1 : decode cX9_isSpot 1 = .ok (.i2l, 1) := by decide +kernel
theorem dX9_isSpot_2 : decode cX9_isSpot 2 = .ok (.lconst 0, 1) := by decide +kernel
theorem dX9_isSpot_3 : decode cX9_isSpot 3 = .ok (.ldc2_w 93, 3) := by decide +kernel
theorem dX9_isSpot_6 : decode cX9_isSpot 6 = .ok (.invokestatic 85, 3) := by decide +kernel
theorem dX9_isSpot_9 : decode cX9_isSpot 9 = .ok (.ireturn, 1) := by decide +kernel
theorem dX9_isSort_0 : decode cX9_isSort 0 = .ok (.iload_n 0, 1) := by decide +kernel
theorem dX9_isSort_1 : decode cX9_isSort 1 = .ok (.i2l, 1) := by decide +kernel
theorem dX9_isSort_2 : decode cX9_isSort 2 = .ok (.lconst 0, 1) := by decide +kernel
theorem dX9_isSort_3 : decode cX9_isSort 3 = .ok (.ldc2_w 95, 3) := by decide +kernel
theorem dX9_isSort_6 : decode cX9_isSort 6 = .ok (.invokestatic 85, 3) := by decide +kernel
theorem dX9_isSort_9 : decode cX9_isSort 9 = .ok (.ireturn, 1) := by decide +kernel
theorem dX9_set_0 : decode cX9_set 0 = .ok (.iload_n 1, 1) := by decide +kernel
theorem dX9_set_1 : decode cX9_set 1 = .ok (.i2l, 1) := by decide +kernel
theorem dX9_set_2 : decode cX9_set 2 = .ok (.lconst 0, 1) := by decide +kernel
theorem dX9_set_3 : decode cX9_set 3 = .ok (.ldc2_w 97, 3) := by decide +kernel
theorem dX9_set_6 : decode cX9_set 6 = .ok (.invokestatic 85, 3) := by decide +kernel
theorem dX9_set_9 : decode cX9_set 9 = .ok (.ifCond .eq 25, 3) := by decide +kernel
theorem dX9_set_12 : decode cX9_set 12 = .ok (.iload_n 1, 1) := by decide +kernel
theorem dX9_set_13 : decode cX9_set 13 = .ok (.ifCond .ne 13, 3) := by decide +kernel
theorem dX9_set_16 : decode cX9_set 16 = .ok (.iload_n 2, 1) := by decide +kernel
theorem dX9_set_17 : decode cX9_set 17 = .ok (.invokestatic 99, 3) := by decide +kernel
theorem dX9_set_20 : decode cX9_set 20 = .ok (.ifCond .eq 14, 3) := by decide +kernel
theorem dX9_set_23 : decode cX9_set 23 = .ok (.goto 14, 3) := by decide +kernel
theorem dX9_set_26 : decode cX9_set 26 = .ok (.aload_n 0, 1) := by decide +kernel
theorem dX9_set_27 : decode cX9_set 27 = .ok (.iload_n 2, 1) := by decide +kernel
theorem dX9_set_28 : decode cX9_set 28 = .ok (.invokevirtual 103, 3) := by decide +kernel
theorem dX9_set_31 : decode cX9_set 31 = .ok (.ifCond .ne 6, 3) := by decide +kernel
theorem dX9_set_34 : decode cX9_set 34 = .ok (.bipush (-100), 2) := by decide +kernel
theorem dX9_set_36 : decode cX9_set 36 = .ok (.ireturn, 1) := by decide +kernel
theorem dX9_set_37 : decode cX9_set 37 = .ok (.iload_n 3, 1) := by decide +kernel
theorem dX9_set_38 : decode cX9_set 38 = .ok (.i2l, 1) := by decide +kernel
theorem dX9_set_39 : decode cX9_set 39 = .ok (.iload_n 1, 1) := by decide +kernel
theorem dX9_set_40 : decode cX9_set 40 = .ok (.iconst 2, 1) := by decide +kernel
theorem dX9_set_41 : decode cX9_set 41 = .ok (.if_icmp .ne 9, 3) := by decide +kernel
theorem dX9_set_44 : decode cX9_set 44 = .ok (.ldc2_w 106, 3) := by decide +kernel
theorem dX9_set_47 : decode cX9_set 47 = .ok (.goto 4, 3) := by decide +kernel
theorem dX9_set_50 : decode cX9_set 50 = .ok (.lconst 0, 1) := by decide +kernel
theorem dX9_set_51 : decode cX9_set 51 = .ok (.iload_n 1, 1) := by decide +kernel
theorem dX9_set_52 : decode cX9_set 52 = .ok (.iconst 2, 1) := by decide +kernel
theorem dX9_set_53 : decode cX9_set 53 = .ok (.if_icmp .le 9, 3) := by decide +kernel
theorem dX9_set_56 : decode cX9_set 56 = .ok (.ldc2_w 91, 3) := by decide +kernel
theorem dX9_set_59 : decode cX9_set 59 = .ok (.goto 6, 3) := by decide +kernel
theorem dX9_set_62 : decode cX9_set 62 = .ok (.ldc2_w 108, 3) := by decide +kernel
theorem dX9_set_65 : decode cX9_set 65 = .ok (.invokestatic 85, 3) := by decide +kernel
theorem dX9_set_68 : decode cX9_set 68 = .ok (.ifCond .ne 6, 3) := by decide +kernel
theorem dX9_set_71 : decode cX9_set 71 = .ok (.bipush (-100), 2) := by decide +kernel
theorem dX9_set_73 : decode cX9_set 73 = .ok (.ireturn, 1) := by decide +kernel
theorem dX9_set_74 : decode cX9_set 74 = .ok (.aload_n 0, 1) := by decide +kernel
theorem dX9_set_75 : decode cX9_set 75 = .ok (.iload_n 2, 1) := by decide +kernel
theorem dX9_set_76 : decode cX9_set 76 = .ok (.iload_n 1, 1) := by decide +kernel
theorem dX9_set_77 : decode cX9_set 77 = .ok (.invokevirtual 110, 3) := by decide +kernel
theorem dX9_set_80 : decode cX9_set 80 = .ok (.istore 4, 2) := by decide +kernel
theorem dX9_set_82 : decode cX9_set 82 = .ok (.iload_n 1, 1) := by decide +kernel
theorem dX9_set_83 : decode cX9_set 83 = .ok (.ifCond .ne 13, 3) := by decide +kernel
theorem dX9_set_86 : decode cX9_set 86 = .ok (.aload_n 0, 1) := by decide +kernel
theorem dX9_set_87 : decode cX9_set 87 = .ok (.getfield 23, 3) := by decide +kernel
theorem dX9_set_90 : decode cX9_set 90 = .ok (.iload_n 2, 1) := by decide +kernel
theorem dX9_set_91 : decode cX9_set 91 = .ok (.iload_n 3, 1) := by decide +kernel
theorem dX9_set_92 : decode cX9_set 92 = .ok (.iastore, 1) := by decide +kernel
theorem dX9_set_93 : decode cX9_set 93 = .ok (.goto 55, 3) := by decide +kernel
theorem dX9_set_96 : decode cX9_set 96 = .ok (.iload_n 1, 1) := by decide +kernel
theorem dX9_set_97 : decode cX9_set 97 = .ok (.iconst 1, 1) := by decide +kernel
theorem dX9_set_98 : decode cX9_set 98 = .ok (.if_icmp .ne 13, 3) := by decide +kernel
theorem dX9_set_101 : decode cX9_set 101 = .ok (.aload_n 0, 1) := by decide +kernel
theorem dX9_set_102 : decode cX9_set 102 = .ok (.getfield 29, 3) := by decide +kernel
theorem dX9_set_105 : decode cX9_set 105 = .ok (.iload_n 2, 1) := by decide +kernel
theorem dX9_set_106 : decode cX9_set 106 = .ok (.iload_n 3, 1) := by decide +kernel
theorem dX9_set_107 : decode cX9_set 107 = .ok (.iastore, 1) := by decide +kernel
theorem dX9_set_108 : decode cX9_set 108 = .ok (.goto 40, 3) := by decide +kernel
theorem dX9_set_111 : decode cX9_set 111 = .ok (.iload_n 1, 1) := by decide +kernel
theorem dX9_set_112 : decode cX9_set 112 = .ok (.iconst 2, 1) := by decide +kernel
theorem dX9_set_113 : decode cX9_set 113 = .ok (.if_icmp .ne 13, 3) := by decide +kernel
theorem dX9_set_116 : decode cX9_set 116 = .ok (.aload_n 0, 1) := by decide +kernel
theorem dX9_set_117 : decode cX9_set 117 = .ok (.getfield 32, 3) := by decide +kernel
theorem dX9_set_120 : decode cX9_set 120 = .ok (.iload_n 2, 1) := by decide +kernel
theorem dX9_set_121 : decode cX9_set 121 = .ok (.iload_n 3, 1) := by decide +kernel
theorem dX9_set_122 : decode cX9_set 122 = .ok (.iastore, 1) := by decide +kernel
theorem dX9_set_123 : decode cX9_set 123 = .ok (.goto 25, 3) := by decide +kernel
theorem dX9_set_126 : decode cX9_set 126 = .ok (.iload_n 1, 1) := by decide +kernel
theorem dX9_set_127 : decode cX9_set 127 = .ok (.iconst 3, 1) := by decide +kernel
theorem dX9_set_128 : decode cX9_set 128 = .ok (.if_icmp .ne 13, 3) := by decide +kernel
theorem dX9_set_131 : decode cX9_set 131 = .ok (.aload_n 0, 1) := by decide +kernel
theorem dX9_set_132 : decode cX9_set 132 = .ok (.getfield 35, 3) := by decide +kernel
theorem dX9_set_135 : decode cX9_set 135 = .ok (.iload_n 2, 1) := by decide +kernel
theorem dX9_set_136 : decode cX9_set 136 = .ok (.iload_n 3, 1) := by decide +kernel
theorem dX9_set_137 : decode cX9_set 137 = .ok (.iastore, 1) := by decide +kernel
theorem dX9_set_138 : decode cX9_set 138 = .ok (.goto 10, 3) := by decide +kernel
theorem dX9_set_141 : decode cX9_set 141 = .ok (.aload_n 0, 1) := by decide +kernel
theorem dX9_set_142 : decode cX9_set 142 = .ok (.getfield 38, 3) := by decide +kernel
theorem dX9_set_145 : decode cX9_set 145 = .ok (.iload_n 2, 1) := by decide +kernel
theorem dX9_set_146 : decode cX9_set 146 = .ok (.iload_n 3, 1) := by decide +kernel
theorem dX9_set_147 : decode cX9_set 147 = .ok (.iastore, 1) := by decide +kernel
theorem dX9_set_148 : decode cX9_set 148 = .ok (.iload 4, 2) := by decide +kernel
theorem dX9_set_150 : decode cX9_set 150 = .ok (.ireturn, 1) := by decide +kernel
theorem dX9_pane_0 : decode cX9_pane 0 = .ok (.iload_n 1, 1) := by decide +kernel
theorem dX9_pane_1 : decode cX9_pane 1 = .ok (.i2l, 1) := by decide +kernel
theorem dX9_pane_2 : decode cX9_pane 2 = .ok (.lconst 0, 1) := by decide +kernel
theorem dX9_pane_3 : decode cX9_pane 3 = .ok (.ldc2_w 91, 3) := by decide +kernel
theorem dX9_pane_6 : decode cX9_pane 6 = .ok (.invokestatic 85, 3) := by decide +kernel
theorem dX9_pane_9 : decode cX9_pane 9 = .ok (.ifCond .eq 46, 3) := by decide +kernel
theorem dX9_pane_12 : decode cX9_pane 12 = .ok (.iload_n 2, 1) := by decide +kernel
theorem dX9_pane_13 : decode cX9_pane 13 = .ok (.i2l, 1) := by decide +kernel
theorem dX9_pane_14 : decode cX9_pane 14 = .ok (.lconst 0, 1) := by decide +kernel
theorem dX9_pane_15 : decode cX9_pane 15 = .ok (.ldc2_w 114, 3) := by decide +kernel
theorem dX9_pane_18 : decode cX9_pane 18 = .ok (.invokestatic 85, 3) := by decide +kernel
theorem dX9_pane_21 : decode cX9_pane 21 = .ok (.ifCond .eq 34, 3) := by decide +kernel
theorem dX9_pane_24 : decode cX9_pane 24 = .ok (.iload_n 2, 1) := by decide +kernel
theorem dX9_pane_25 : decode cX9_pane 25 = .ok (.bipush 100, 2) := by decide +kernel
theorem dX9_pane_27 : decode cX9_pane 27 = .ok (.irem, 1) := by decide +kernel
theorem dX9_pane_28 : decode cX9_pane 28 = .ok (.bipush 18, 2) := by decide +kernel
theorem dX9_pane_30 : decode cX9_pane 30 = .ok (.if_icmp .gt 25, 3) := by decide +kernel
theorem dX9_pane_33 : decode cX9_pane 33 = .ok (.iload_n 3, 1) := by decide +kernel
theorem dX9_pane_34 : decode cX9_pane 34 = .ok (.i2l, 1) := by decide +kernel
theorem dX9_pane_35 : decode cX9_pane 35 = .ok (.lconst 0, 1) := by decide +kernel
theorem dX9_pane_36 : decode cX9_pane 36 = .ok (.ldc2_w 116, 3) := by decide +kernel
theorem dX9_pane_39 : decode cX9_pane 39 = .ok (.invokestatic 85, 3) := by decide +kernel
theorem dX9_pane_42 : decode cX9_pane 42 = .ok (.ifCond .eq 13, 3) := by decide +kernel
theorem dX9_pane_45 : decode cX9_pane 45 = .ok (.iload_n 3, 1) := by decide +kernel
theorem dX9_pane_46 : decode cX9_pane 46 = .ok (.bipush 10, 2) := by decide +kernel
theorem dX9_pane_48 : decode cX9_pane 48 = .ok (.irem, 1) := by decide +kernel
theorem dX9_pane_49 : decode cX9_pane 49 = .ok (.invokestatic 118, 3) := by decide +kernel
theorem dX9_pane_52 : decode cX9_pane 52 = .ok (.ifCond .ne 6, 3) := by decide +kernel
theorem dX9_pane_55 : decode cX9_pane 55 = .ok (.bipush (-2), 2) := by decide +kernel
theorem dX9_pane_57 : decode cX9_pane 57 = .ok (.ireturn, 1) := by decide +kernel
theorem dX9_pane_58 : decode cX9_pane 58 = .ok (.aload_n 0, 1) := by decide +kernel
theorem dX9_pane_59 : decode cX9_pane 59 = .ok (.getfield 82, 3) := by decide +kernel
theorem dX9_pane_62 : decode cX9_pane 62 = .ok (.bipush 8, 2) := by decide +kernel
theorem dX9_pane_64 : decode cX9_pane 64 = .ok (.if_icmp .ne 6, 3) := by decide +kernel
theorem dX9_pane_67 : decode cX9_pane 67 = .ok (.bipush (-4), 2) := by decide +kernel
theorem dX9_pane_69 : decode cX9_pane 69 = .ok (.ireturn, 1) := by decide +kernel
theorem dX9_pane_70 : decode cX9_pane 70 = .ok (.aload_n 0, 1) := by decide +kernel
theorem dX9_pane_71 : decode cX9_pane 71 = .ok (.getfield 26, 3) := by decide +kernel
theorem dX9_pane_74 : decode cX9_pane 74 = .ok (.aload_n 0, 1) := by decide +kernel
theorem dX9_pane_75 : decode cX9_pane 75 = .ok (.getfield 82, 3) := by decide +kernel
theorem dX9_pane_78 : decode cX9_pane 78 = .ok (.iload_n 1, 1) := by decide +kernel
theorem dX9_pane_79 : decode cX9_pane 79 = .ok (.iastore, 1) := by decide +kernel
theorem dX9_pane_80 : decode cX9_pane 80 = .ok (.aload_n 0, 1) := by decide +kernel
theorem dX9_pane_81 : decode cX9_pane 81 = .ok (.getfield 29, 3) := by decide +kernel
theorem dX9_pane_84 : decode cX9_pane 84 = .ok (.aload_n 0, 1) := by decide +kernel
theorem dX9_pane_85 : decode cX9_pane 85 = .ok (.getfield 82, 3) := by decide +kernel
theorem dX9_pane_88 : decode cX9_pane 88 = .ok (.iload_n 2, 1) := by decide +kernel
theorem dX9_pane_89 : decode cX9_pane 89 = .ok (.bipush 100, 2) := by decide +kernel
theorem dX9_pane_91 : decode cX9_pane 91 = .ok (.idiv, 1) := by decide +kernel
theorem dX9_pane_92 : decode cX9_pane 92 = .ok (.iastore, 1) := by decide +kernel
theorem dX9_pane_93 : decode cX9_pane 93 = .ok (.aload_n 0, 1) := by decide +kernel
theorem dX9_pane_94 : decode cX9_pane 94 = .ok (.getfield 32, 3) := by decide +kernel
theorem dX9_pane_97 : decode cX9_pane 97 = .ok (.aload_n 0, 1) := by decide +kernel
theorem dX9_pane_98 : decode cX9_pane 98 = .ok (.getfield 82, 3) := by decide +kernel
theorem dX9_pane_101 : decode cX9_pane 101 = .ok (.iload_n 2, 1) := by decide +kernel
theorem dX9_pane_102 : decode cX9_pane 102 = .ok (.bipush 100, 2) := by decide +kernel
theorem dX9_pane_104 : decode cX9_pane 104 = .ok (.irem, 1) := by decide +kernel
theorem dX9_pane_105 : decode cX9_pane 105 = .ok (.bipush 9, 2) := by decide +kernel
theorem dX9_pane_107 : decode cX9_pane 107 = .ok (.isub, 1) := by decide +kernel
theorem dX9_pane_108 : decode cX9_pane 108 = .ok (.iastore, 1) := by decide +kernel
theorem dX9_pane_109 : decode cX9_pane 109 = .ok (.aload_n 0, 1) := by decide +kernel
theorem dX9_pane_110 : decode cX9_pane 110 = .ok (.getfield 35, 3) := by decide +kernel
theorem dX9_pane_113 : decode cX9_pane 113 = .ok (.aload_n 0, 1) := by decide +kernel
theorem dX9_pane_114 : decode cX9_pane 114 = .ok (.getfield 82, 3) := by decide +kernel
theorem dX9_pane_117 : decode cX9_pane 117 = .ok (.iload_n 3, 1) := by decide +kernel
theorem dX9_pane_118 : decode cX9_pane 118 = .ok (.bipush 10, 2) := by decide +kernel
theorem dX9_pane_120 : decode cX9_pane 120 = .ok (.idiv, 1) := by decide +kernel
theorem dX9_pane_121 : decode cX9_pane 121 = .ok (.iastore, 1) := by decide +kernel
theorem dX9_pane_122 : decode cX9_pane 122 = .ok (.aload_n 0, 1) := by decide +kernel
theorem dX9_pane_123 : decode cX9_pane 123 = .ok (.getfield 38, 3) := by decide +kernel
theorem dX9_pane_126 : decode cX9_pane 126 = .ok (.aload_n 0, 1) := by decide +kernel
theorem dX9_pane_127 : decode cX9_pane 127 = .ok (.getfield 82, 3) := by decide +kernel
theorem dX9_pane_130 : decode cX9_pane 130 = .ok (.iload_n 3, 1) := by decide +kernel
theorem dX9_pane_131 : decode cX9_pane 131 = .ok (.bipush 10, 2) := by decide +kernel
theorem dX9_pane_133 : decode cX9_pane 133 = .ok (.irem, 1) := by decide +kernel
theorem dX9_pane_134 : decode cX9_pane 134 = .ok (.iastore, 1) := by decide +kernel
theorem dX9_pane_135 : decode cX9_pane 135 = .ok (.aload_n 0, 1) := by decide +kernel
theorem dX9_pane_136 : decode cX9_pane 136 = .ok (.dup, 1) := by decide +kernel
theorem dX9_pane_137 : decode cX9_pane 137 = .ok (.getfield 82, 3) := by decide +kernel
theorem dX9_pane_140 : decode cX9_pane 140 = .ok (.iconst 1, 1) := by decide +kernel
theorem dX9_pane_141 : decode cX9_pane 141 = .ok (.iadd, 1) := by decide +kernel
theorem dX9_pane_142 : decode cX9_pane 142 = .ok (.putfield 82, 3) := by decide +kernel
theorem dX9_pane_145 : decode cX9_pane 145 = .ok (.aload_n 0, 1) := by decide +kernel
theorem dX9_pane_146 : decode cX9_pane 146 = .ok (.getfield 82, 3) := by decide +kernel
theorem dX9_pane_149 : decode cX9_pane 149 = .ok (.iconst 1, 1) := by decide +kernel
theorem dX9_pane_150 : decode cX9_pane 150 = .ok (.isub, 1) := by decide +kernel
theorem dX9_pane_151 : decode cX9_pane 151 = .ok (.ireturn, 1) := by decide +kernel
theorem dX9_told_0 : decode cX9_told 0 = .ok (.iload_n 2, 1) := by decide +kernel
theorem dX9_told_1 : decode cX9_told 1 = .ok (.i2l, 1) := by decide +kernel
theorem dX9_told_2 : decode cX9_told 2 = .ok (.lconst 0, 1) := by decide +kernel
theorem dX9_told_3 : decode cX9_told 3 = .ok (.ldc2_w 121, 3) := by decide +kernel
theorem dX9_told_6 : decode cX9_told 6 = .ok (.invokestatic 85, 3) := by decide +kernel
theorem dX9_told_9 : decode cX9_told 9 = .ok (.ifCond .eq 25, 3) := by decide +kernel
theorem dX9_told_12 : decode cX9_told 12 = .ok (.iload_n 2, 1) := by decide +kernel
theorem dX9_told_13 : decode cX9_told 13 = .ok (.ifCond .ne 13, 3) := by decide +kernel
theorem dX9_told_16 : decode cX9_told 16 = .ok (.iload_n 1, 1) := by decide +kernel
theorem dX9_told_17 : decode cX9_told 17 = .ok (.invokestatic 99, 3) := by decide +kernel
theorem dX9_told_20 : decode cX9_told 20 = .ok (.ifCond .eq 14, 3) := by decide +kernel
theorem dX9_told_23 : decode cX9_told 23 = .ok (.goto 14, 3) := by decide +kernel
theorem dX9_told_26 : decode cX9_told 26 = .ok (.aload_n 0, 1) := by decide +kernel
theorem dX9_told_27 : decode cX9_told 27 = .ok (.iload_n 1, 1) := by decide +kernel
theorem dX9_told_28 : decode cX9_told 28 = .ok (.invokevirtual 103, 3) := by decide +kernel
theorem dX9_told_31 : decode cX9_told 31 = .ok (.ifCond .ne 6, 3) := by decide +kernel
theorem dX9_told_34 : decode cX9_told 34 = .ok (.bipush (-100), 2) := by decide +kernel
theorem dX9_told_36 : decode cX9_told 36 = .ok (.ireturn, 1) := by decide +kernel
theorem dX9_told_37 : decode cX9_told 37 = .ok (.iload_n 2, 1) := by decide +kernel
theorem dX9_told_38 : decode cX9_told 38 = .ok (.iconst 3, 1) := by decide +kernel
theorem dX9_told_39 : decode cX9_told 39 = .ok (.if_icmp .ge 37, 3) := by decide +kernel
theorem dX9_told_42 : decode cX9_told 42 = .ok (.iload_n 2, 1) := by decide +kernel
theorem dX9_told_43 : decode cX9_told 43 = .ok (.ifCond .ne 12, 3) := by decide +kernel
theorem dX9_told_46 : decode cX9_told 46 = .ok (.aload_n 0, 1) := by decide +kernel
theorem dX9_told_47 : decode cX9_told 47 = .ok (.getfield 23, 3) := by decide +kernel
theorem dX9_told_50 : decode cX9_told 50 = .ok (.iload_n 1, 1) := by decide +kernel
theorem dX9_told_51 : decode cX9_told 51 = .ok (.iaload, 1) := by decide +kernel
theorem dX9_told_52 : decode cX9_told 52 = .ok (.goto 23, 3) := by decide +kernel
theorem dX9_told_55 : decode cX9_told 55 = .ok (.iload_n 2, 1) := by decide +kernel
theorem dX9_told_56 : decode cX9_told 56 = .ok (.iconst 1, 1) := by decide +kernel
theorem dX9_told_57 : decode cX9_told 57 = .ok (.if_icmp .ne 12, 3) := by decide +kernel
theorem dX9_told_60 : decode cX9_told 60 = .ok (.aload_n 0, 1) := by decide +kernel
theorem dX9_told_61 : decode cX9_told 61 = .ok (.getfield 29, 3) := by decide +kernel
theorem dX9_told_64 : decode cX9_told 64 = .ok (.iload_n 1, 1) := by decide +kernel
theorem dX9_told_65 : decode cX9_told 65 = .ok (.iaload, 1) := by decide +kernel
theorem dX9_told_66 : decode cX9_told 66 = .ok (.goto 9, 3) := by decide +kernel
theorem dX9_told_69 : decode cX9_told 69 = .ok (.aload_n 0, 1) := by decide +kernel
theorem dX9_told_70 : decode cX9_told 70 = .ok (.getfield 32, 3) := by decide +kernel
theorem dX9_told_73 : decode cX9_told 73 = .ok (.iload_n 1, 1) := by decide +kernel
theorem dX9_told_74 : decode cX9_told 74 = .ok (.iaload, 1) := by decide +kernel
theorem dX9_told_75 : decode cX9_told 75 = .ok (.ireturn, 1) := by decide +kernel
theorem dX9_told_76 : decode cX9_told 76 = .ok (.iload_n 2, 1) := by decide +kernel
theorem dX9_told_77 : decode cX9_told 77 = .ok (.iconst 3, 1) := by decide +kernel
theorem dX9_told_78 : decode cX9_told 78 = .ok (.if_icmp .ne 12, 3) := by decide +kernel
theorem dX9_told_81 : decode cX9_told 81 = .ok (.aload_n 0, 1) := by decide +kernel
theorem dX9_told_82 : decode cX9_told 82 = .ok (.getfield 35, 3) := by decide +kernel
theorem dX9_told_85 : decode cX9_told 85 = .ok (.iload_n 1, 1) := by decide +kernel
theorem dX9_told_86 : decode cX9_told 86 = .ok (.iaload, 1) := by decide +kernel
theorem dX9_told_87 : decode cX9_told 87 = .ok (.goto 36, 3) := by decide +kernel
theorem dX9_told_90 : decode cX9_told 90 = .ok (.iload_n 2, 1) := by decide +kernel
theorem dX9_told_91 : decode cX9_told 91 = .ok (.iconst 4, 1) := by decide +kernel
theorem dX9_told_92 : decode cX9_told 92 = .ok (.if_icmp .ne 12, 3) := by decide +kernel
theorem dX9_told_95 : decode cX9_told 95 = .ok (.aload_n 0, 1) := by decide +kernel
theorem dX9_told_96 : decode cX9_told 96 = .ok (.getfield 38, 3) := by decide +kernel
theorem dX9_told_99 : decode cX9_told 99 = .ok (.iload_n 1, 1) := by decide +kernel
theorem dX9_told_100 : decode cX9_told 100 = .ok (.iaload, 1) := by decide +kernel
theorem dX9_told_101 : decode cX9_told 101 = .ok (.goto 22, 3) := by decide +kernel
theorem dX9_told_104 : decode cX9_told 104 = .ok (.iload_n 2, 1) := by decide +kernel
theorem dX9_told_105 : decode cX9_told 105 = .ok (.iconst 5, 1) := by decide +kernel
theorem dX9_told_106 : decode cX9_told 106 = .ok (.if_icmp .ne 12, 3) := by decide +kernel
theorem dX9_told_109 : decode cX9_told 109 = .ok (.aload_n 0, 1) := by decide +kernel
theorem dX9_told_110 : decode cX9_told 110 = .ok (.getfield 26, 3) := by decide +kernel
theorem dX9_told_113 : decode cX9_told 113 = .ok (.iload_n 1, 1) := by decide +kernel
theorem dX9_told_114 : decode cX9_told 114 = .ok (.iaload, 1) := by decide +kernel
theorem dX9_told_115 : decode cX9_told 115 = .ok (.goto 8, 3) := by decide +kernel
theorem dX9_told_118 : decode cX9_told 118 = .ok (.aload_n 0, 1) := by decide +kernel
theorem dX9_told_119 : decode cX9_told 119 = .ok (.iload_n 1, 1) := by decide +kernel
theorem dX9_told_120 : decode cX9_told 120 = .ok (.invokevirtual 123, 3) := by decide +kernel
theorem dX9_told_123 : decode cX9_told 123 = .ok (.ireturn, 1) := by decide +kernel
theorem dX9_on_0 : decode cX9_on 0 = .ok (.aload_n 0, 1) := by decide +kernel
theorem dX9_on_1 : decode cX9_on 1 = .ok (.getfield 26, 3) := by decide +kernel
theorem dX9_on_4 : decode cX9_on 4 = .ok (.iload_n 1, 1) := by decide +kernel
theorem dX9_on_5 : decode cX9_on 5 = .ok (.iaload, 1) := by decide +kernel
theorem dX9_on_6 : decode cX9_on 6 = .ok (.istore_n 3, 1) := by decide +kernel
theorem dX9_on_7 : decode cX9_on 7 = .ok (.iload_n 3, 1) := by decide +kernel
theorem dX9_on_8 : decode cX9_on 8 = .ok (.iconst 4, 1) := by decide +kernel
theorem dX9_on_9 : decode cX9_on 9 = .ok (.if_icmp .ne 5, 3) := by decide +kernel
theorem dX9_on_12 : decode cX9_on 12 = .ok (.iload_n 2, 1) := by decide +kernel
theorem dX9_on_13 : decode cX9_on 13 = .ok (.ireturn, 1) := by decide +kernel
theorem dX9_on_14 : decode cX9_on 14 = .ok (.iload_n 3, 1) := by decide +kernel
theorem dX9_on_15 : decode cX9_on 15 = .ok (.iconst 5, 1) := by decide +kernel
theorem dX9_on_16 : decode cX9_on 16 = .ok (.if_icmp .ne 21, 3) := by decide +kernel
theorem dX9_on_19 : decode cX9_on 19 = .ok (.iload_n 2, 1) := by decide +kernel
theorem dX9_on_20 : decode cX9_on 20 = .ok (.aload_n 0, 1) := by decide +kernel
theorem dX9_on_21 : decode cX9_on 21 = .ok (.getfield 32, 3) := by decide +kernel
theorem dX9_on_24 : decode cX9_on 24 = .ok (.iload_n 1, 1) := by decide +kernel
theorem dX9_on_25 : decode cX9_on 25 = .ok (.iaload, 1) := by decide +kernel
theorem dX9_on_26 : decode cX9_on 26 = .ok (.aload_n 0, 1) := by decide +kernel
theorem dX9_on_27 : decode cX9_on 27 = .ok (.getfield 29, 3) := by decide +kernel
theorem dX9_on_30 : decode cX9_on 30 = .ok (.iload_n 1, 1) := by decide +kernel
theorem dX9_on_31 : decode cX9_on 31 = .ok (.iaload, 1) := by decide +kernel
theorem dX9_on_32 : decode cX9_on 32 = .ok (.iconst 1, 1) := by decide +kernel
theorem dX9_on_33 : decode cX9_on 33 = .ok (.iadd, 1) := by decide +kernel
theorem dX9_on_34 : decode cX9_on 34 = .ok (.imul, 1) := by decide +kernel
theorem dX9_on_35 : decode cX9_on 35 = .ok (.iadd, 1) := by decide +kernel
theorem dX9_on_36 : decode cX9_on 36 = .ok (.ireturn, 1) := by decide +kernel
theorem dX9_on_37 : decode cX9_on 37 = .ok (.iload_n 3, 1) := by decide +kernel
theorem dX9_on_38 : decode cX9_on 38 = .ok (.iconst 1, 1) := by decide +kernel
theorem dX9_on_39 : decode cX9_on 39 = .ok (.if_icmp .eq 8, 3) := by decide +kernel
theorem dX9_on_42 : decode cX9_on 42 = .ok (.iload_n 3, 1) := by decide +kernel
theorem dX9_on_43 : decode cX9_on 43 = .ok (.iconst 3, 1) := by decide +kernel
theorem dX9_on_44 : decode cX9_on 44 = .ok (.if_icmp .ne 21, 3) := by decide +kernel
theorem dX9_on_47 : decode cX9_on 47 = .ok (.iload_n 2, 1) := by decide +kernel
theorem dX9_on_48 : decode cX9_on 48 = .ok (.aload_n 0, 1) := by decide +kernel
theorem dX9_on_49 : decode cX9_on 49 = .ok (.getfield 32, 3) := by decide +kernel
theorem dX9_on_52 : decode cX9_on 52 = .ok (.iload_n 1, 1) := by decide +kernel
theorem dX9_on_53 : decode cX9_on 53 = .ok (.iaload, 1) := by decide +kernel
theorem dX9_on_54 : decode cX9_on 54 = .ok (.iadd, 1) := by decide +kernel
theorem dX9_on_55 : decode cX9_on 55 = .ok (.aload_n 0, 1) := by decide +kernel
theorem dX9_on_56 : decode cX9_on 56 = .ok (.getfield 29, 3) := by decide +kernel
theorem dX9_on_59 : decode cX9_on 59 = .ok (.iload_n 1, 1) := by decide +kernel
theorem dX9_on_60 : decode cX9_on 60 = .ok (.iaload, 1) := by decide +kernel
theorem dX9_on_61 : decode cX9_on 61 = .ok (.isub, 1) := by decide +kernel
theorem dX9_on_62 : decode cX9_on 62 = .ok (.goto 11, 3) := by decide +kernel
theorem dX9_on_65 : decode cX9_on 65 = .ok (.iload_n 2, 1) := by decide +kernel
theorem dX9_on_66 : decode cX9_on 66 = .ok (.aload_n 0, 1) := by decide +kernel
theorem dX9_on_67 : decode cX9_on 67 = .ok (.getfield 32, 3) := by decide +kernel
theorem dX9_on_70 : decode cX9_on 70 = .ok (.iload_n 1, 1) := by decide +kernel
theorem dX9_on_71 : decode cX9_on 71 = .ok (.iaload, 1) := by decide +kernel
theorem dX9_on_72 : decode cX9_on 72 = .ok (.iadd, 1) := by decide +kernel
theorem dX9_on_73 : decode cX9_on 73 = .ok (.ireturn, 1) := by decide +kernel
theorem dX9_leads_0 : decode cX9_leads 0 = .ok (.aload_n 0, 1) := by decide +kernel
theorem dX9_leads_1 : decode cX9_leads 1 = .ok (.getfield 26, 3) := by decide +kernel
theorem dX9_leads_4 : decode cX9_leads 4 = .ok (.iload_n 1, 1) := by decide +kernel
theorem dX9_leads_5 : decode cX9_leads 5 = .ok (.iaload, 1) := by decide +kernel
theorem dX9_leads_6 : decode cX9_leads 6 = .ok (.iconst 4, 1) := by decide +kernel
theorem dX9_leads_7 : decode cX9_leads 7 = .ok (.if_icmp .ne 12, 3) := by decide +kernel
theorem dX9_leads_10 : decode cX9_leads 10 = .ok (.aload_n 0, 1) := by decide +kernel
theorem dX9_leads_11 : decode cX9_leads 11 = .ok (.getfield 35, 3) := by decide +kernel
theorem dX9_leads_14 : decode cX9_leads 14 = .ok (.iload_n 1, 1) := by decide +kernel
theorem dX9_leads_15 : decode cX9_leads 15 = .ok (.iaload, 1) := by decide +kernel
theorem dX9_leads_16 : decode cX9_leads 16 = .ok (.goto 9, 3) := by decide +kernel
theorem dX9_leads_19 : decode cX9_leads 19 = .ok (.aload_n 0, 1) := by decide +kernel
theorem dX9_leads_20 : decode cX9_leads 20 = .ok (.getfield 38, 3) := by decide +kernel
theorem dX9_leads_23 : decode cX9_leads 23 = .ok (.iload_n 1, 1) := by decide +kernel
theorem dX9_leads_24 : decode cX9_leads 24 = .ok (.iaload, 1) := by decide +kernel
theorem dX9_leads_25 : decode cX9_leads 25 = .ok (.ireturn, 1) := by decide +kernel
theorem dX9_passes_0 : decode cX9_passes 0 = .ok (.aload_n 0, 1) := by decide +kernel
theorem dX9_passes_1 : decode cX9_passes 1 = .ok (.getfield 26, 3) := by decide +kernel
theorem dX9_passes_4 : decode cX9_passes 4 = .ok (.iload_n 1, 1) := by decide +kernel
theorem dX9_passes_5 : decode cX9_passes 5 = .ok (.iaload, 1) := by decide +kernel
theorem dX9_passes_6 : decode cX9_passes 6 = .ok (.istore 4, 2) := by decide +kernel
theorem dX9_passes_8 : decode cX9_passes 8 = .ok (.aload_n 0, 1) := by decide +kernel
theorem dX9_passes_9 : decode cX9_passes 9 = .ok (.iload_n 1, 1) := by decide +kernel
theorem dX9_passes_10 : decode cX9_passes 10 = .ok (.iload_n 2, 1) := by decide +kernel
theorem dX9_passes_11 : decode cX9_passes 11 = .ok (.invokevirtual 127, 3) := by decide +kernel
theorem dX9_passes_14 : decode cX9_passes 14 = .ok (.invokestatic 99, 3) := by decide +kernel
theorem dX9_passes_17 : decode cX9_passes 17 = .ok (.ifCond .ne 5, 3) := by decide +kernel
theorem dX9_passes_20 : decode cX9_passes 20 = .ok (.iconst 0, 1) := by decide +kernel
theorem dX9_passes_21 : decode cX9_passes 21 = .ok (.ireturn, 1) := by decide +kernel
theorem dX9_passes_22 : decode cX9_passes 22 = .ok (.iload 4, 2) := by decide +kernel
theorem dX9_passes_24 : decode cX9_passes 24 = .ok (.iconst 5, 1) := by decide +kernel
theorem dX9_passes_25 : decode cX9_passes 25 = .ok (.if_icmp .ne 22, 3) := by decide +kernel
theorem dX9_passes_28 : decode cX9_passes 28 = .ok (.iload_n 2, 1) := by decide +kernel
theorem dX9_passes_29 : decode cX9_passes 29 = .ok (.aload_n 0, 1) := by decide +kernel
theorem dX9_passes_30 : decode cX9_passes 30 = .ok (.getfield 29, 3) := by decide +kernel
theorem dX9_passes_33 : decode cX9_passes 33 = .ok (.iload_n 1, 1) := by decide +kernel
theorem dX9_passes_34 : decode cX9_passes 34 = .ok (.iaload, 1) := by decide +kernel
theorem dX9_passes_35 : decode cX9_passes 35 = .ok (.iconst 1, 1) := by decide +kernel
theorem dX9_passes_36 : decode cX9_passes 36 = .ok (.iadd, 1) := by decide +kernel
theorem dX9_passes_37 : decode cX9_passes 37 = .ok (.irem, 1) := by decide +kernel
theorem dX9_passes_38 : decode cX9_passes 38 = .ok (.ifCond .ne 7, 3) := by decide +kernel
theorem dX9_passes_41 : decode cX9_passes 41 = .ok (.iconst 1, 1) := by decide +kernel
theorem dX9_passes_42 : decode cX9_passes 42 = .ok (.goto 4, 3) := by decide +kernel
theorem dX9_passes_45 : decode cX9_passes 45 = .ok (.iconst 0, 1) := by decide +kernel
theorem dX9_passes_46 : decode cX9_passes 46 = .ok (.ireturn, 1) := by decide +kernel
theorem dX9_passes_47 : decode cX9_passes 47 = .ok (.iload 4, 2) := by decide +kernel
theorem dX9_passes_49 : decode cX9_passes 49 = .ok (.iconst 3, 1) := by decide +kernel
theorem dX9_passes_50 : decode cX9_passes 50 = .ok (.if_icmp .eq 40, 3) := by decide +kernel
theorem dX9_passes_53 : decode cX9_passes 53 = .ok (.iload 4, 2) := by decide +kernel
theorem dX9_passes_55 : decode cX9_passes 55 = .ok (.ifCond .eq 9, 3) := by decide +kernel
theorem dX9_passes_58 : decode cX9_passes 58 = .ok (.iload 4, 2) := by decide +kernel
theorem dX9_passes_60 : decode cX9_passes 60 = .ok (.iconst 1, 1) := by decide +kernel
theorem dX9_passes_61 : decode cX9_passes 61 = .ok (.if_icmp .ne 11, 3) := by decide +kernel
theorem dX9_passes_64 : decode cX9_passes 64 = .ok (.iload_n 3, 1) := by decide +kernel
theorem dX9_passes_65 : decode cX9_passes 65 = .ok (.iconst 2, 1) := by decide +kernel
theorem dX9_passes_66 : decode cX9_passes 66 = .ok (.if_icmp .ge 28, 3) := by decide +kernel
theorem dX9_passes_69 : decode cX9_passes 69 = .ok (.goto 21, 3) := by decide +kernel
theorem dX9_passes_72 : decode cX9_passes 72 = .ok (.iload 4, 2) := by decide +kernel
theorem dX9_passes_74 : decode cX9_passes 74 = .ok (.iconst 2, 1) := by decide +kernel
theorem dX9_passes_75 : decode cX9_passes 75 = .ok (.if_icmp .ne 11, 3) := by decide +kernel
theorem dX9_passes_78 : decode cX9_passes 78 = .ok (.iload_n 3, 1) := by decide +kernel
theorem dX9_passes_79 : decode cX9_passes 79 = .ok (.iconst 1, 1) := by decide +kernel
theorem dX9_passes_80 : decode cX9_passes 80 = .ok (.if_icmp .ne 14, 3) := by decide +kernel
theorem dX9_passes_83 : decode cX9_passes 83 = .ok (.goto 7, 3) := by decide +kernel
theorem dX9_passes_86 : decode cX9_passes 86 = .ok (.iload_n 3, 1) := by decide +kernel
theorem dX9_passes_87 : decode cX9_passes 87 = .ok (.ifCond .ne 7, 3) := by decide +kernel
theorem dX9_passes_90 : decode cX9_passes 90 = .ok (.iconst 1, 1) := by decide +kernel
theorem dX9_passes_91 : decode cX9_passes 91 = .ok (.goto 4, 3) := by decide +kernel
theorem dX9_passes_94 : decode cX9_passes 94 = .ok (.iconst 0, 1) := by decide +kernel
theorem dX9_passes_95 : decode cX9_passes 95 = .ok (.ireturn, 1) := by decide +kernel
theorem dX9_gives_0 : decode cX9_gives 0 = .ok (.aload_n 0, 1) := by decide +kernel
theorem dX9_gives_1 : decode cX9_gives 1 = .ok (.iload_n 1, 1) := by decide +kernel
theorem dX9_gives_2 : decode cX9_gives 2 = .ok (.invokevirtual 103, 3) := by decide +kernel
theorem dX9_gives_5 : decode cX9_gives 5 = .ok (.ifCond .eq 22, 3) := by decide +kernel
theorem dX9_gives_8 : decode cX9_gives 8 = .ok (.iload_n 2, 1) := by decide +kernel
theorem dX9_gives_9 : decode cX9_gives 9 = .ok (.invokestatic 99, 3) := by decide +kernel
theorem dX9_gives_12 : decode cX9_gives 12 = .ok (.ifCond .eq 15, 3) := by decide +kernel
theorem dX9_gives_15 : decode cX9_gives 15 = .ok (.iload_n 3, 1) := by decide +kernel
theorem dX9_gives_16 : decode cX9_gives 16 = .ok (.iconst (-1), 1) := by decide +kernel
theorem dX9_gives_17 : decode cX9_gives 17 = .ok (.if_icmp .eq 14, 3) := by decide +kernel
theorem dX9_gives_20 : decode cX9_gives 20 = .ok (.iload_n 3, 1) := by decide +kernel
theorem dX9_gives_21 : decode cX9_gives 21 = .ok (.invokestatic 130, 3) := by decide +kernel
theorem dX9_gives_24 : decode cX9_gives 24 = .ok (.ifCond .ne 7, 3) := by decide +kernel
theorem dX9_gives_27 : decode cX9_gives 27 = .ok (.sipush (-1000), 3) := by decide +kernel
theorem dX9_gives_30 : decode cX9_gives 30 = .ok (.ireturn, 1) := by decide +kernel
theorem dX9_gives_31 : decode cX9_gives 31 = .ok (.iload_n 3, 1) := by decide +kernel
theorem dX9_gives_32 : decode cX9_gives 32 = .ok (.iconst (-1), 1) := by decide +kernel
theorem dX9_gives_33 : decode cX9_gives 33 = .ok (.if_icmp .ne 12, 3) := by decide +kernel
theorem dX9_gives_36 : decode cX9_gives 36 = .ok (.aload_n 0, 1) := by decide +kernel
theorem dX9_gives_37 : decode cX9_gives 37 = .ok (.iload_n 1, 1) := by decide +kernel
theorem dX9_gives_38 : decode cX9_gives 38 = .ok (.iload_n 2, 1) := by decide +kernel
theorem dX9_gives_39 : decode cX9_gives 39 = .ok (.invokevirtual 127, 3) := by decide +kernel
theorem dX9_gives_42 : decode cX9_gives 42 = .ok (.goto 18, 3) := by decide +kernel
theorem dX9_gives_45 : decode cX9_gives 45 = .ok (.aload_n 0, 1) := by decide +kernel
theorem dX9_gives_46 : decode cX9_gives 46 = .ok (.iload_n 1, 1) := by decide +kernel
theorem dX9_gives_47 : decode cX9_gives 47 = .ok (.iload_n 2, 1) := by decide +kernel
theorem dX9_gives_48 : decode cX9_gives 48 = .ok (.iload_n 3, 1) := by decide +kernel
theorem dX9_gives_49 : decode cX9_gives 49 = .ok (.invokevirtual 133, 3) := by decide +kernel
theorem dX9_gives_52 : decode cX9_gives 52 = .ok (.ifCond .eq 7, 3) := by decide +kernel
theorem dX9_gives_55 : decode cX9_gives 55 = .ok (.iconst 1, 1) := by decide +kernel
theorem dX9_gives_56 : decode cX9_gives 56 = .ok (.goto 4, 3) := by decide +kernel
theorem dX9_gives_59 : decode cX9_gives 59 = .ok (.iconst 0, 1) := by decide +kernel
theorem dX9_gives_60 : decode cX9_gives 60 = .ok (.ireturn, 1) := by decide +kernel
theorem dX9_feed_0 : decode cX9_feed 0 = .ok (.iload_n 1, 1) := by decide +kernel
theorem dX9_feed_1 : decode cX9_feed 1 = .ok (.i2l, 1) := by decide +kernel
theorem dX9_feed_2 : decode cX9_feed 2 = .ok (.lconst 0, 1) := by decide +kernel
theorem dX9_feed_3 : decode cX9_feed 3 = .ok (.ldc2_w 137, 3) := by decide +kernel
theorem dX9_feed_6 : decode cX9_feed 6 = .ok (.invokestatic 85, 3) := by decide +kernel
theorem dX9_feed_9 : decode cX9_feed 9 = .ok (.ifCond .ne 6, 3) := by decide +kernel
theorem dX9_feed_12 : decode cX9_feed 12 = .ok (.bipush (-2), 2) := by decide +kernel
theorem dX9_feed_14 : decode cX9_feed 14 = .ok (.ireturn, 1) := by decide +kernel
theorem dX9_feed_15 : decode cX9_feed 15 = .ok (.aload_n 0, 1) := by decide +kernel
theorem dX9_feed_16 : decode cX9_feed 16 = .ok (.getfield 139, 3) := by decide +kernel
theorem dX9_feed_19 : decode cX9_feed 19 = .ok (.sipush 160, 3) := by decide +kernel
theorem dX9_feed_22 : decode cX9_feed 22 = .ok (.if_icmp .ne 6, 3) := by decide +kernel
theorem dX9_feed_25 : decode cX9_feed 25 = .ok (.bipush (-4), 2) := by decide +kernel
theorem dX9_feed_27 : decode cX9_feed 27 = .ok (.ireturn, 1) := by decide +kernel
theorem dX9_feed_28 : decode cX9_feed 28 = .ok (.aload_n 0, 1) := by decide +kernel
theorem dX9_feed_29 : decode cX9_feed 29 = .ok (.getfield 20, 3) := by decide +kernel
theorem dX9_feed_32 : decode cX9_feed 32 = .ok (.aload_n 0, 1) := by decide +kernel
theorem dX9_feed_33 : decode cX9_feed 33 = .ok (.getfield 139, 3) := by decide +kernel
theorem dX9_feed_36 : decode cX9_feed 36 = .ok (.iload_n 1, 1) := by decide +kernel
theorem dX9_feed_37 : decode cX9_feed 37 = .ok (.iastore, 1) := by decide +kernel
theorem dX9_feed_38 : decode cX9_feed 38 = .ok (.aload_n 0, 1) := by decide +kernel
theorem dX9_feed_39 : decode cX9_feed 39 = .ok (.dup, 1) := by decide +kernel
theorem dX9_feed_40 : decode cX9_feed 40 = .ok (.getfield 139, 3) := by decide +kernel
theorem dX9_feed_43 : decode cX9_feed 43 = .ok (.iconst 1, 1) := by decide +kernel
theorem dX9_feed_44 : decode cX9_feed 44 = .ok (.iadd, 1) := by decide +kernel
theorem dX9_feed_45 : decode cX9_feed 45 = .ok (.putfield 139, 3) := by decide +kernel
theorem dX9_feed_48 : decode cX9_feed 48 = .ok (.aload_n 0, 1) := by decide +kernel
theorem dX9_feed_49 : decode cX9_feed 49 = .ok (.getfield 139, 3) := by decide +kernel
theorem dX9_feed_52 : decode cX9_feed 52 = .ok (.ireturn, 1) := by decide +kernel
theorem dX9_byteAt_0 : decode cX9_byteAt 0 = .ok (.iload_n 1, 1) := by decide +kernel
theorem dX9_byteAt_1 : decode cX9_byteAt 1 = .ok (.aload_n 0, 1) := by decide +kernel
theorem dX9_byteAt_2 : decode cX9_byteAt 2 = .ok (.getfield 142, 3) := by decide +kernel
theorem dX9_byteAt_5 : decode cX9_byteAt 5 = .ok (.if_icmp .ge 17, 3) := by decide +kernel
theorem dX9_byteAt_8 : decode cX9_byteAt 8 = .ok (.aload_n 0, 1) := by decide +kernel
theorem dX9_byteAt_9 : decode cX9_byteAt 9 = .ok (.getfield 13, 3) := by decide +kernel
theorem dX9_byteAt_12 : decode cX9_byteAt 12 = .ok (.aload_n 0, 1) := by decide +kernel
theorem dX9_byteAt_13 : decode cX9_byteAt 13 = .ok (.getfield 145, 3) := by decide +kernel
theorem dX9_byteAt_16 : decode cX9_byteAt 16 = .ok (.iload_n 1, 1) := by decide +kernel
theorem dX9_byteAt_17 : decode cX9_byteAt 17 = .ok (.iadd, 1) := by decide +kernel
theorem dX9_byteAt_18 : decode cX9_byteAt 18 = .ok (.iaload, 1) := by decide +kernel
theorem dX9_byteAt_19 : decode cX9_byteAt 19 = .ok (.goto 4, 3) := by decide +kernel
theorem dX9_byteAt_22 : decode cX9_byteAt 22 = .ok (.iconst (-1), 1) := by decide +kernel
theorem dX9_byteAt_23 : decode cX9_byteAt 23 = .ok (.ireturn, 1) := by decide +kernel
theorem dX9_next_0 : decode cX9_next 0 = .ok (.aload_n 0, 1) := by decide +kernel
theorem dX9_next_1 : decode cX9_next 1 = .ok (.aload_n 0, 1) := by decide +kernel
theorem dX9_next_2 : decode cX9_next 2 = .ok (.getfield 148, 3) := by decide +kernel
theorem dX9_next_5 : decode cX9_next 5 = .ok (.invokevirtual 151, 3) := by decide +kernel
theorem dX9_next_8 : decode cX9_next 8 = .ok (.bipush 32, 2) := by decide +kernel
theorem dX9_next_10 : decode cX9_next 10 = .ok (.if_icmp .eq 16, 3) := by decide +kernel
theorem dX9_next_13 : decode cX9_next 13 = .ok (.aload_n 0, 1) := by decide +kernel
theorem dX9_next_14 : decode cX9_next 14 = .ok (.aload_n 0, 1) := by decide +kernel
theorem dX9_next_15 : decode cX9_next 15 = .ok (.getfield 148, 3) := by decide +kernel
theorem dX9_next_18 : decode cX9_next 18 = .ok (.invokevirtual 151, 3) := by decide +kernel
theorem dX9_next_21 : decode cX9_next 21 = .ok (.bipush 10, 2) := by decide +kernel
theorem dX9_next_23 : decode cX9_next 23 = .ok (.if_icmp .ne 16, 3) := by decide +kernel
theorem dX9_next_26 : decode cX9_next 26 = .ok (.aload_n 0, 1) := by decide +kernel
theorem dX9_next_27 : decode cX9_next 27 = .ok (.dup, 1) := by decide +kernel
theorem dX9_next_28 : decode cX9_next 28 = .ok (.getfield 148, 3) := by decide +kernel
theorem dX9_next_31 : decode cX9_next 31 = .ok (.iconst 1, 1) := by decide +kernel
theorem dX9_next_32 : decode cX9_next 32 = .ok (.iadd, 1) := by decide +kernel
theorem dX9_next_33 : decode cX9_next 33 = .ok (.putfield 148, 3) := by decide +kernel
theorem dX9_next_36 : decode cX9_next 36 = .ok (.goto (-36), 3) := by decide +kernel
theorem dX9_next_39 : decode cX9_next 39 = .ok (.aload_n 0, 1) := by decide +kernel
theorem dX9_next_40 : decode cX9_next 40 = .ok (.aload_n 0, 1) := by decide +kernel
theorem dX9_next_41 : decode cX9_next 41 = .ok (.getfield 148, 3) := by decide +kernel
theorem dX9_next_44 : decode cX9_next 44 = .ok (.putfield 154, 3) := by decide +kernel
theorem dX9_next_47 : decode cX9_next 47 = .ok (.aload_n 0, 1) := by decide +kernel
theorem dX9_next_48 : decode cX9_next 48 = .ok (.aload_n 0, 1) := by decide +kernel
theorem dX9_next_49 : decode cX9_next 49 = .ok (.getfield 148, 3) := by decide +kernel
theorem dX9_next_52 : decode cX9_next 52 = .ok (.invokevirtual 151, 3) := by decide +kernel
theorem dX9_next_55 : decode cX9_next 55 = .ok (.istore_n 1, 1) := by decide +kernel
theorem dX9_next_56 : decode cX9_next 56 = .ok (.aload_n 0, 1) := by decide +kernel
theorem dX9_next_57 : decode cX9_next 57 = .ok (.iconst 4, 1) := by decide +kernel
theorem dX9_next_58 : decode cX9_next 58 = .ok (.putfield 157, 3) := by decide +kernel
theorem dX9_next_61 : decode cX9_next 61 = .ok (.iload_n 1, 1) := by decide +kernel
theorem dX9_next_62 : decode cX9_next 62 = .ok (.ifCond .ge 19, 3) := by decide +kernel
theorem dX9_next_65 : decode cX9_next 65 = .ok (.aload_n 0, 1) := by decide +kernel
theorem dX9_next_66 : decode cX9_next 66 = .ok (.iconst 0, 1) := by decide +kernel
theorem dX9_next_67 : decode cX9_next 67 = .ok (.putfield 157, 3) := by decide +kernel
theorem dX9_next_70 : decode cX9_next 70 = .ok (.aload_n 0, 1) := by decide +kernel
theorem dX9_next_71 : decode cX9_next 71 = .ok (.aload_n 0, 1) := by decide +kernel
theorem dX9_next_72 : decode cX9_next 72 = .ok (.getfield 142, 3) := by decide +kernel
theorem dX9_next_75 : decode cX9_next 75 = .ok (.putfield 154, 3) := by decide +kernel
theorem dX9_next_78 : decode cX9_next 78 = .ok (.goto 243, 3) := by decide +kernel
theorem dX9_next_81 : decode cX9_next 81 = .ok (.iload_n 1, 1) := by decide +kernel
theorem dX9_next_82 : decode cX9_next 82 = .ok (.i2l, 1) := by decide +kernel
theorem dX9_next_83 : decode cX9_next 83 = .ok (.ldc2_w 160, 3) := by decide +kernel
theorem dX9_next_86 : decode cX9_next 86 = .ok (.ldc2_w 162, 3) := by decide +kernel
theorem dX9_next_89 : decode cX9_next 89 = .ok (.invokestatic 85, 3) := by decide +kernel
theorem dX9_next_92 : decode cX9_next 92 = .ok (.ifCond .eq 42, 3) := by decide +kernel
theorem dX9_next_95 : decode cX9_next 95 = .ok (.aload_n 0, 1) := by decide +kernel
theorem dX9_next_96 : decode cX9_next 96 = .ok (.iconst 1, 1) := by decide +kernel
theorem dX9_next_97 : decode cX9_next 97 = .ok (.putfield 157, 3) := by decide +kernel
theorem dX9_next_100 : decode cX9_next 100 = .ok (.aload_n 0, 1) := by decide +kernel
theorem dX9_next_101 : decode cX9_next 101 = .ok (.aload_n 0, 1) := by decide +kernel
theorem dX9_next_102 : decode cX9_next 102 = .ok (.getfield 148, 3) := by decide +kernel
theorem dX9_next_105 : decode cX9_next 105 = .ok (.invokevirtual 151, 3) := by decide +kernel
theorem dX9_next_108 : decode cX9_next 108 = .ok (.i2l, 1) := by decide +kernel
theorem dX9_next_109 : decode cX9_next 109 = .ok (.ldc2_w 160, 3) := by decide +kernel
theorem dX9_next_112 : decode cX9_next 112 = .ok (.ldc2_w 162, 3) := by decide +kernel
theorem dX9_next_115 : decode cX9_next 115 = .ok (.invokestatic 85, 3) := by decide +kernel
theorem dX9_next_118 : decode cX9_next 118 = .ok (.ifCond .eq 203, 3) := by decide +kernel
theorem dX9_next_121 : decode cX9_next 121 = .ok (.aload_n 0, 1) := by decide +kernel
theorem dX9_next_122 : decode cX9_next 122 = .ok (.dup, 1) := by decide +kernel
theorem dX9_next_123 : decode cX9_next 123 = .ok (.getfield 148, 3) := by decide +kernel
theorem dX9_next_126 : decode cX9_next 126 = .ok (.iconst 1, 1) := by decide +kernel
theorem dX9_next_127 : decode cX9_next 127 = .ok (.iadd, 1) := by decide +kernel
theorem dX9_next_128 : decode cX9_next 128 = .ok (.putfield 148, 3) := by decide +kernel
theorem dX9_next_131 : decode cX9_next 131 = .ok (.goto (-31), 3) := by decide +kernel
theorem dX9_next_134 : decode cX9_next 134 = .ok (.iload_n 1, 1) := by decide +kernel
theorem dX9_next_135 : decode cX9_next 135 = .ok (.i2l, 1) := by decide +kernel
theorem dX9_next_136 : decode cX9_next 136 = .ok (.ldc2_w 164, 3) := by decide +kernel
theorem dX9_next_139 : decode cX9_next 139 = .ok (.ldc2_w 166, 3) := by decide +kernel
theorem dX9_next_142 : decode cX9_next 142 = .ok (.invokestatic 85, 3) := by decide +kernel
theorem dX9_next_145 : decode cX9_next 145 = .ok (.ifCond .eq 107, 3) := by decide +kernel
theorem dX9_next_148 : decode cX9_next 148 = .ok (.aload_n 0, 1) := by decide +kernel
theorem dX9_next_149 : decode cX9_next 149 = .ok (.iconst 2, 1) := by decide +kernel
theorem dX9_next_150 : decode cX9_next 150 = .ok (.putfield 157, 3) := by decide +kernel
theorem dX9_next_153 : decode cX9_next 153 = .ok (.aload_n 0, 1) := by decide +kernel
theorem dX9_next_154 : decode cX9_next 154 = .ok (.lconst 0, 1) := by decide +kernel
theorem dX9_next_155 : decode cX9_next 155 = .ok (.putfield 168, 3) := by decide +kernel
theorem dX9_next_158 : decode cX9_next 158 = .ok (.iconst 0, 1) := by decide +kernel
theorem dX9_next_159 : decode cX9_next 159 = .ok (.istore_n 2, 1) := by decide +kernel
theorem dX9_next_160 : decode cX9_next 160 = .ok (.aload_n 0, 1) := by decide +kernel
theorem dX9_next_161 : decode cX9_next 161 = .ok (.aload_n 0, 1) := by decide +kernel
theorem dX9_next_162 : decode cX9_next 162 = .ok (.getfield 148, 3) := by decide +kernel
theorem dX9_next_165 : decode cX9_next 165 = .ok (.invokevirtual 151, 3) := by decide +kernel
theorem dX9_next_168 : decode cX9_next 168 = .ok (.i2l, 1) := by decide +kernel
theorem dX9_next_169 : decode cX9_next 169 = .ok (.ldc2_w 164, 3) := by decide +kernel
theorem dX9_next_172 : decode cX9_next 172 = .ok (.ldc2_w 166, 3) := by decide +kernel
theorem dX9_next_175 : decode cX9_next 175 = .ok (.invokestatic 85, 3) := by decide +kernel
theorem dX9_next_178 : decode cX9_next 178 = .ok (.ifCond .eq 57, 3) := by decide +kernel
theorem dX9_next_181 : decode cX9_next 181 = .ok (.aload_n 0, 1) := by decide +kernel
theorem dX9_next_182 : decode cX9_next 182 = .ok (.iload_n 2, 1) := by decide +kernel
theorem dX9_next_183 : decode cX9_next 183 = .ok (.iconst 4, 1) := by decide +kernel
theorem dX9_next_184 : decode cX9_next 184 = .ok (.if_icmp .ge 28, 3) := by decide +kernel
theorem dX9_next_187 : decode cX9_next 187 = .ok (.ldc2_w 172, 3) := by decide +kernel
theorem dX9_next_190 : decode cX9_next 190 = .ok (.aload_n 0, 1) := by decide +kernel
theorem dX9_next_191 : decode cX9_next 191 = .ok (.getfield 168, 3) := by decide +kernel
theorem dX9_next_194 : decode cX9_next 194 = .ok (.lmul, 1) := by decide +kernel
theorem dX9_next_195 : decode cX9_next 195 = .ok (.aload_n 0, 1) := by decide +kernel
theorem dX9_next_196 : decode cX9_next 196 = .ok (.aload_n 0, 1) := by decide +kernel
theorem dX9_next_197 : decode cX9_next 197 = .ok (.getfield 148, 3) := by decide +kernel
theorem dX9_next_200 : decode cX9_next 200 = .ok (.invokevirtual 151, 3) := by decide +kernel
theorem dX9_next_203 : decode cX9_next 203 = .ok (.i2l, 1) := by decide +kernel
theorem dX9_next_204 : decode cX9_next 204 = .ok (.ladd, 1) := by decide +kernel
theorem dX9_next_205 : decode cX9_next 205 = .ok (.ldc2_w 164, 3) := by decide +kernel
theorem dX9_next_208 : decode cX9_next 208 = .ok (.lsub, 1) := by decide +kernel
theorem dX9_next_209 : decode cX9_next 209 = .ok (.goto 7, 3) := by decide +kernel
theorem dX9_next_212 : decode cX9_next 212 = .ok (.aload_n 0, 1) := by decide +kernel
theorem dX9_next_213 : decode cX9_next 213 = .ok (.getfield 168, 3) := by decide +kernel
theorem dX9_next_216 : decode cX9_next 216 = .ok (.putfield 168, 3) := by decide +kernel
theorem dX9_next_219 : decode cX9_next 219 = .ok (.iinc 2 1, 3) := by decide +kernel
theorem dX9_next_222 : decode cX9_next 222 = .ok (.aload_n 0, 1) := by decide +kernel
theorem dX9_next_223 : decode cX9_next 223 = .ok (.dup, 1) := by decide +kernel
theorem dX9_next_224 : decode cX9_next 224 = .ok (.getfield 148, 3) := by decide +kernel
theorem dX9_next_227 : decode cX9_next 227 = .ok (.iconst 1, 1) := by decide +kernel
theorem dX9_next_228 : decode cX9_next 228 = .ok (.iadd, 1) := by decide +kernel
theorem dX9_next_229 : decode cX9_next 229 = .ok (.putfield 148, 3) := by decide +kernel
theorem dX9_next_232 : decode cX9_next 232 = .ok (.goto (-72), 3) := by decide +kernel
theorem dX9_next_235 : decode cX9_next 235 = .ok (.aload_n 0, 1) := by decide +kernel
theorem dX9_next_236 : decode cX9_next 236 = .ok (.iload_n 2, 1) := by decide +kernel
theorem dX9_next_237 : decode cX9_next 237 = .ok (.iconst 4, 1) := by decide +kernel
theorem dX9_next_238 : decode cX9_next 238 = .ok (.if_icmp .le 7, 3) := by decide +kernel
theorem dX9_next_241 : decode cX9_next 241 = .ok (.iconst 4, 1) := by decide +kernel
theorem dX9_next_242 : decode cX9_next 242 = .ok (.goto 4, 3) := by decide +kernel
theorem dX9_next_245 : decode cX9_next 245 = .ok (.iconst 2, 1) := by decide +kernel
theorem dX9_next_246 : decode cX9_next 246 = .ok (.putfield 157, 3) := by decide +kernel
theorem dX9_next_249 : decode cX9_next 249 = .ok (.goto 72, 3) := by decide +kernel
theorem dX9_next_252 : decode cX9_next 252 = .ok (.iload_n 1, 1) := by decide +kernel
theorem dX9_next_253 : decode cX9_next 253 = .ok (.bipush 40, 2) := by decide +kernel
theorem dX9_next_255 : decode cX9_next 255 = .ok (.if_icmp .eq 45, 3) := by decide +kernel
theorem dX9_next_258 : decode cX9_next 258 = .ok (.iload_n 1, 1) := by decide +kernel
theorem dX9_next_259 : decode cX9_next 259 = .ok (.bipush 41, 2) := by decide +kernel
theorem dX9_next_261 : decode cX9_next 261 = .ok (.if_icmp .eq 39, 3) := by decide +kernel
theorem dX9_next_264 : decode cX9_next 264 = .ok (.iload_n 1, 1) := by decide +kernel
theorem dX9_next_265 : decode cX9_next 265 = .ok (.bipush 59, 2) := by decide +kernel
theorem dX9_next_267 : decode cX9_next 267 = .ok (.if_icmp .eq 33, 3) := by decide +kernel
theorem dX9_next_270 : decode cX9_next 270 = .ok (.iload_n 1, 1) := by decide +kernel
theorem dX9_next_271 : decode cX9_next 271 = .ok (.bipush 43, 2) := by decide +kernel
theorem dX9_next_273 : decode cX9_next 273 = .ok (.if_icmp .eq 27, 3) := by decide +kernel
theorem dX9_next_276 : decode cX9_next 276 = .ok (.iload_n 1, 1) := by decide +kernel
theorem dX9_next_277 : decode cX9_next 277 = .ok (.bipush 45, 2) := by decide +kernel
theorem dX9_next_279 : decode cX9_next 279 = .ok (.if_icmp .eq 21, 3) := by decide +kernel
theorem dX9_next_282 : decode cX9_next 282 = .ok (.iload_n 1, 1) := by decide +kernel
theorem dX9_next_283 : decode cX9_next 283 = .ok (.bipush 42, 2) := by decide +kernel
theorem dX9_next_285 : decode cX9_next 285 = .ok (.if_icmp .eq 15, 3) := by decide +kernel
theorem dX9_next_288 : decode cX9_next 288 = .ok (.iload_n 1, 1) := by decide +kernel
theorem dX9_next_289 : decode cX9_next 289 = .ok (.bipush 60, 2) := by decide +kernel
theorem dX9_next_291 : decode cX9_next 291 = .ok (.if_icmp .eq 9, 3) := by decide +kernel
theorem dX9_next_294 : decode cX9_next 294 = .ok (.iload_n 1, 1) := by decide +kernel
theorem dX9_next_295 : decode cX9_next 295 = .ok (.bipush 61, 2) := by decide +kernel
theorem dX9_next_297 : decode cX9_next 297 = .ok (.if_icmp .ne 24, 3) := by decide +kernel
theorem dX9_next_300 : decode cX9_next 300 = .ok (.aload_n 0, 1) := by decide +kernel
theorem dX9_next_301 : decode cX9_next 301 = .ok (.iconst 3, 1) := by decide +kernel
theorem dX9_next_302 : decode cX9_next 302 = .ok (.putfield 157, 3) := by decide +kernel
theorem dX9_next_305 : decode cX9_next 305 = .ok (.aload_n 0, 1) := by decide +kernel
theorem dX9_next_306 : decode cX9_next 306 = .ok (.iload_n 1, 1) := by decide +kernel
theorem dX9_next_307 : decode cX9_next 307 = .ok (.i2l, 1) := by decide +kernel
theorem dX9_next_308 : decode cX9_next 308 = .ok (.putfield 168, 3) := by decide +kernel
theorem dX9_next_311 : decode cX9_next 311 = .ok (.aload_n 0, 1) := by decide +kernel
theorem dX9_next_312 : decode cX9_next 312 = .ok (.dup, 1) := by decide +kernel
theorem dX9_next_313 : decode cX9_next 313 = .ok (.getfield 148, 3) := by decide +kernel
theorem dX9_next_316 : decode cX9_next 316 = .ok (.iconst 1, 1) := by decide +kernel
theorem dX9_next_317 : decode cX9_next 317 = .ok (.iadd, 1) := by decide +kernel
theorem dX9_next_318 : decode cX9_next 318 = .ok (.putfield 148, 3) := by decide +kernel
theorem dX9_next_321 : decode cX9_next 321 = .ok (.return_, 1) := by decide +kernel
theorem dX9_fail_0 : decode cX9_fail 0 = .ok (.aload_n 0, 1) := by decide +kernel
theorem dX9_fail_1 : decode cX9_fail 1 = .ok (.getfield 174, 3) := by decide +kernel
theorem dX9_fail_4 : decode cX9_fail 4 = .ok (.ifCond .ne 16, 3) := by decide +kernel
theorem dX9_fail_7 : decode cX9_fail 7 = .ok (.aload_n 0, 1) := by decide +kernel
theorem dX9_fail_8 : decode cX9_fail 8 = .ok (.iconst 1, 1) := by decide +kernel
theorem dX9_fail_9 : decode cX9_fail 9 = .ok (.putfield 174, 3) := by decide +kernel
theorem dX9_fail_12 : decode cX9_fail 12 = .ok (.aload_n 0, 1) := by decide +kernel
theorem dX9_fail_13 : decode cX9_fail 13 = .ok (.aload_n 0, 1) := by decide +kernel
theorem dX9_fail_14 : decode cX9_fail 14 = .ok (.getfield 154, 3) := by decide +kernel
theorem dX9_fail_17 : decode cX9_fail 17 = .ok (.putfield 178, 3) := by decide +kernel
theorem dX9_fail_20 : decode cX9_fail 20 = .ok (.return_, 1) := by decide +kernel
theorem dX9_isLetter_0 : decode cX9_isLetter 0 = .ok (.aload_n 0, 1) := by decide +kernel
theorem dX9_isLetter_1 : decode cX9_isLetter 1 = .ok (.getfield 154, 3) := by decide +kernel
theorem dX9_isLetter_4 : decode cX9_isLetter 4 = .ok (.iload_n 1, 1) := by decide +kernel
theorem dX9_isLetter_5 : decode cX9_isLetter 5 = .ok (.iadd, 1) := by decide +kernel
theorem dX9_isLetter_6 : decode cX9_isLetter 6 = .ok (.aload_n 0, 1) := by decide +kernel
theorem dX9_isLetter_7 : decode cX9_isLetter 7 = .ok (.getfield 148, 3) := by decide +kernel
theorem dX9_isLetter_10 : decode cX9_isLetter 10 = .ok (.if_icmp .ge 25, 3) := by decide +kernel
theorem dX9_isLetter_13 : decode cX9_isLetter 13 = .ok (.aload_n 0, 1) := by decide +kernel
theorem dX9_isLetter_14 : decode cX9_isLetter 14 = .ok (.aload_n 0, 1) := by decide +kernel
theorem dX9_isLetter_15 : decode cX9_isLetter 15 = .ok (.getfield 154, 3) := by decide +kernel
theorem dX9_isLetter_18 : decode cX9_isLetter 18 = .ok (.iload_n 1, 1) := by decide +kernel
theorem dX9_isLetter_19 : decode cX9_isLetter 19 = .ok (.iadd, 1) := by decide +kernel
theorem dX9_isLetter_20 : decode cX9_isLetter 20 = .ok (.invokevirtual 151, 3) := by decide +kernel
theorem dX9_isLetter_23 : decode cX9_isLetter 23 = .ok (.iload_n 2, 1) := by decide +kernel
theorem dX9_isLetter_24 : decode cX9_isLetter 24 = .ok (.if_icmp .ne 7, 3) := by decide +kernel
theorem dX9_isLetter_27 : decode cX9_isLetter 27 = .ok (.iconst 1, 1) := by decide +kernel
theorem dX9_isLetter_28 : decode cX9_isLetter 28 = .ok (.goto 16, 3) := by decide +kernel
theorem dX9_isLetter_31 : decode cX9_isLetter 31 = .ok (.iconst 0, 1) := by decide +kernel
theorem dX9_isLetter_32 : decode cX9_isLetter 32 = .ok (.goto 12, 3) := by decide +kernel
theorem dX9_isLetter_35 : decode cX9_isLetter 35 = .ok (.iload_n 2, 1) := by decide +kernel
theorem dX9_isLetter_36 : decode cX9_isLetter 36 = .ok (.ifCond .ne 7, 3) := by decide +kernel
theorem dX9_isLetter_39 : decode cX9_isLetter 39 = .ok (.iconst 1, 1) := by decide +kernel
theorem dX9_isLetter_40 : decode cX9_isLetter 40 = .ok (.goto 4, 3) := by decide +kernel
theorem dX9_isLetter_43 : decode cX9_isLetter 43 = .ok (.iconst 0, 1) := by decide +kernel
theorem dX9_isLetter_44 : decode cX9_isLetter 44 = .ok (.ireturn, 1) := by decide +kernel
theorem dX9_isWord_0 : decode cX9_isWord 0 = .ok (.aload_n 0, 1) := by decide +kernel
theorem dX9_isWord_1 : decode cX9_isWord 1 = .ok (.getfield 174, 3) := by decide +kernel
theorem dX9_isWord_4 : decode cX9_isWord 4 = .ok (.ifCond .ne 108, 3) := by decide +kernel
theorem dX9_isWord_7 : decode cX9_isWord 7 = .ok (.aload_n 0, 1) := by decide +kernel
theorem dX9_isWord_8 : decode cX9_isWord 8 = .ok (.getfield 157, 3) := by decide +kernel
theorem dX9_isWord_11 : decode cX9_isWord 11 = .ok (.iconst 1, 1) := by decide +kernel
theorem dX9_isWord_12 : decode cX9_isWord 12 = .ok (.if_icmp .ne 100, 3) := by decide +kernel
theorem dX9_isWord_15 : decode cX9_isWord 15 = .ok (.aload_n 0, 1) := by decide +kernel
theorem dX9_isWord_16 : decode cX9_isWord 16 = .ok (.getfield 148, 3) := by decide +kernel
theorem dX9_isWord_19 : decode cX9_isWord 19 = .ok (.aload_n 0, 1) := by decide +kernel
theorem dX9_isWord_20 : decode cX9_isWord 20 = .ok (.getfield 154, 3) := by decide +kernel
theorem dX9_isWord_23 : decode cX9_isWord 23 = .ok (.bipush 8, 2) := by decide +kernel
theorem dX9_isWord_25 : decode cX9_isWord 25 = .ok (.iadd, 1) := by decide +kernel
theorem dX9_isWord_26 : decode cX9_isWord 26 = .ok (.if_icmp .gt 86, 3) := by decide +kernel
theorem dX9_isWord_29 : decode cX9_isWord 29 = .ok (.aload_n 0, 1) := by decide +kernel
theorem dX9_isWord_30 : decode cX9_isWord 30 = .ok (.iconst 0, 1) := by decide +kernel
theorem dX9_isWord_31 : decode cX9_isWord 31 = .ok (.iload_n 1, 1) := by decide +kernel
theorem dX9_isWord_32 : decode cX9_isWord 32 = .ok (.invokevirtual 181, 3) := by decide +kernel
theorem dX9_isWord_35 : decode cX9_isWord 35 = .ok (.ifCond .eq 77, 3) := by decide +kernel
theorem dX9_isWord_38 : decode cX9_isWord 38 = .ok (.aload_n 0, 1) := by decide +kernel
theorem dX9_isWord_39 : decode cX9_isWord 39 = .ok (.iconst 1, 1) := by decide +kernel
theorem dX9_isWord_40 : decode cX9_isWord 40 = .ok (.iload_n 2, 1) := by decide +kernel
theorem dX9_isWord_41 : decode cX9_isWord 41 = .ok (.invokevirtual 181, 3) := by decide +kernel
theorem dX9_isWord_44 : decode cX9_isWord 44 = .ok (.ifCond .eq 68, 3) := by decide +kernel
theorem dX9_isWord_47 : decode cX9_isWord 47 = .ok (.aload_n 0, 1) := by decide +kernel
theorem dX9_isWord_48 : decode cX9_isWord 48 = .ok (.iconst 2, 1) := by decide +kernel
theorem dX9_isWord_49 : decode cX9_isWord 49 = .ok (.iload_n 3, 1) := by decide +kernel
theorem dX9_isWord_50 : decode cX9_isWord 50 = .ok (.invokevirtual 181, 3) := by decide +kernel
theorem dX9_isWord_53 : decode cX9_isWord 53 = .ok (.ifCond .eq 59, 3) := by decide +kernel
theorem dX9_isWord_56 : decode cX9_isWord 56 = .ok (.aload_n 0, 1) := by decide +kernel
theorem dX9_isWord_57 : decode cX9_isWord 57 = .ok (.iconst 3, 1) := by decide +kernel
theorem dX9_isWord_58 : decode cX9_isWord 58 = .ok (.iload 4, 2) := by decide +kernel
theorem dX9_isWord_60 : decode cX9_isWord 60 = .ok (.invokevirtual 181, 3) := by decide +kernel
theorem dX9_isWord_63 : decode cX9_isWord 63 = .ok (.ifCond .eq 49, 3) := by decide +kernel
theorem dX9_isWord_66 : decode cX9_isWord 66 = .ok (.aload_n 0, 1) := by decide +kernel
theorem dX9_isWord_67 : decode cX9_isWord 67 = .ok (.iconst 4, 1) := by decide +kernel
theorem dX9_isWord_68 : decode cX9_isWord 68 = .ok (.iload 5, 2) := by decide +kernel
theorem dX9_isWord_70 : decode cX9_isWord 70 = .ok (.invokevirtual 181, 3) := by decide +kernel
theorem dX9_isWord_73 : decode cX9_isWord 73 = .ok (.ifCond .eq 39, 3) := by decide +kernel
theorem dX9_isWord_76 : decode cX9_isWord 76 = .ok (.aload_n 0, 1) := by decide +kernel
theorem dX9_isWord_77 : decode cX9_isWord 77 = .ok (.iconst 5, 1) := by decide +kernel
theorem dX9_isWord_78 : decode cX9_isWord 78 = .ok (.iload 6, 2) := by decide +kernel
theorem dX9_isWord_80 : decode cX9_isWord 80 = .ok (.invokevirtual 181, 3) := by decide +kernel
theorem dX9_isWord_83 : decode cX9_isWord 83 = .ok (.ifCond .eq 29, 3) := by decide +kernel
theorem dX9_isWord_86 : decode cX9_isWord 86 = .ok (.aload_n 0, 1) := by decide +kernel
theorem dX9_isWord_87 : decode cX9_isWord 87 = .ok (.bipush 6, 2) := by decide +kernel
theorem dX9_isWord_89 : decode cX9_isWord 89 = .ok (.iload 7, 2) := by decide +kernel
theorem dX9_isWord_91 : decode cX9_isWord 91 = .ok (.invokevirtual 181, 3) := by decide +kernel
theorem dX9_isWord_94 : decode cX9_isWord 94 = .ok (.ifCond .eq 18, 3) := by decide +kernel
theorem dX9_isWord_97 : decode cX9_isWord 97 = .ok (.aload_n 0, 1) := by decide +kernel
theorem dX9_isWord_98 : decode cX9_isWord 98 = .ok (.bipush 7, 2) := by decide +kernel
theorem dX9_isWord_100 : decode cX9_isWord 100 = .ok (.iload 8, 2) := by decide +kernel
theorem dX9_isWord_102 : decode cX9_isWord 102 = .ok (.invokevirtual 181, 3) := by decide +kernel
theorem dX9_isWord_105 : decode cX9_isWord 105 = .ok (.ifCond .eq 7, 3) := by decide +kernel
theorem dX9_isWord_108 : decode cX9_isWord 108 = .ok (.iconst 1, 1) := by decide +kernel
theorem dX9_isWord_109 : decode cX9_isWord 109 = .ok (.goto 4, 3) := by decide +kernel
theorem dX9_isWord_112 : decode cX9_isWord 112 = .ok (.iconst 0, 1) := by decide +kernel
theorem dX9_isWord_113 : decode cX9_isWord 113 = .ok (.ireturn, 1) := by decide +kernel
theorem dX9_isSign_0 : decode cX9_isSign 0 = .ok (.aload_n 0, 1) := by decide +kernel
theorem dX9_isSign_1 : decode cX9_isSign 1 = .ok (.getfield 174, 3) := by decide +kernel
theorem dX9_isSign_4 : decode cX9_isSign 4 = .ok (.ifCond .ne 25, 3) := by decide +kernel
theorem dX9_isSign_7 : decode cX9_isSign 7 = .ok (.aload_n 0, 1) := by decide +kernel
theorem dX9_isSign_8 : decode cX9_isSign 8 = .ok (.getfield 157, 3) := by decide +kernel
theorem dX9_isSign_11 : decode cX9_isSign 11 = .ok (.iconst 3, 1) := by decide +kernel
theorem dX9_isSign_12 : decode cX9_isSign 12 = .ok (.if_icmp .ne 17, 3) := by decide +kernel
theorem dX9_isSign_15 : decode cX9_isSign 15 = .ok (.aload_n 0, 1) := by decide +kernel
theorem dX9_isSign_16 : decode cX9_isSign 16 = .ok (.getfield 168, 3) := by decide +kernel
theorem dX9_isSign_19 : decode cX9_isSign 19 = .ok (.iload_n 1, 1) := by decide +kernel
theorem dX9_isSign_20 : decode cX9_isSign 20 = .ok (.i2l, 1) := by decide +kernel
theorem dX9_isSign_21 : decode cX9_isSign 21 = .ok (.lcmp, 1) := by decide +kernel
theorem dX9_isSign_22 : decode cX9_isSign 22 = .ok (.ifCond .ne 7, 3) := by decide +kernel
theorem dX9_isSign_25 : decode cX9_isSign 25 = .ok (.iconst 1, 1) := by decide +kernel
theorem dX9_isSign_26 : decode cX9_isSign 26 = .ok (.goto 4, 3) := by decide +kernel
theorem dX9_isSign_29 : decode cX9_isSign 29 = .ok (.iconst 0, 1) := by decide +kernel
theorem dX9_isSign_30 : decode cX9_isSign 30 = .ok (.ireturn, 1) := by decide +kernel
theorem dX9_opens_0 : decode cX9_opens 0 = .ok (.aload_n 0, 1) := by decide +kernel
theorem dX9_opens_1 : decode cX9_opens 1 = .ok (.getfield 185, 3) := by decide +kernel
theorem dX9_opens_4 : decode cX9_opens 4 = .ok (.iconst 5, 1) := by decide +kernel
theorem dX9_opens_5 : decode cX9_opens 5 = .ok (.if_icmp .ne 9, 3) := by decide +kernel
theorem dX9_opens_8 : decode cX9_opens 8 = .ok (.aload_n 0, 1) := by decide +kernel
theorem dX9_opens_9 : decode cX9_opens 9 = .ok (.invokevirtual 188, 3) := by decide +kernel
theorem dX9_opens_12 : decode cX9_opens 12 = .ok (.iconst 0, 1) := by decide +kernel
theorem dX9_opens_13 : decode cX9_opens 13 = .ok (.ireturn, 1) := by decide +kernel
theorem dX9_opens_14 : decode cX9_opens 14 = .ok (.aload_n 0, 1) := by decide +kernel
theorem dX9_opens_15 : decode cX9_opens 15 = .ok (.dup, 1) := by decide +kernel
theorem dX9_opens_16 : decode cX9_opens 16 = .ok (.getfield 185, 3) := by decide +kernel
theorem dX9_opens_19 : decode cX9_opens 19 = .ok (.iconst 1, 1) := by decide +kernel
theorem dX9_opens_20 : decode cX9_opens 20 = .ok (.iadd, 1) := by decide +kernel
theorem dX9_opens_21 : decode cX9_opens 21 = .ok (.putfield 185, 3) := by decide +kernel
theorem dX9_opens_24 : decode cX9_opens 24 = .ok (.aload_n 0, 1) := by decide +kernel
theorem dX9_opens_25 : decode cX9_opens 25 = .ok (.invokevirtual 191, 3) := by decide +kernel
theorem dX9_opens_28 : decode cX9_opens 28 = .ok (.iconst 1, 1) := by decide +kernel
theorem dX9_opens_29 : decode cX9_opens 29 = .ok (.ireturn, 1) := by decide +kernel
theorem dX9_name_0 : decode cX9_name 0 = .ok (.aload_n 0, 1) := by decide +kernel
theorem dX9_name_1 : decode cX9_name 1 = .ok (.bipush 100, 2) := by decide +kernel
theorem dX9_name_3 : decode cX9_name 3 = .ok (.bipush 97, 2) := by decide +kernel
theorem dX9_name_5 : decode cX9_name 5 = .ok (.bipush 121, 2) := by decide +kernel
theorem dX9_name_7 : decode cX9_name 7 = .ok (.iconst 0, 1) := by decide +kernel
theorem dX9_name_8 : decode cX9_name 8 = .ok (.iconst 0, 1) := by decide +kernel
theorem dX9_name_9 : decode cX9_name 9 = .ok (.iconst 0, 1) := by decide +kernel
theorem dX9_name_10 : decode cX9_name 10 = .ok (.iconst 0, 1) := by decide +kernel
theorem dX9_name_11 : decode cX9_name 11 = .ok (.iconst 0, 1) := by decide +kernel
theorem dX9_name_12 : decode cX9_name 12 = .ok (.invokevirtual 194, 3) := by decide +kernel
theorem dX9_name_15 : decode cX9_name 15 = .ok (.ifCond .eq 8, 3) := by decide +kernel
theorem dX9_name_18 : decode cX9_name 18 = .ok (.aload_n 0, 1) := by decide +kernel
theorem dX9_name_19 : decode cX9_name 19 = .ok (.getfield 198, 3) := by decide +kernel
theorem dX9_name_22 : decode cX9_name 22 = .ok (.ireturn, 1) := by decide +kernel
theorem dX9_name_23 : decode cX9_name 23 = .ok (.aload_n 0, 1) := by decide +kernel
theorem dX9_name_24 : decode cX9_name 24 = .ok (.bipush 115, 2) := by decide +kernel
theorem dX9_name_26 : decode cX9_name 26 = .ok (.bipush 104, 2) := by decide +kernel
theorem dX9_name_28 : decode cX9_name 28 = .ok (.bipush 105, 2) := by decide +kernel
theorem dX9_name_30 : decode cX9_name 30 = .ok (.bipush 102, 2) := by decide +kernel
theorem dX9_name_32 : decode cX9_name 32 = .ok (.bipush 116, 2) := by decide +kernel
theorem dX9_name_34 : decode cX9_name 34 = .ok (.iconst 0, 1) := by decide +kernel
theorem dX9_name_35 : decode cX9_name 35 = .ok (.iconst 0, 1) := by decide +kernel
theorem dX9_name_36 : decode cX9_name 36 = .ok (.iconst 0, 1) := by decide +kernel
theorem dX9_name_37 : decode cX9_name 37 = .ok (.invokevirtual 194, 3) := by decide +kernel
theorem dX9_name_40 : decode cX9_name 40 = .ok (.ifCond .eq 8, 3) := by decide +kernel
theorem dX9_name_43 : decode cX9_name 43 = .ok (.aload_n 0, 1) := by decide +kernel
theorem dX9_name_44 : decode cX9_name 44 = .ok (.getfield 201, 3) := by decide +kernel
theorem dX9_name_47 : decode cX9_name 47 = .ok (.ireturn, 1) := by decide +kernel
theorem dX9_name_48 : decode cX9_name 48 = .ok (.aload_n 0, 1) := by decide +kernel
theorem dX9_name_49 : decode cX9_name 49 = .ok (.bipush 110, 2) := by decide +kernel
theorem dX9_name_51 : decode cX9_name 51 = .ok (.bipush 117, 2) := by decide +kernel
theorem dX9_name_53 : decode cX9_name 53 = .ok (.bipush 109, 2) := by decide +kernel
theorem dX9_name_55 : decode cX9_name 55 = .ok (.bipush 98, 2) := by decide +kernel
theorem dX9_name_57 : decode cX9_name 57 = .ok (.bipush 101, 2) := by decide +kernel
theorem dX9_name_59 : decode cX9_name 59 = .ok (.bipush 114, 2) := by decide +kernel
theorem dX9_name_61 : decode cX9_name 61 = .ok (.iconst 0, 1) := by decide +kernel
theorem dX9_name_62 : decode cX9_name 62 = .ok (.iconst 0, 1) := by decide +kernel
theorem dX9_name_63 : decode cX9_name 63 = .ok (.invokevirtual 194, 3) := by decide +kernel
theorem dX9_name_66 : decode cX9_name 66 = .ok (.ifCond .eq 8, 3) := by decide +kernel
theorem dX9_name_69 : decode cX9_name 69 = .ok (.aload_n 0, 1) := by decide +kernel
theorem dX9_name_70 : decode cX9_name 70 = .ok (.getfield 204, 3) := by decide +kernel
theorem dX9_name_73 : decode cX9_name 73 = .ok (.ireturn, 1) := by decide +kernel
theorem dX9_name_74 : decode cX9_name 74 = .ok (.aload_n 0, 1) := by decide +kernel
theorem dX9_name_75 : decode cX9_name 75 = .ok (.bipush 119, 2) := by decide +kernel
theorem dX9_name_77 : decode cX9_name 77 = .ok (.bipush 101, 2) := by decide +kernel
theorem dX9_name_79 : decode cX9_name 79 = .ok (.bipush 97, 2) := by decide +kernel
theorem dX9_name_81 : decode cX9_name 81 = .ok (.bipush 116, 2) := by decide +kernel
theorem dX9_name_83 : decode cX9_name 83 = .ok (.bipush 104, 2) := by decide +kernel
theorem dX9_name_85 : decode cX9_name 85 = .ok (.bipush 101, 2) := by decide +kernel
theorem dX9_name_87 : decode cX9_name 87 = .ok (.bipush 114, 2) := by decide +kernel
theorem dX9_name_89 : decode cX9_name 89 = .ok (.iconst 0, 1) := by decide +kernel
theorem dX9_name_90 : decode cX9_name 90 = .ok (.invokevirtual 194, 3) := by decide +kernel
theorem dX9_name_93 : decode cX9_name 93 = .ok (.ifCond .eq 8, 3) := by decide +kernel
theorem dX9_name_96 : decode cX9_name 96 = .ok (.aload_n 0, 1) := by decide +kernel
theorem dX9_name_97 : decode cX9_name 97 = .ok (.getfield 207, 3) := by decide +kernel
theorem dX9_name_100 : decode cX9_name 100 = .ok (.ireturn, 1) := by decide +kernel
theorem dX9_name_101 : decode cX9_name 101 = .ok (.aload_n 0, 1) := by decide +kernel
theorem dX9_name_102 : decode cX9_name 102 = .ok (.bipush 119, 2) := by decide +kernel
theorem dX9_name_104 : decode cX9_name 104 = .ok (.bipush 105, 2) := by decide +kernel
theorem dX9_name_106 : decode cX9_name 106 = .ok (.bipush 110, 2) := by decide +kernel
theorem dX9_name_108 : decode cX9_name 108 = .ok (.bipush 100, 2) := by decide +kernel
theorem dX9_name_110 : decode cX9_name 110 = .ok (.bipush 111, 2) := by decide +kernel
theorem dX9_name_112 : decode cX9_name 112 = .ok (.bipush 119, 2) := by decide +kernel
theorem dX9_name_114 : decode cX9_name 114 = .ok (.iconst 0, 1) := by decide +kernel
theorem dX9_name_115 : decode cX9_name 115 = .ok (.iconst 0, 1) := by decide +kernel
theorem dX9_name_116 : decode cX9_name 116 = .ok (.invokevirtual 194, 3) := by decide +kernel
theorem dX9_name_119 : decode cX9_name 119 = .ok (.ifCond .eq 8, 3) := by decide +kernel
theorem dX9_name_122 : decode cX9_name 122 = .ok (.aload_n 0, 1) := by decide +kernel
theorem dX9_name_123 : decode cX9_name 123 = .ok (.getfield 210, 3) := by decide +kernel
theorem dX9_name_126 : decode cX9_name 126 = .ok (.ireturn, 1) := by decide +kernel
theorem dX9_name_127 : decode cX9_name 127 = .ok (.aload_n 0, 1) := by decide +kernel
theorem dX9_name_128 : decode cX9_name 128 = .ok (.bipush 114, 2) := by decide +kernel
theorem dX9_name_130 : decode cX9_name 130 = .ok (.bipush 111, 2) := by decide +kernel
theorem dX9_name_132 : decode cX9_name 132 = .ok (.bipush 111, 2) := by decide +kernel
theorem dX9_name_134 : decode cX9_name 134 = .ok (.bipush 109, 2) := by decide +kernel
theorem dX9_name_136 : decode cX9_name 136 = .ok (.iconst 0, 1) := by decide +kernel
theorem dX9_name_137 : decode cX9_name 137 = .ok (.iconst 0, 1) := by decide +kernel
theorem dX9_name_138 : decode cX9_name 138 = .ok (.iconst 0, 1) := by decide +kernel
theorem dX9_name_139 : decode cX9_name 139 = .ok (.iconst 0, 1) := by decide +kernel
theorem dX9_name_140 : decode cX9_name 140 = .ok (.invokevirtual 194, 3) := by decide +kernel
theorem dX9_name_143 : decode cX9_name 143 = .ok (.ifCond .eq 8, 3) := by decide +kernel
theorem dX9_name_146 : decode cX9_name 146 = .ok (.aload_n 0, 1) := by decide +kernel
theorem dX9_name_147 : decode cX9_name 147 = .ok (.getfield 213, 3) := by decide +kernel
theorem dX9_name_150 : decode cX9_name 150 = .ok (.ireturn, 1) := by decide +kernel
theorem dX9_name_151 : decode cX9_name 151 = .ok (.aload_n 0, 1) := by decide +kernel
theorem dX9_name_152 : decode cX9_name 152 = .ok (.invokevirtual 188, 3) := by decide +kernel
theorem dX9_name_155 : decode cX9_name 155 = .ok (.iconst 0, 1) := by decide +kernel
theorem dX9_name_156 : decode cX9_name 156 = .ok (.ireturn, 1) := by decide +kernel
theorem dX9_atom_0 : decode cX9_atom 0 = .ok (.iconst 0, 1) := by decide +kernel
theorem dX9_atom_1 : decode cX9_atom 1 = .ok (.istore_n 1, 1) := by decide +kernel
theorem dX9_atom_2 : decode cX9_atom 2 = .ok (.aload_n 0, 1) := by decide +kernel
theorem dX9_atom_3 : decode cX9_atom 3 = .ok (.bipush 45, 2) := by decide +kernel
theorem dX9_atom_5 : decode cX9_atom 5 = .ok (.invokevirtual 216, 3) := by decide +kernel
theorem dX9_atom_8 : decode cX9_atom 8 = .ok (.ifCond .eq 29, 3) := by decide +kernel
theorem dX9_atom_11 : decode cX9_atom 11 = .ok (.aload_n 0, 1) := by decide +kernel
theorem dX9_atom_12 : decode cX9_atom 12 = .ok (.invokevirtual 219, 3) := by decide +kernel
theorem dX9_atom_15 : decode cX9_atom 15 = .ok (.ifCond .eq 146, 3) := by decide +kernel
theorem dX9_atom_18 : decode cX9_atom 18 = .ok (.aload_n 0, 1) := by decide +kernel
theorem dX9_atom_19 : decode cX9_atom 19 = .ok (.invokevirtual 223, 3) := by decide +kernel
theorem dX9_atom_22 : decode cX9_atom 22 = .ok (.ineg, 1) := by decide +kernel
theorem dX9_atom_23 : decode cX9_atom 23 = .ok (.istore_n 1, 1) := by decide +kernel
theorem dX9_atom_24 : decode cX9_atom 24 = .ok (.aload_n 0, 1) := by decide +kernel
theorem dX9_atom_25 : decode cX9_atom 25 = .ok (.dup, 1) := by decide +kernel
theorem dX9_atom_26 : decode cX9_atom 26 = .ok (.getfield 185, 3) := by decide +kernel
theorem dX9_atom_29 : decode cX9_atom 29 = .ok (.iconst 1, 1) := by decide +kernel
theorem dX9_atom_30 : decode cX9_atom 30 = .ok (.isub, 1) := by decide +kernel
theorem dX9_atom_31 : decode cX9_atom 31 = .ok (.putfield 185, 3) := by decide +kernel
theorem dX9_atom_34 : decode cX9_atom 34 = .ok (.goto 127, 3) := by decide +kernel
theorem dX9_atom_37 : decode cX9_atom 37 = .ok (.aload_n 0, 1) := by decide +kernel
theorem dX9_atom_38 : decode cX9_atom 38 = .ok (.bipush 40, 2) := by decide +kernel
theorem dX9_atom_40 : decode cX9_atom 40 = .ok (.invokevirtual 216, 3) := by decide +kernel
theorem dX9_atom_43 : decode cX9_atom 43 = .ok (.ifCond .eq 52, 3) := by decide +kernel
theorem dX9_atom_46 : decode cX9_atom 46 = .ok (.aload_n 0, 1) := by decide +kernel
theorem dX9_atom_47 : decode cX9_atom 47 = .ok (.invokevirtual 219, 3) := by decide +kernel
theorem dX9_atom_50 : decode cX9_atom 50 = .ok (.ifCond .eq 111, 3) := by decide +kernel
theorem dX9_atom_53 : decode cX9_atom 53 = .ok (.aload_n 0, 1) := by decide +kernel
theorem dX9_atom_54 : decode cX9_atom 54 = .ok (.invokevirtual 227, 3) := by decide +kernel
theorem dX9_atom_57 : decode cX9_atom 57 = .ok (.istore_n 1, 1) := by decide +kernel
theorem dX9_atom_58 : decode cX9_atom 58 = .ok (.aload_n 0, 1) := by decide +kernel
theorem dX9_atom_59 : decode cX9_atom 59 = .ok (.bipush 41, 2) := by decide +kernel
theorem dX9_atom_61 : decode cX9_atom 61 = .ok (.invokevirtual 216, 3) := by decide +kernel
theorem dX9_atom_64 : decode cX9_atom 64 = .ok (.ifCond .ne 7, 3) := by decide +kernel
theorem dX9_atom_67 : decode cX9_atom 67 = .ok (.aload_n 0, 1) := by decide +kernel
theorem dX9_atom_68 : decode cX9_atom 68 = .ok (.invokevirtual 188, 3) := by decide +kernel
theorem dX9_atom_71 : decode cX9_atom 71 = .ok (.aload_n 0, 1) := by decide +kernel
theorem dX9_atom_72 : decode cX9_atom 72 = .ok (.dup, 1) := by decide +kernel
theorem dX9_atom_73 : decode cX9_atom 73 = .ok (.getfield 185, 3) := by decide +kernel
theorem dX9_atom_76 : decode cX9_atom 76 = .ok (.iconst 1, 1) := by decide +kernel
theorem dX9_atom_77 : decode cX9_atom 77 = .ok (.isub, 1) := by decide +kernel
theorem dX9_atom_78 : decode cX9_atom 78 = .ok (.putfield 185, 3) := by decide +kernel
theorem dX9_atom_81 : decode cX9_atom 81 = .ok (.aload_n 0, 1) := by decide +kernel
theorem dX9_atom_82 : decode cX9_atom 82 = .ok (.getfield 174, 3) := by decide +kernel
theorem dX9_atom_85 : decode cX9_atom 85 = .ok (.ifCond .ne 76, 3) := by decide +kernel
theorem dX9_atom_88 : decode cX9_atom 88 = .ok (.aload_n 0, 1) := by decide +kernel
theorem dX9_atom_89 : decode cX9_atom 89 = .ok (.invokevirtual 191, 3) := by decide +kernel
theorem dX9_atom_92 : decode cX9_atom 92 = .ok (.goto 69, 3) := by decide +kernel
theorem dX9_atom_95 : decode cX9_atom 95 = .ok (.aload_n 0, 1) := by decide +kernel
theorem dX9_atom_96 : decode cX9_atom 96 = .ok (.getfield 174, 3) := by decide +kernel
theorem dX9_atom_99 : decode cX9_atom 99 = .ok (.ifCond .ne 24, 3) := by decide +kernel
theorem dX9_atom_102 : decode cX9_atom 102 = .ok (.aload_n 0, 1) := by decide +kernel
theorem dX9_atom_103 : decode cX9_atom 103 = .ok (.getfield 157, 3) := by decide +kernel
theorem dX9_atom_106 : decode cX9_atom 106 = .ok (.iconst 2, 1) := by decide +kernel
theorem dX9_atom_107 : decode cX9_atom 107 = .ok (.if_icmp .ne 16, 3) := by decide +kernel
theorem dX9_atom_110 : decode cX9_atom 110 = .ok (.aload_n 0, 1) := by decide +kernel
theorem dX9_atom_111 : decode cX9_atom 111 = .ok (.getfield 168, 3) := by decide +kernel
theorem dX9_atom_114 : decode cX9_atom 114 = .ok (.l2i, 1) := by decide +kernel
theorem dX9_atom_115 : decode cX9_atom 115 = .ok (.istore_n 1, 1) := by decide +kernel
theorem dX9_atom_116 : decode cX9_atom 116 = .ok (.aload_n 0, 1) := by decide +kernel
theorem dX9_atom_117 : decode cX9_atom 117 = .ok (.invokevirtual 191, 3) := by decide +kernel
theorem dX9_atom_120 : decode cX9_atom 120 = .ok (.goto 41, 3) := by decide +kernel
theorem dX9_atom_123 : decode cX9_atom 123 = .ok (.aload_n 0, 1) := by decide +kernel
theorem dX9_atom_124 : decode cX9_atom 124 = .ok (.getfield 174, 3) := by decide +kernel
theorem dX9_atom_127 : decode cX9_atom 127 = .ok (.ifCond .ne 30, 3) := by decide +kernel
theorem dX9_atom_130 : decode cX9_atom 130 = .ok (.aload_n 0, 1) := by decide +kernel
theorem dX9_atom_131 : decode cX9_atom 131 = .ok (.getfield 157, 3) := by decide +kernel
theorem dX9_atom_134 : decode cX9_atom 134 = .ok (.iconst 1, 1) := by decide +kernel
theorem dX9_atom_135 : decode cX9_atom 135 = .ok (.if_icmp .ne 22, 3) := by decide +kernel
theorem dX9_atom_138 : decode cX9_atom 138 = .ok (.aload_n 0, 1) := by decide +kernel
theorem dX9_atom_139 : decode cX9_atom 139 = .ok (.invokevirtual 230, 3) := by decide +kernel
theorem dX9_atom_142 : decode cX9_atom 142 = .ok (.istore_n 1, 1) := by decide +kernel
theorem dX9_atom_143 : decode cX9_atom 143 = .ok (.aload_n 0, 1) := by decide +kernel
theorem dX9_atom_144 : decode cX9_atom 144 = .ok (.getfield 174, 3) := by decide +kernel
theorem dX9_atom_147 : decode cX9_atom 147 = .ok (.ifCond .ne 14, 3) := by decide +kernel
theorem dX9_atom_150 : decode cX9_atom 150 = .ok (.aload_n 0, 1) := by decide +kernel
theorem dX9_atom_151 : decode cX9_atom 151 = .ok (.invokevirtual 191, 3) := by decide +kernel
theorem dX9_atom_154 : decode cX9_atom 154 = .ok (.goto 7, 3) := by decide +kernel
theorem dX9_atom_157 : decode cX9_atom 157 = .ok (.aload_n 0, 1) := by decide +kernel
theorem dX9_atom_158 : decode cX9_atom 158 = .ok (.invokevirtual 188, 3) := by decide +kernel
theorem dX9_atom_161 : decode cX9_atom 161 = .ok (.iload_n 1, 1) := by decide +kernel
theorem dX9_atom_162 : decode cX9_atom 162 = .ok (.ireturn, 1) := by decide +kernel
theorem dX9_term_0 : decode cX9_term 0 = .ok (.aload_n 0, 1) := by decide +kernel
theorem dX9_term_1 : decode cX9_term 1 = .ok (.invokevirtual 223, 3) := by decide +kernel
theorem dX9_term_4 : decode cX9_term 4 = .ok (.istore_n 1, 1) := by decide +kernel
theorem dX9_term_5 : decode cX9_term 5 = .ok (.aload_n 0, 1) := by decide +kernel
theorem dX9_term_6 : decode cX9_term 6 = .ok (.bipush 42, 2) := by decide +kernel
theorem dX9_term_8 : decode cX9_term 8 = .ok (.invokevirtual 216, 3) := by decide +kernel
theorem dX9_term_11 : decode cX9_term 11 = .ok (.ifCond .eq 17, 3) := by decide +kernel
theorem dX9_term_14 : decode cX9_term 14 = .ok (.aload_n 0, 1) := by decide +kernel
theorem dX9_term_15 : decode cX9_term 15 = .ok (.invokevirtual 191, 3) := by decide +kernel
theorem dX9_term_18 : decode cX9_term 18 = .ok (.iload_n 1, 1) := by decide +kernel
theorem dX9_term_19 : decode cX9_term 19 = .ok (.aload_n 0, 1) := by decide +kernel
theorem dX9_term_20 : decode cX9_term 20 = .ok (.invokevirtual 223, 3) := by decide +kernel
theorem dX9_term_23 : decode cX9_term 23 = .ok (.imul, 1) := by decide +kernel
theorem dX9_term_24 : decode cX9_term 24 = .ok (.istore_n 1, 1) := by decide +kernel
theorem dX9_term_25 : decode cX9_term 25 = .ok (.goto (-20), 3) := by decide +kernel
theorem dX9_term_28 : decode cX9_term 28 = .ok (.iload_n 1, 1) := by decide +kernel
theorem dX9_term_29 : decode cX9_term 29 = .ok (.ireturn, 1) := by decide +kernel
theorem dX9_added_0 : decode cX9_added 0 = .ok (.aload_n 0, 1) := by decide +kernel
theorem dX9_added_1 : decode cX9_added 1 = .ok (.invokevirtual 233, 3) := by decide +kernel
theorem dX9_added_4 : decode cX9_added 4 = .ok (.istore_n 1, 1) := by decide +kernel
theorem dX9_added_5 : decode cX9_added 5 = .ok (.aload_n 0, 1) := by decide +kernel
theorem dX9_added_6 : decode cX9_added 6 = .ok (.bipush 43, 2) := by decide +kernel
theorem dX9_added_8 : decode cX9_added 8 = .ok (.invokevirtual 216, 3) := by decide +kernel
theorem dX9_added_11 : decode cX9_added 11 = .ok (.ifCond .ne 12, 3) := by decide +kernel
theorem dX9_added_14 : decode cX9_added 14 = .ok (.aload_n 0, 1) := by decide +kernel
theorem dX9_added_15 : decode cX9_added 15 = .ok (.bipush 45, 2) := by decide +kernel
theorem dX9_added_17 : decode cX9_added 17 = .ok (.invokevirtual 216, 3) := by decide +kernel
theorem dX9_added_20 : decode cX9_added 20 = .ok (.ifCond .eq 46, 3) := by decide +kernel
theorem dX9_added_23 : decode cX9_added 23 = .ok (.aload_n 0, 1) := by decide +kernel
theorem dX9_added_24 : decode cX9_added 24 = .ok (.getfield 168, 3) := by decide +kernel
theorem dX9_added_27 : decode cX9_added 27 = .ok (.ldc2_w 236, 3) := by decide +kernel
theorem dX9_added_30 : decode cX9_added 30 = .ok (.lcmp, 1) := by decide +kernel
theorem dX9_added_31 : decode cX9_added 31 = .ok (.ifCond .ne 7, 3) := by decide +kernel
theorem dX9_added_34 : decode cX9_added 34 = .ok (.iconst 1, 1) := by decide +kernel
theorem dX9_added_35 : decode cX9_added 35 = .ok (.goto 4, 3) := by decide +kernel
theorem dX9_added_38 : decode cX9_added 38 = .ok (.iconst 0, 1) := by decide +kernel
theorem dX9_added_39 : decode cX9_added 39 = .ok (.istore_n 2, 1) := by decide +kernel
theorem dX9_added_40 : decode cX9_added 40 = .ok (.aload_n 0, 1) := by decide +kernel
theorem dX9_added_41 : decode cX9_added 41 = .ok (.invokevirtual 191, 3) := by decide +kernel
theorem dX9_added_44 : decode cX9_added 44 = .ok (.aload_n 0, 1) := by decide +kernel
theorem dX9_added_45 : decode cX9_added 45 = .ok (.invokevirtual 233, 3) := by decide +kernel
theorem dX9_added_48 : decode cX9_added 48 = .ok (.istore_n 3, 1) := by decide +kernel
theorem dX9_added_49 : decode cX9_added 49 = .ok (.iload_n 2, 1) := by decide +kernel
theorem dX9_added_50 : decode cX9_added 50 = .ok (.ifCond .eq 9, 3) := by decide +kernel
theorem dX9_added_53 : decode cX9_added 53 = .ok (.iload_n 1, 1) := by decide +kernel
theorem dX9_added_54 : decode cX9_added 54 = .ok (.iload_n 3, 1) := by decide +kernel
theorem dX9_added_55 : decode cX9_added 55 = .ok (.iadd, 1) := by decide +kernel
theorem dX9_added_56 : decode cX9_added 56 = .ok (.goto 6, 3) := by decide +kernel
theorem dX9_added_59 : decode cX9_added 59 = .ok (.iload_n 1, 1) := by decide +kernel
theorem dX9_added_60 : decode cX9_added 60 = .ok (.iload_n 3, 1) := by decide +kernel
theorem dX9_added_61 : decode cX9_added 61 = .ok (.isub, 1) := by decide +kernel
theorem dX9_added_62 : decode cX9_added 62 = .ok (.istore_n 1, 1) := by decide +kernel
theorem dX9_added_63 : decode cX9_added 63 = .ok (.goto (-58), 3) := by decide +kernel
theorem dX9_added_66 : decode cX9_added 66 = .ok (.iload_n 1, 1) := by decide +kernel
theorem dX9_added_67 : decode cX9_added 67 = .ok (.ireturn, 1) := by decide +kernel
theorem dX9_not_0 : decode cX9_not 0 = .ok (.aload_n 0, 1) := by decide +kernel
theorem dX9_not_1 : decode cX9_not 1 = .ok (.bipush 110, 2) := by decide +kernel
theorem dX9_not_3 : decode cX9_not 3 = .ok (.bipush 111, 2) := by decide +kernel
theorem dX9_not_5 : decode cX9_not 5 = .ok (.bipush 116, 2) := by decide +kernel
theorem dX9_not_7 : decode cX9_not 7 = .ok (.iconst 0, 1) := by decide +kernel
theorem dX9_not_8 : decode cX9_not 8 = .ok (.iconst 0, 1) := by decide +kernel
theorem dX9_not_9 : decode cX9_not 9 = .ok (.iconst 0, 1) := by decide +kernel
theorem dX9_not_10 : decode cX9_not 10 = .ok (.iconst 0, 1) := by decide +kernel
theorem dX9_not_11 : decode cX9_not 11 = .ok (.iconst 0, 1) := by decide +kernel
theorem dX9_not_12 : decode cX9_not 12 = .ok (.invokevirtual 194, 3) := by decide +kernel
theorem dX9_not_15 : decode cX9_not 15 = .ok (.ifCond .eq 37, 3) := by decide +kernel
theorem dX9_not_18 : decode cX9_not 18 = .ok (.aload_n 0, 1) := by decide +kernel
theorem dX9_not_19 : decode cX9_not 19 = .ok (.invokevirtual 219, 3) := by decide +kernel
theorem dX9_not_22 : decode cX9_not 22 = .ok (.ifCond .ne 5, 3) := by decide +kernel
theorem dX9_not_25 : decode cX9_not 25 = .ok (.iconst 0, 1) := by decide +kernel
theorem dX9_not_26 : decode cX9_not 26 = .ok (.ireturn, 1) := by decide +kernel
theorem dX9_not_27 : decode cX9_not 27 = .ok (.aload_n 0, 1) := by decide +kernel
theorem dX9_not_28 : decode cX9_not 28 = .ok (.invokevirtual 238, 3) := by decide +kernel
theorem dX9_not_31 : decode cX9_not 31 = .ok (.istore_n 1, 1) := by decide +kernel
theorem dX9_not_32 : decode cX9_not 32 = .ok (.aload_n 0, 1) := by decide +kernel
theorem dX9_not_33 : decode cX9_not 33 = .ok (.dup, 1) := by decide +kernel
theorem dX9_not_34 : decode cX9_not 34 = .ok (.getfield 185, 3) := by decide +kernel
theorem dX9_not_37 : decode cX9_not 37 = .ok (.iconst 1, 1) := by decide +kernel
theorem dX9_not_38 : decode cX9_not 38 = .ok (.isub, 1) := by decide +kernel
theorem dX9_not_39 : decode cX9_not 39 = .ok (.putfield 185, 3) := by decide +kernel
theorem dX9_not_42 : decode cX9_not 42 = .ok (.iload_n 1, 1) := by decide +kernel
theorem dX9_not_43 : decode cX9_not 43 = .ok (.ifCond .ne 7, 3) := by decide +kernel
theorem dX9_not_46 : decode cX9_not 46 = .ok (.iconst 1, 1) := by decide +kernel
theorem dX9_not_47 : decode cX9_not 47 = .ok (.goto 4, 3) := by decide +kernel
theorem dX9_not_50 : decode cX9_not 50 = .ok (.iconst 0, 1) := by decide +kernel
theorem dX9_not_51 : decode cX9_not 51 = .ok (.ireturn, 1) := by decide +kernel
theorem dX9_not_52 : decode cX9_not 52 = .ok (.aload_n 0, 1) := by decide +kernel
theorem dX9_not_53 : decode cX9_not 53 = .ok (.invokevirtual 241, 3) := by decide +kernel
theorem dX9_not_56 : decode cX9_not 56 = .ok (.istore_n 1, 1) := by decide +kernel
theorem dX9_not_57 : decode cX9_not 57 = .ok (.aload_n 0, 1) := by decide +kernel
theorem dX9_not_58 : decode cX9_not 58 = .ok (.bipush 60, 2) := by decide +kernel
theorem dX9_not_60 : decode cX9_not 60 = .ok (.invokevirtual 216, 3) := by decide +kernel
theorem dX9_not_63 : decode cX9_not 63 = .ok (.ifCond .ne 14, 3) := by decide +kernel
theorem dX9_not_66 : decode cX9_not 66 = .ok (.aload_n 0, 1) := by decide +kernel
theorem dX9_not_67 : decode cX9_not 67 = .ok (.bipush 61, 2) := by decide +kernel
theorem dX9_not_69 : decode cX9_not 69 = .ok (.invokevirtual 216, 3) := by decide +kernel
theorem dX9_not_72 : decode cX9_not 72 = .ok (.ifCond .ne 5, 3) := by decide +kernel
theorem dX9_not_75 : decode cX9_not 75 = .ok (.iload_n 1, 1) := by decide +kernel
theorem dX9_not_76 : decode cX9_not 76 = .ok (.ireturn, 1) := by decide +kernel
theorem dX9_not_77 : decode cX9_not 77 = .ok (.aload_n 0, 1) := by decide +kernel
theorem dX9_not_78 : decode cX9_not 78 = .ok (.getfield 168, 3) := by decide +kernel
theorem dX9_not_81 : decode cX9_not 81 = .ok (.ldc2_w 244, 3) := by decide +kernel
theorem dX9_not_84 : decode cX9_not 84 = .ok (.lcmp, 1) := by decide +kernel
theorem dX9_not_85 : decode cX9_not 85 = .ok (.ifCond .ne 7, 3) := by decide +kernel
theorem dX9_not_88 : decode cX9_not 88 = .ok (.iconst 1, 1) := by decide +kernel
theorem dX9_not_89 : decode cX9_not 89 = .ok (.goto 4, 3) := by decide +kernel
theorem dX9_not_92 : decode cX9_not 92 = .ok (.iconst 0, 1) := by decide +kernel
theorem dX9_not_93 : decode cX9_not 93 = .ok (.istore_n 2, 1) := by decide +kernel
theorem dX9_not_94 : decode cX9_not 94 = .ok (.aload_n 0, 1) := by decide +kernel
theorem dX9_not_95 : decode cX9_not 95 = .ok (.invokevirtual 191, 3) := by decide +kernel
theorem dX9_not_98 : decode cX9_not 98 = .ok (.aload_n 0, 1) := by decide +kernel
theorem dX9_not_99 : decode cX9_not 99 = .ok (.invokevirtual 241, 3) := by decide +kernel
theorem dX9_not_102 : decode cX9_not 102 = .ok (.istore_n 3, 1) := by decide +kernel
theorem dX9_not_103 : decode cX9_not 103 = .ok (.iload_n 2, 1) := by decide +kernel
theorem dX9_not_104 : decode cX9_not 104 = .ok (.ifCond .eq 11, 3) := by decide +kernel
theorem dX9_not_107 : decode cX9_not 107 = .ok (.iload_n 1, 1) := by decide +kernel
theorem dX9_not_108 : decode cX9_not 108 = .ok (.iload_n 3, 1) := by decide +kernel
theorem dX9_not_109 : decode cX9_not 109 = .ok (.if_icmp .ge 15, 3) := by decide +kernel
theorem dX9_not_112 : decode cX9_not 112 = .ok (.goto 8, 3) := by decide +kernel
theorem dX9_not_115 : decode cX9_not 115 = .ok (.iload_n 1, 1) := by decide +kernel
theorem dX9_not_116 : decode cX9_not 116 = .ok (.iload_n 3, 1) := by decide +kernel
theorem dX9_not_117 : decode cX9_not 117 = .ok (.if_icmp .ne 7, 3) := by decide +kernel
theorem dX9_not_120 : decode cX9_not 120 = .ok (.iconst 1, 1) := by decide +kernel
theorem dX9_not_121 : decode cX9_not 121 = .ok (.goto 4, 3) := by decide +kernel
theorem dX9_not_124 : decode cX9_not 124 = .ok (.iconst 0, 1) := by decide +kernel
theorem dX9_not_125 : decode cX9_not 125 = .ok (.ireturn, 1) := by decide +kernel
theorem dX9_both_0 : decode cX9_both 0 = .ok (.aload_n 0, 1) := by decide +kernel
theorem dX9_both_1 : decode cX9_both 1 = .ok (.invokevirtual 238, 3) := by decide +kernel
theorem dX9_both_4 : decode cX9_both 4 = .ok (.istore_n 1, 1) := by decide +kernel
theorem dX9_both_5 : decode cX9_both 5 = .ok (.aload_n 0, 1) := by decide +kernel
theorem dX9_both_6 : decode cX9_both 6 = .ok (.bipush 97, 2) := by decide +kernel
theorem dX9_both_8 : decode cX9_both 8 = .ok (.bipush 110, 2) := by decide +kernel
theorem dX9_both_10 : decode cX9_both 10 = .ok (.bipush 100, 2) := by decide +kernel
theorem dX9_both_12 : decode cX9_both 12 = .ok (.iconst 0, 1) := by decide +kernel
theorem dX9_both_13 : decode cX9_both 13 = .ok (.iconst 0, 1) := by decide +kernel
theorem dX9_both_14 : decode cX9_both 14 = .ok (.iconst 0, 1) := by decide +kernel
theorem dX9_both_15 : decode cX9_both 15 = .ok (.iconst 0, 1) := by decide +kernel
theorem dX9_both_16 : decode cX9_both 16 = .ok (.iconst 0, 1) := by decide +kernel
theorem dX9_both_17 : decode cX9_both 17 = .ok (.invokevirtual 194, 3) := by decide +kernel
theorem dX9_both_20 : decode cX9_both 20 = .ok (.ifCond .eq 29, 3) := by decide +kernel
theorem dX9_both_23 : decode cX9_both 23 = .ok (.aload_n 0, 1) := by decide +kernel
theorem dX9_both_24 : decode cX9_both 24 = .ok (.invokevirtual 191, 3) := by decide +kernel
theorem dX9_both_27 : decode cX9_both 27 = .ok (.aload_n 0, 1) := by decide +kernel
theorem dX9_both_28 : decode cX9_both 28 = .ok (.invokevirtual 238, 3) := by decide +kernel
theorem dX9_both_31 : decode cX9_both 31 = .ok (.istore_n 2, 1) := by decide +kernel
theorem dX9_both_32 : decode cX9_both 32 = .ok (.iload_n 1, 1) := by decide +kernel
theorem dX9_both_33 : decode cX9_both 33 = .ok (.ifCond .eq 11, 3) := by decide +kernel
theorem dX9_both_36 : decode cX9_both 36 = .ok (.iload_n 2, 1) := by decide +kernel
theorem dX9_both_37 : decode cX9_both 37 = .ok (.ifCond .eq 7, 3) := by decide +kernel
theorem dX9_both_40 : decode cX9_both 40 = .ok (.iconst 1, 1) := by decide +kernel
theorem dX9_both_41 : decode cX9_both 41 = .ok (.goto 4, 3) := by decide +kernel
theorem dX9_both_44 : decode cX9_both 44 = .ok (.iconst 0, 1) := by decide +kernel
theorem dX9_both_45 : decode cX9_both 45 = .ok (.istore_n 1, 1) := by decide +kernel
theorem dX9_both_46 : decode cX9_both 46 = .ok (.goto (-41), 3) := by decide +kernel
theorem dX9_both_49 : decode cX9_both 49 = .ok (.iload_n 1, 1) := by decide +kernel
theorem dX9_both_50 : decode cX9_both 50 = .ok (.ireturn, 1) := by decide +kernel
theorem dX9_either_0 : decode cX9_either 0 = .ok (.aload_n 0, 1) := by decide +kernel
theorem dX9_either_1 : decode cX9_either 1 = .ok (.invokevirtual 246, 3) := by decide +kernel
theorem dX9_either_4 : decode cX9_either 4 = .ok (.istore_n 1, 1) := by decide +kernel
theorem dX9_either_5 : decode cX9_either 5 = .ok (.aload_n 0, 1) := by decide +kernel
theorem dX9_either_6 : decode cX9_either 6 = .ok (.bipush 111, 2) := by decide +kernel
theorem dX9_either_8 : decode cX9_either 8 = .ok (.bipush 114, 2) := by decide +kernel
theorem dX9_either_10 : decode cX9_either 10 = .ok (.iconst 0, 1) := by decide +kernel
theorem dX9_either_11 : decode cX9_either 11 = .ok (.iconst 0, 1) := by decide +kernel
theorem dX9_either_12 : decode cX9_either 12 = .ok (.iconst 0, 1) := by decide +kernel
theorem dX9_either_13 : decode cX9_either 13 = .ok (.iconst 0, 1) := by decide +kernel
theorem dX9_either_14 : decode cX9_either 14 = .ok (.iconst 0, 1) := by decide +kernel
theorem dX9_either_15 : decode cX9_either 15 = .ok (.iconst 0, 1) := by decide +kernel
theorem dX9_either_16 : decode cX9_either 16 = .ok (.invokevirtual 194, 3) := by decide +kernel
theorem dX9_either_19 : decode cX9_either 19 = .ok (.ifCond .eq 29, 3) := by decide +kernel
theorem dX9_either_22 : decode cX9_either 22 = .ok (.aload_n 0, 1) := by decide +kernel
theorem dX9_either_23 : decode cX9_either 23 = .ok (.invokevirtual 191, 3) := by decide +kernel
theorem dX9_either_26 : decode cX9_either 26 = .ok (.aload_n 0, 1) := by decide +kernel
theorem dX9_either_27 : decode cX9_either 27 = .ok (.invokevirtual 246, 3) := by decide +kernel
theorem dX9_either_30 : decode cX9_either 30 = .ok (.istore_n 2, 1) := by decide +kernel
theorem dX9_either_31 : decode cX9_either 31 = .ok (.iload_n 1, 1) := by decide +kernel
theorem dX9_either_32 : decode cX9_either 32 = .ok (.ifCond .ne 7, 3) := by decide +kernel
theorem dX9_either_35 : decode cX9_either 35 = .ok (.iload_n 2, 1) := by decide +kernel
theorem dX9_either_36 : decode cX9_either 36 = .ok (.ifCond .eq 7, 3) := by decide +kernel
theorem dX9_either_39 : decode cX9_either 39 = .ok (.iconst 1, 1) := by decide +kernel
theorem dX9_either_40 : decode cX9_either 40 = .ok (.goto 4, 3) := by decide +kernel
theorem dX9_either_43 : decode cX9_either 43 = .ok (.iconst 0, 1) := by decide +kernel
theorem dX9_either_44 : decode cX9_either 44 = .ok (.istore_n 1, 1) := by decide +kernel
theorem dX9_either_45 : decode cX9_either 45 = .ok (.goto (-40), 3) := by decide +kernel
theorem dX9_either_48 : decode cX9_either 48 = .ok (.iload_n 1, 1) := by decide +kernel
theorem dX9_either_49 : decode cX9_either 49 = .ok (.ireturn, 1) := by decide +kernel
theorem dX9_part_0 : decode cX9_part 0 = .ok (.iload_n 1, 1) := by decide +kernel
theorem dX9_part_1 : decode cX9_part 1 = .ok (.ifCond .ne 7, 3) := by decide +kernel
theorem dX9_part_4 : decode cX9_part 4 = .ok (.aload_n 0, 1) := by decide +kernel
theorem dX9_part_5 : decode cX9_part 5 = .ok (.invokevirtual 188, 3) := by decide +kernel
theorem dX9_part_8 : decode cX9_part 8 = .ok (.aload_n 0, 1) := by decide +kernel
theorem dX9_part_9 : decode cX9_part 9 = .ok (.getfield 174, 3) := by decide +kernel
theorem dX9_part_12 : decode cX9_part 12 = .ok (.ifCond .ne 7, 3) := by decide +kernel
theorem dX9_part_15 : decode cX9_part 15 = .ok (.aload_n 0, 1) := by decide +kernel
theorem dX9_part_16 : decode cX9_part 16 = .ok (.invokevirtual 191, 3) := by decide +kernel
theorem dX9_part_19 : decode cX9_part 19 = .ok (.aload_n 0, 1) := by decide +kernel
theorem dX9_part_20 : decode cX9_part 20 = .ok (.getfield 174, 3) := by decide +kernel
theorem dX9_part_23 : decode cX9_part 23 = .ok (.ifCond .eq 7, 3) := by decide +kernel
theorem dX9_part_26 : decode cX9_part 26 = .ok (.iconst 0, 1) := by decide +kernel
theorem dX9_part_27 : decode cX9_part 27 = .ok (.goto 7, 3) := by decide +kernel
theorem dX9_part_30 : decode cX9_part 30 = .ok (.aload_n 0, 1) := by decide +kernel
theorem dX9_part_31 : decode cX9_part 31 = .ok (.invokevirtual 227, 3) := by decide +kernel
theorem dX9_part_34 : decode cX9_part 34 = .ok (.istore_n 2, 1) := by decide +kernel
theorem dX9_part_35 : decode cX9_part 35 = .ok (.aload_n 0, 1) := by decide +kernel
theorem dX9_part_36 : decode cX9_part 36 = .ok (.bipush 59, 2) := by decide +kernel
theorem dX9_part_38 : decode cX9_part 38 = .ok (.invokevirtual 216, 3) := by decide +kernel
theorem dX9_part_41 : decode cX9_part 41 = .ok (.ifCond .ne 7, 3) := by decide +kernel
theorem dX9_part_44 : decode cX9_part 44 = .ok (.aload_n 0, 1) := by decide +kernel
theorem dX9_part_45 : decode cX9_part 45 = .ok (.invokevirtual 188, 3) := by decide +kernel
theorem dX9_part_48 : decode cX9_part 48 = .ok (.aload_n 0, 1) := by decide +kernel
theorem dX9_part_49 : decode cX9_part 49 = .ok (.getfield 174, 3) := by decide +kernel
theorem dX9_part_52 : decode cX9_part 52 = .ok (.ifCond .ne 7, 3) := by decide +kernel
theorem dX9_part_55 : decode cX9_part 55 = .ok (.aload_n 0, 1) := by decide +kernel
theorem dX9_part_56 : decode cX9_part 56 = .ok (.invokevirtual 191, 3) := by decide +kernel
theorem dX9_part_59 : decode cX9_part 59 = .ok (.iload_n 2, 1) := by decide +kernel
theorem dX9_part_60 : decode cX9_part 60 = .ok (.ireturn, 1) := by decide +kernel
theorem dX9_read_0 : decode cX9_read 0 = .ok (.aload_n 0, 1) := by decide +kernel
theorem dX9_read_1 : decode cX9_read 1 = .ok (.sipush 160, 3) := by decide +kernel
theorem dX9_read_4 : decode cX9_read 4 = .ok (.iload_n 1, 1) := by decide +kernel
theorem dX9_read_5 : decode cX9_read 5 = .ok (.imul, 1) := by decide +kernel
theorem dX9_read_6 : decode cX9_read 6 = .ok (.putfield 145, 3) := by decide +kernel
theorem dX9_read_9 : decode cX9_read 9 = .ok (.aload_n 0, 1) := by decide +kernel
theorem dX9_read_10 : decode cX9_read 10 = .ok (.aload_n 0, 1) := by decide +kernel
theorem dX9_read_11 : decode cX9_read 11 = .ok (.getfield 17, 3) := by decide +kernel
theorem dX9_read_14 : decode cX9_read 14 = .ok (.iload_n 1, 1) := by decide +kernel
theorem dX9_read_15 : decode cX9_read 15 = .ok (.iaload, 1) := by decide +kernel
theorem dX9_read_16 : decode cX9_read 16 = .ok (.putfield 142, 3) := by decide +kernel
theorem dX9_read_19 : decode cX9_read 19 = .ok (.aload_n 0, 1) := by decide +kernel
theorem dX9_read_20 : decode cX9_read 20 = .ok (.iconst 0, 1) := by decide +kernel
theorem dX9_read_21 : decode cX9_read 21 = .ok (.putfield 148, 3) := by decide +kernel
theorem dX9_read_24 : decode cX9_read 24 = .ok (.aload_n 0, 1) := by decide +kernel
theorem dX9_read_25 : decode cX9_read 25 = .ok (.iconst 0, 1) := by decide +kernel
theorem dX9_read_26 : decode cX9_read 26 = .ok (.putfield 185, 3) := by decide +kernel
theorem dX9_read_29 : decode cX9_read 29 = .ok (.aload_n 0, 1) := by decide +kernel
theorem dX9_read_30 : decode cX9_read 30 = .ok (.iconst 0, 1) := by decide +kernel
theorem dX9_read_31 : decode cX9_read 31 = .ok (.putfield 174, 3) := by decide +kernel
theorem dX9_read_34 : decode cX9_read 34 = .ok (.aload_n 0, 1) := by decide +kernel
theorem dX9_read_35 : decode cX9_read 35 = .ok (.invokevirtual 191, 3) := by decide +kernel
theorem dX9_read_38 : decode cX9_read 38 = .ok (.aload_n 0, 1) := by decide +kernel
theorem dX9_read_39 : decode cX9_read 39 = .ok (.aload_n 0, 1) := by decide +kernel
theorem dX9_read_40 : decode cX9_read 40 = .ok (.bipush 99, 2) := by decide +kernel
theorem dX9_read_42 : decode cX9_read 42 = .ok (.bipush 111, 2) := by decide +kernel
theorem dX9_read_44 : decode cX9_read 44 = .ok (.bipush 115, 2) := by decide +kernel
theorem dX9_read_46 : decode cX9_read 46 = .ok (.bipush 116, 2) := by decide +kernel
theorem dX9_read_48 : decode cX9_read 48 = .ok (.bipush 115, 2) := by decide +kernel
theorem dX9_read_50 : decode cX9_read 50 = .ok (.iconst 0, 1) := by decide +kernel
theorem dX9_read_51 : decode cX9_read 51 = .ok (.iconst 0, 1) := by decide +kernel
theorem dX9_read_52 : decode cX9_read 52 = .ok (.iconst 0, 1) := by decide +kernel
theorem dX9_read_53 : decode cX9_read 53 = .ok (.invokevirtual 194, 3) := by decide +kernel
theorem dX9_read_56 : decode cX9_read 56 = .ok (.invokevirtual 249, 3) := by decide +kernel
theorem dX9_read_59 : decode cX9_read 59 = .ok (.istore_n 3, 1) := by decide +kernel
theorem dX9_read_60 : decode cX9_read 60 = .ok (.aload_n 0, 1) := by decide +kernel
theorem dX9_read_61 : decode cX9_read 61 = .ok (.getfield 174, 3) := by decide +kernel
theorem dX9_read_64 : decode cX9_read 64 = .ok (.ifCond .eq 7, 3) := by decide +kernel
theorem dX9_read_67 : decode cX9_read 67 = .ok (.iconst 0, 1) := by decide +kernel
theorem dX9_read_68 : decode cX9_read 68 = .ok (.goto 23, 3) := by decide +kernel
theorem dX9_read_71 : decode cX9_read 71 = .ok (.aload_n 0, 1) := by decide +kernel
theorem dX9_read_72 : decode cX9_read 72 = .ok (.aload_n 0, 1) := by decide +kernel
theorem dX9_read_73 : decode cX9_read 73 = .ok (.bipush 119, 2) := by decide +kernel
theorem dX9_read_75 : decode cX9_read 75 = .ok (.bipush 101, 2) := by decide +kernel
theorem dX9_read_77 : decode cX9_read 77 = .ok (.bipush 116, 2) := by decide +kernel
theorem dX9_read_79 : decode cX9_read 79 = .ok (.bipush 115, 2) := by decide +kernel
theorem dX9_read_81 : decode cX9_read 81 = .ok (.iconst 0, 1) := by decide +kernel
theorem dX9_read_82 : decode cX9_read 82 = .ok (.iconst 0, 1) := by decide +kernel
theorem dX9_read_83 : decode cX9_read 83 = .ok (.iconst 0, 1) := by decide +kernel
theorem dX9_read_84 : decode cX9_read 84 = .ok (.iconst 0, 1) := by decide +kernel
theorem dX9_read_85 : decode cX9_read 85 = .ok (.invokevirtual 194, 3) := by decide +kernel
theorem dX9_read_88 : decode cX9_read 88 = .ok (.invokevirtual 249, 3) := by decide +kernel
theorem dX9_read_91 : decode cX9_read 91 = .ok (.istore 4, 2) := by decide +kernel
theorem dX9_read_93 : decode cX9_read 93 = .ok (.aload_n 0, 1) := by decide +kernel
theorem dX9_read_94 : decode cX9_read 94 = .ok (.getfield 174, 3) := by decide +kernel
theorem dX9_read_97 : decode cX9_read 97 = .ok (.ifCond .eq 7, 3) := by decide +kernel
theorem dX9_read_100 : decode cX9_read 100 = .ok (.iconst 0, 1) := by decide +kernel
theorem dX9_read_101 : decode cX9_read 101 = .ok (.goto 24, 3) := by decide +kernel
theorem dX9_read_104 : decode cX9_read 104 = .ok (.aload_n 0, 1) := by decide +kernel
theorem dX9_read_105 : decode cX9_read 105 = .ok (.aload_n 0, 1) := by decide +kernel
theorem dX9_read_106 : decode cX9_read 106 = .ok (.bipush 112, 2) := by decide +kernel
theorem dX9_read_108 : decode cX9_read 108 = .ok (.bipush 114, 2) := by decide +kernel
theorem dX9_read_110 : decode cX9_read 110 = .ok (.bipush 105, 2) := by decide +kernel
theorem dX9_read_112 : decode cX9_read 112 = .ok (.bipush 99, 2) := by decide +kernel
theorem dX9_read_114 : decode cX9_read 114 = .ok (.bipush 101, 2) := by decide +kernel
theorem dX9_read_116 : decode cX9_read 116 = .ok (.iconst 0, 1) := by decide +kernel
theorem dX9_read_117 : decode cX9_read 117 = .ok (.iconst 0, 1) := by decide +kernel
theorem dX9_read_118 : decode cX9_read 118 = .ok (.iconst 0, 1) := by decide +kernel
theorem dX9_read_119 : decode cX9_read 119 = .ok (.invokevirtual 194, 3) := by decide +kernel
theorem dX9_read_122 : decode cX9_read 122 = .ok (.invokevirtual 249, 3) := by decide +kernel
theorem dX9_read_125 : decode cX9_read 125 = .ok (.istore 5, 2) := by decide +kernel
theorem dX9_read_127 : decode cX9_read 127 = .ok (.aload_n 0, 1) := by decide +kernel
theorem dX9_read_128 : decode cX9_read 128 = .ok (.getfield 174, 3) := by decide +kernel
theorem dX9_read_131 : decode cX9_read 131 = .ok (.ifCond .ne 14, 3) := by decide +kernel
theorem dX9_read_134 : decode cX9_read 134 = .ok (.aload_n 0, 1) := by decide +kernel
theorem dX9_read_135 : decode cX9_read 135 = .ok (.getfield 157, 3) := by decide +kernel
theorem dX9_read_138 : decode cX9_read 138 = .ok (.ifCond .eq 7, 3) := by decide +kernel
theorem dX9_read_141 : decode cX9_read 141 = .ok (.aload_n 0, 1) := by decide +kernel
theorem dX9_read_142 : decode cX9_read 142 = .ok (.invokevirtual 188, 3) := by decide +kernel
theorem dX9_read_145 : decode cX9_read 145 = .ok (.iload_n 2, 1) := by decide +kernel
theorem dX9_read_146 : decode cX9_read 146 = .ok (.ifCond .ne 7, 3) := by decide +kernel
theorem dX9_read_149 : decode cX9_read 149 = .ok (.iload_n 3, 1) := by decide +kernel
theorem dX9_read_150 : decode cX9_read 150 = .ok (.goto 15, 3) := by decide +kernel
theorem dX9_read_153 : decode cX9_read 153 = .ok (.iload_n 2, 1) := by decide +kernel
theorem dX9_read_154 : decode cX9_read 154 = .ok (.iconst 1, 1) := by decide +kernel
theorem dX9_read_155 : decode cX9_read 155 = .ok (.if_icmp .ne 8, 3) := by decide +kernel
theorem dX9_read_158 : decode cX9_read 158 = .ok (.iload 4, 2) := by decide +kernel
theorem dX9_read_160 : decode cX9_read 160 = .ok (.goto 5, 3) := by decide +kernel
theorem dX9_read_163 : decode cX9_read 163 = .ok (.iload 5, 2) := by decide +kernel
theorem dX9_read_165 : decode cX9_read 165 = .ok (.ireturn, 1) := by decide +kernel
theorem dX9_text_0 : decode cX9_text 0 = .ok (.aload_n 0, 1) := by decide +kernel
theorem dX9_text_1 : decode cX9_text 1 = .ok (.getfield 79, 3) := by decide +kernel
theorem dX9_text_4 : decode cX9_text 4 = .ok (.bipush 6, 2) := by decide +kernel
theorem dX9_text_6 : decode cX9_text 6 = .ok (.if_icmp .ne 6, 3) := by decide +kernel
theorem dX9_text_9 : decode cX9_text 9 = .ok (.bipush (-4), 2) := by decide +kernel
theorem dX9_text_11 : decode cX9_text 11 = .ok (.ireturn, 1) := by decide +kernel
theorem dX9_text_12 : decode cX9_text 12 = .ok (.iconst 0, 1) := by decide +kernel
theorem dX9_text_13 : decode cX9_text 13 = .ok (.istore_n 1, 1) := by decide +kernel
theorem dX9_text_14 : decode cX9_text 14 = .ok (.iload_n 1, 1) := by decide +kernel
theorem dX9_text_15 : decode cX9_text 15 = .ok (.aload_n 0, 1) := by decide +kernel
theorem dX9_text_16 : decode cX9_text 16 = .ok (.getfield 139, 3) := by decide +kernel
theorem dX9_text_19 : decode cX9_text 19 = .ok (.if_icmp .ge 30, 3) := by decide +kernel
theorem dX9_text_22 : decode cX9_text 22 = .ok (.aload_n 0, 1) := by decide +kernel
theorem dX9_text_23 : decode cX9_text 23 = .ok (.getfield 13, 3) := by decide +kernel
theorem dX9_text_26 : decode cX9_text 26 = .ok (.sipush 160, 3) := by decide +kernel
theorem dX9_text_29 : decode cX9_text 29 = .ok (.aload_n 0, 1) := by decide +kernel
theorem dX9_text_30 : decode cX9_text 30 = .ok (.getfield 79, 3) := by decide +kernel
theorem dX9_text_33 : decode cX9_text 33 = .ok (.imul, 1) := by decide +kernel
theorem dX9_text_34 : decode cX9_text 34 = .ok (.iload_n 1, 1) := by decide +kernel
theorem dX9_text_35 : decode cX9_text 35 = .ok (.iadd, 1) := by decide +kernel
theorem dX9_text_36 : decode cX9_text 36 = .ok (.aload_n 0, 1) := by decide +kernel
theorem dX9_text_37 : decode cX9_text 37 = .ok (.getfield 20, 3) := by decide +kernel
theorem dX9_text_40 : decode cX9_text 40 = .ok (.iload_n 1, 1) := by decide +kernel
theorem dX9_text_41 : decode cX9_text 41 = .ok (.iaload, 1) := by decide +kernel
theorem dX9_text_42 : decode cX9_text 42 = .ok (.iastore, 1) := by decide +kernel
theorem dX9_text_43 : decode cX9_text 43 = .ok (.iinc 1 1, 3) := by decide +kernel
theorem dX9_text_46 : decode cX9_text 46 = .ok (.goto (-32), 3) := by decide +kernel
theorem dX9_text_49 : decode cX9_text 49 = .ok (.aload_n 0, 1) := by decide +kernel
theorem dX9_text_50 : decode cX9_text 50 = .ok (.getfield 17, 3) := by decide +kernel
theorem dX9_text_53 : decode cX9_text 53 = .ok (.aload_n 0, 1) := by decide +kernel
theorem dX9_text_54 : decode cX9_text 54 = .ok (.getfield 79, 3) := by decide +kernel
theorem dX9_text_57 : decode cX9_text 57 = .ok (.aload_n 0, 1) := by decide +kernel
theorem dX9_text_58 : decode cX9_text 58 = .ok (.getfield 139, 3) := by decide +kernel
theorem dX9_text_61 : decode cX9_text 61 = .ok (.iastore, 1) := by decide +kernel
theorem dX9_text_62 : decode cX9_text 62 = .ok (.aload_n 0, 1) := by decide +kernel
theorem dX9_text_63 : decode cX9_text 63 = .ok (.iconst 0, 1) := by decide +kernel
theorem dX9_text_64 : decode cX9_text 64 = .ok (.putfield 139, 3) := by decide +kernel
theorem dX9_text_67 : decode cX9_text 67 = .ok (.aload_n 0, 1) := by decide +kernel
theorem dX9_text_68 : decode cX9_text 68 = .ok (.aload_n 0, 1) := by decide +kernel
theorem dX9_text_69 : decode cX9_text 69 = .ok (.getfield 79, 3) := by decide +kernel
theorem dX9_text_72 : decode cX9_text 72 = .ok (.iconst 0, 1) := by decide +kernel
theorem dX9_text_73 : decode cX9_text 73 = .ok (.invokevirtual 253, 3) := by decide +kernel
theorem dX9_text_76 : decode cX9_text 76 = .ok (.istore_n 1, 1) := by decide +kernel
theorem dX9_text_77 : decode cX9_text 77 = .ok (.aload_n 0, 1) := by decide +kernel
theorem dX9_text_78 : decode cX9_text 78 = .ok (.getfield 174, 3) := by decide +kernel
theorem dX9_text_81 : decode cX9_text 81 = .ok (.ifCond .eq 11, 3) := by decide +kernel
theorem dX9_text_84 : decode cX9_text 84 = .ok (.bipush (-100), 2) := by decide +kernel
theorem dX9_text_86 : decode cX9_text 86 = .ok (.aload_n 0, 1) := by decide +kernel
theorem dX9_text_87 : decode cX9_text 87 = .ok (.getfield 178, 3) := by decide +kernel
theorem dX9_text_90 : decode cX9_text 90 = .ok (.isub, 1) := by decide +kernel
theorem dX9_text_91 : decode cX9_text 91 = .ok (.ireturn, 1) := by decide +kernel
theorem dX9_text_92 : decode cX9_text 92 = .ok (.aload_n 0, 1) := by decide +kernel
theorem dX9_text_93 : decode cX9_text 93 = .ok (.dup, 1) := by decide +kernel
theorem dX9_text_94 : decode cX9_text 94 = .ok (.getfield 79, 3) := by decide +kernel
theorem dX9_text_97 : decode cX9_text 97 = .ok (.iconst 1, 1) := by decide +kernel
theorem dX9_text_98 : decode cX9_text 98 = .ok (.iadd, 1) := by decide +kernel
theorem dX9_text_99 : decode cX9_text 99 = .ok (.putfield 79, 3) := by decide +kernel
theorem dX9_text_102 : decode cX9_text 102 = .ok (.aload_n 0, 1) := by decide +kernel
theorem dX9_text_103 : decode cX9_text 103 = .ok (.getfield 79, 3) := by decide +kernel
theorem dX9_text_106 : decode cX9_text 106 = .ok (.iconst 1, 1) := by decide +kernel
theorem dX9_text_107 : decode cX9_text 107 = .ok (.isub, 1) := by decide +kernel
theorem dX9_text_108 : decode cX9_text 108 = .ok (.ireturn, 1) := by decide +kernel
theorem dX9_force_0 : decode cX9_force 0 = .ok (.iload_n 1, 1) := by decide +kernel
theorem dX9_force_1 : decode cX9_force 1 = .ok (.i2l, 1) := by decide +kernel
theorem dX9_force_2 : decode cX9_force 2 = .ok (.lconst 0, 1) := by decide +kernel
theorem dX9_force_3 : decode cX9_force 3 = .ok (.aload_n 0, 1) := by decide +kernel
theorem dX9_force_4 : decode cX9_force 4 = .ok (.getfield 79, 3) := by decide +kernel
theorem dX9_force_7 : decode cX9_force 7 = .ok (.iconst 1, 1) := by decide +kernel
theorem dX9_force_8 : decode cX9_force 8 = .ok (.isub, 1) := by decide +kernel
theorem dX9_force_9 : decode cX9_force 9 = .ok (.i2l, 1) := by decide +kernel
theorem dX9_force_10 : decode cX9_force 10 = .ok (.invokestatic 85, 3) := by decide +kernel
theorem dX9_force_13 : decode cX9_force 13 = .ok (.ifCond .ne 6, 3) := by decide +kernel
theorem dX9_force_16 : decode cX9_force 16 = .ok (.bipush (-2), 2) := by decide +kernel
theorem dX9_force_18 : decode cX9_force 18 = .ok (.ireturn, 1) := by decide +kernel
theorem dX9_force_19 : decode cX9_force 19 = .ok (.aload_n 0, 1) := by decide +kernel
theorem dX9_force_20 : decode cX9_force 20 = .ok (.getfield 256, 3) := by decide +kernel
theorem dX9_force_23 : decode cX9_force 23 = .ok (.istore_n 2, 1) := by decide +kernel
theorem dX9_force_24 : decode cX9_force 24 = .ok (.aload_n 0, 1) := by decide +kernel
theorem dX9_force_25 : decode cX9_force 25 = .ok (.iload_n 1, 1) := by decide +kernel
theorem dX9_force_26 : decode cX9_force 26 = .ok (.putfield 256, 3) := by decide +kernel
theorem dX9_force_29 : decode cX9_force 29 = .ok (.iload_n 2, 1) := by decide +kernel
theorem dX9_force_30 : decode cX9_force 30 = .ok (.ireturn, 1) := by decide +kernel
theorem dX9_says_0 : decode cX9_says 0 = .ok (.aload_n 0, 1) := by decide +kernel
theorem dX9_says_1 : decode cX9_says 1 = .ok (.iload_n 2, 1) := by decide +kernel
theorem dX9_says_2 : decode cX9_says 2 = .ok (.iload_n 3, 1) := by decide +kernel
theorem dX9_says_3 : decode cX9_says 3 = .ok (.invokevirtual 127, 3) := by decide +kernel
theorem dX9_says_6 : decode cX9_says 6 = .ok (.istore 4, 2) := by decide +kernel
theorem dX9_says_8 : decode cX9_says 8 = .ok (.aload_n 0, 1) := by decide +kernel
theorem dX9_says_9 : decode cX9_says 9 = .ok (.iload_n 3, 1) := by decide +kernel
theorem dX9_says_10 : decode cX9_says 10 = .ok (.putfield 198, 3) := by decide +kernel
theorem dX9_says_13 : decode cX9_says 13 = .ok (.aload_n 0, 1) := by decide +kernel
theorem dX9_says_14 : decode cX9_says 14 = .ok (.aload_n 0, 1) := by decide +kernel
theorem dX9_says_15 : decode cX9_says 15 = .ok (.getfield 32, 3) := by decide +kernel
theorem dX9_says_18 : decode cX9_says 18 = .ok (.iload_n 2, 1) := by decide +kernel
theorem dX9_says_19 : decode cX9_says 19 = .ok (.iaload, 1) := by decide +kernel
theorem dX9_says_20 : decode cX9_says 20 = .ok (.putfield 201, 3) := by decide +kernel
theorem dX9_says_23 : decode cX9_says 23 = .ok (.aload_n 0, 1) := by decide +kernel
theorem dX9_says_24 : decode cX9_says 24 = .ok (.aload_n 0, 1) := by decide +kernel
theorem dX9_says_25 : decode cX9_says 25 = .ok (.getfield 29, 3) := by decide +kernel
theorem dX9_says_28 : decode cX9_says 28 = .ok (.iload_n 2, 1) := by decide +kernel
theorem dX9_says_29 : decode cX9_says 29 = .ok (.iaload, 1) := by decide +kernel
theorem dX9_says_30 : decode cX9_says 30 = .ok (.putfield 204, 3) := by decide +kernel
theorem dX9_says_33 : decode cX9_says 33 = .ok (.aload_n 0, 1) := by decide +kernel
theorem dX9_says_34 : decode cX9_says 34 = .ok (.iload 4, 2) := by decide +kernel
theorem dX9_says_36 : decode cX9_says 36 = .ok (.invokestatic 99, 3) := by decide +kernel
theorem dX9_says_39 : decode cX9_says 39 = .ok (.ifCond .eq 13, 3) := by decide +kernel
theorem dX9_says_42 : decode cX9_says 42 = .ok (.aload_n 0, 1) := by decide +kernel
theorem dX9_says_43 : decode cX9_says 43 = .ok (.getfield 23, 3) := by decide +kernel
theorem dX9_says_46 : decode cX9_says 46 = .ok (.iload 4, 2) := by decide +kernel
theorem dX9_says_48 : decode cX9_says 48 = .ok (.iaload, 1) := by decide +kernel
theorem dX9_says_49 : decode cX9_says 49 = .ok (.goto 4, 3) := by decide +kernel
theorem dX9_says_52 : decode cX9_says 52 = .ok (.iconst 0, 1) := by decide +kernel
theorem dX9_says_53 : decode cX9_says 53 = .ok (.putfield 207, 3) := by decide +kernel
theorem dX9_says_56 : decode cX9_says 56 = .ok (.aload_n 0, 1) := by decide +kernel
theorem dX9_says_57 : decode cX9_says 57 = .ok (.iload_n 2, 1) := by decide +kernel
theorem dX9_says_58 : decode cX9_says 58 = .ok (.putfield 210, 3) := by decide +kernel
theorem dX9_says_61 : decode cX9_says 61 = .ok (.aload_n 0, 1) := by decide +kernel
theorem dX9_says_62 : decode cX9_says 62 = .ok (.aload_n 0, 1) := by decide +kernel
theorem dX9_says_63 : decode cX9_says 63 = .ok (.getfield 35, 3) := by decide +kernel
theorem dX9_says_66 : decode cX9_says 66 = .ok (.iload_n 2, 1) := by decide +kernel
theorem dX9_says_67 : decode cX9_says 67 = .ok (.iaload, 1) := by decide +kernel
theorem dX9_says_68 : decode cX9_says 68 = .ok (.putfield 213, 3) := by decide +kernel
theorem dX9_says_71 : decode cX9_says 71 = .ok (.aload_n 0, 1) := by decide +kernel
theorem dX9_says_72 : decode cX9_says 72 = .ok (.aload_n 0, 1) := by decide +kernel
theorem dX9_says_73 : decode cX9_says 73 = .ok (.getfield 256, 3) := by decide +kernel
theorem dX9_says_76 : decode cX9_says 76 = .ok (.iload_n 1, 1) := by decide +kernel
theorem dX9_says_77 : decode cX9_says 77 = .ok (.invokevirtual 253, 3) := by decide +kernel
theorem dX9_says_80 : decode cX9_says 80 = .ok (.iload_n 1, 1) := by decide +kernel
theorem dX9_says_81 : decode cX9_says 81 = .ok (.ifCond .ne 7, 3) := by decide +kernel
theorem dX9_says_84 : decode cX9_says 84 = .ok (.iconst 1, 1) := by decide +kernel
theorem dX9_says_85 : decode cX9_says 85 = .ok (.goto 4, 3) := by decide +kernel
theorem dX9_says_88 : decode cX9_says 88 = .ok (.iconst 0, 1) := by decide +kernel
theorem dX9_says_89 : decode cX9_says 89 = .ok (.bipush 99, 2) := by decide +kernel
theorem dX9_says_91 : decode cX9_says 91 = .ok (.invokestatic 259, 3) := by decide +kernel
theorem dX9_says_94 : decode cX9_says 94 = .ok (.ireturn, 1) := by decide +kernel
theorem dX9_spreads_0 : decode cX9_spreads 0 = .ok (.iconst 0, 1) := by decide +kernel
theorem dX9_spreads_1 : decode cX9_spreads 1 = .ok (.istore 4, 2) := by decide +kernel
theorem dX9_spreads_3 : decode cX9_spreads 3 = .ok (.iload 4, 2) := by decide +kernel
theorem dX9_spreads_5 : decode cX9_spreads 5 = .ok (.aload_n 0, 1) := by decide +kernel
theorem dX9_spreads_6 : decode cX9_spreads 6 = .ok (.getfield 82, 3) := by decide +kernel
theorem dX9_spreads_9 : decode cX9_spreads 9 = .ok (.if_icmp .ge 51, 3) := by decide +kernel
theorem dX9_spreads_12 : decode cX9_spreads 12 = .ok (.iload_n 3, 1) := by decide +kernel
theorem dX9_spreads_13 : decode cX9_spreads 13 = .ok (.ifCond .eq 47, 3) := by decide +kernel
theorem dX9_spreads_16 : decode cX9_spreads 16 = .ok (.iconst 0, 1) := by decide +kernel
theorem dX9_spreads_17 : decode cX9_spreads 17 = .ok (.istore 5, 2) := by decide +kernel
theorem dX9_spreads_19 : decode cX9_spreads 19 = .ok (.iload 5, 2) := by decide +kernel
theorem dX9_spreads_21 : decode cX9_spreads 21 = .ok (.bipush 32, 2) := by decide +kernel
theorem dX9_spreads_23 : decode cX9_spreads 23 = .ok (.if_icmp .ge 31, 3) := by decide +kernel
theorem dX9_spreads_26 : decode cX9_spreads 26 = .ok (.aload_n 0, 1) := by decide +kernel
theorem dX9_spreads_27 : decode cX9_spreads 27 = .ok (.getfield 44, 3) := by decide +kernel
theorem dX9_spreads_30 : decode cX9_spreads 30 = .ok (.bipush 32, 2) := by decide +kernel
theorem dX9_spreads_32 : decode cX9_spreads 32 = .ok (.iload 4, 2) := by decide +kernel
theorem dX9_spreads_34 : decode cX9_spreads 34 = .ok (.imul, 1) := by decide +kernel
theorem dX9_spreads_35 : decode cX9_spreads 35 = .ok (.iload 5, 2) := by decide +kernel
theorem dX9_spreads_37 : decode cX9_spreads 37 = .ok (.iadd, 1) := by decide +kernel
theorem dX9_spreads_38 : decode cX9_spreads 38 = .ok (.aload_n 0, 1) := by decide +kernel
theorem dX9_spreads_39 : decode cX9_spreads 39 = .ok (.iconst 0, 1) := by decide +kernel
theorem dX9_spreads_40 : decode cX9_spreads 40 = .ok (.iload 4, 2) := by decide +kernel
theorem dX9_spreads_42 : decode cX9_spreads 42 = .ok (.iload 5, 2) := by decide +kernel
theorem dX9_spreads_44 : decode cX9_spreads 44 = .ok (.invokevirtual 263, 3) := by decide +kernel
theorem dX9_spreads_47 : decode cX9_spreads 47 = .ok (.iastore, 1) := by decide +kernel
theorem dX9_spreads_48 : decode cX9_spreads 48 = .ok (.iinc 5 1, 3) := by decide +kernel
theorem dX9_spreads_51 : decode cX9_spreads 51 = .ok (.goto (-32), 3) := by decide +kernel
theorem dX9_spreads_54 : decode cX9_spreads 54 = .ok (.iinc 4 1, 3) := by decide +kernel
theorem dX9_spreads_57 : decode cX9_spreads 57 = .ok (.goto (-54), 3) := by decide +kernel
theorem dX9_spreads_60 : decode cX9_spreads 60 = .ok (.iconst 0, 1) := by decide +kernel
theorem dX9_spreads_61 : decode cX9_spreads 61 = .ok (.istore 4, 2) := by decide +kernel
theorem dX9_spreads_63 : decode cX9_spreads 63 = .ok (.iload 4, 2) := by decide +kernel
theorem dX9_spreads_65 : decode cX9_spreads 65 = .ok (.sipush 192, 3) := by decide +kernel
theorem dX9_spreads_68 : decode cX9_spreads 68 = .ok (.if_icmp .ge 19, 3) := by decide +kernel
theorem dX9_spreads_71 : decode cX9_spreads 71 = .ok (.aload_n 0, 1) := by decide +kernel
theorem dX9_spreads_72 : decode cX9_spreads 72 = .ok (.getfield 41, 3) := by decide +kernel
theorem dX9_spreads_75 : decode cX9_spreads 75 = .ok (.iload 4, 2) := by decide +kernel
theorem dX9_spreads_77 : decode cX9_spreads 77 = .ok (.ldc_w 266, 3) := by decide +kernel
theorem dX9_spreads_80 : decode cX9_spreads 80 = .ok (.iastore, 1) := by decide +kernel
theorem dX9_spreads_81 : decode cX9_spreads 81 = .ok (.iinc 4 1, 3) := by decide +kernel
theorem dX9_spreads_84 : decode cX9_spreads 84 = .ok (.goto (-21), 3) := by decide +kernel
theorem dX9_spreads_87 : decode cX9_spreads 87 = .ok (.aload_n 0, 1) := by decide +kernel
theorem dX9_spreads_88 : decode cX9_spreads 88 = .ok (.getfield 41, 3) := by decide +kernel
theorem dX9_spreads_91 : decode cX9_spreads 91 = .ok (.iload_n 1, 1) := by decide +kernel
theorem dX9_spreads_92 : decode cX9_spreads 92 = .ok (.iconst 0, 1) := by decide +kernel
theorem dX9_spreads_93 : decode cX9_spreads 93 = .ok (.iastore, 1) := by decide +kernel
theorem dX9_spreads_94 : decode cX9_spreads 94 = .ok (.iconst 1, 1) := by decide +kernel
theorem dX9_spreads_95 : decode cX9_spreads 95 = .ok (.istore 4, 2) := by decide +kernel
theorem dX9_spreads_97 : decode cX9_spreads 97 = .ok (.iload 4, 2) := by decide +kernel
theorem dX9_spreads_99 : decode cX9_spreads 99 = .ok (.ifCond .eq 53, 3) := by decide +kernel
theorem dX9_spreads_102 : decode cX9_spreads 102 = .ok (.iconst 0, 1) := by decide +kernel
theorem dX9_spreads_103 : decode cX9_spreads 103 = .ok (.istore 4, 2) := by decide +kernel
theorem dX9_spreads_105 : decode cX9_spreads 105 = .ok (.iconst 0, 1) := by decide +kernel
theorem dX9_spreads_106 : decode cX9_spreads 106 = .ok (.istore 5, 2) := by decide +kernel
theorem dX9_spreads_108 : decode cX9_spreads 108 = .ok (.iload 5, 2) := by decide +kernel
theorem dX9_spreads_110 : decode cX9_spreads 110 = .ok (.sipush 192, 3) := by decide +kernel
theorem dX9_spreads_113 : decode cX9_spreads 113 = .ok (.if_icmp .ge 36, 3) := by decide +kernel
theorem dX9_spreads_116 : decode cX9_spreads 116 = .ok (.aload_n 0, 1) := by decide +kernel
theorem dX9_spreads_117 : decode cX9_spreads 117 = .ok (.getfield 41, 3) := by decide +kernel
theorem dX9_spreads_120 : decode cX9_spreads 120 = .ok (.iload 5, 2) := by decide +kernel
theorem dX9_spreads_122 : decode cX9_spreads 122 = .ok (.iaload, 1) := by decide +kernel
theorem dX9_spreads_123 : decode cX9_spreads 123 = .ok (.ldc_w 266, 3) := by decide +kernel
theorem dX9_spreads_126 : decode cX9_spreads 126 = .ok (.if_icmp .ge 17, 3) := by decide +kernel
theorem dX9_spreads_129 : decode cX9_spreads 129 = .ok (.aload_n 0, 1) := by decide +kernel
theorem dX9_spreads_130 : decode cX9_spreads 130 = .ok (.iload 5, 2) := by decide +kernel
theorem dX9_spreads_132 : decode cX9_spreads 132 = .ok (.iload_n 2, 1) := by decide +kernel
theorem dX9_spreads_133 : decode cX9_spreads 133 = .ok (.iload_n 3, 1) := by decide +kernel
theorem dX9_spreads_134 : decode cX9_spreads 134 = .ok (.invokevirtual 267, 3) := by decide +kernel
theorem dX9_spreads_137 : decode cX9_spreads 137 = .ok (.ifCond .eq 6, 3) := by decide +kernel
theorem dX9_spreads_140 : decode cX9_spreads 140 = .ok (.iconst 1, 1) := by decide +kernel
theorem dX9_spreads_141 : decode cX9_spreads 141 = .ok (.istore 4, 2) := by decide +kernel
theorem dX9_spreads_143 : decode cX9_spreads 143 = .ok (.iinc 5 1, 3) := by decide +kernel
theorem dX9_spreads_146 : decode cX9_spreads 146 = .ok (.goto (-38), 3) := by decide +kernel
theorem dX9_spreads_149 : decode cX9_spreads 149 = .ok (.goto (-52), 3) := by decide +kernel
theorem dX9_spreads_152 : decode cX9_spreads 152 = .ok (.return_, 1) := by decide +kernel
theorem dX9_goesOn_0 : decode cX9_goesOn 0 = .ok (.iload_n 1, 1) := by decide +kernel
theorem dX9_goesOn_1 : decode cX9_goesOn 1 = .ok (.bipush 32, 2) := by decide +kernel
theorem dX9_goesOn_3 : decode cX9_goesOn 3 = .ok (.idiv, 1) := by decide +kernel
theorem dX9_goesOn_4 : decode cX9_goesOn 4 = .ok (.istore 4, 2) := by decide +kernel
theorem dX9_goesOn_6 : decode cX9_goesOn 6 = .ok (.iload_n 1, 1) := by decide +kernel
theorem dX9_goesOn_7 : decode cX9_goesOn 7 = .ok (.bipush 32, 2) := by decide +kernel
theorem dX9_goesOn_9 : decode cX9_goesOn 9 = .ok (.irem, 1) := by decide +kernel
theorem dX9_goesOn_10 : decode cX9_goesOn 10 = .ok (.istore 5, 2) := by decide +kernel
theorem dX9_goesOn_12 : decode cX9_goesOn 12 = .ok (.iload 5, 2) := by decide +kernel
theorem dX9_goesOn_14 : decode cX9_goesOn 14 = .ok (.bipush 31, 2) := by decide +kernel
theorem dX9_goesOn_16 : decode cX9_goesOn 16 = .ok (.if_icmp .ge 25, 3) := by decide +kernel
theorem dX9_goesOn_19 : decode cX9_goesOn 19 = .ok (.aload_n 0, 1) := by decide +kernel
theorem dX9_goesOn_20 : decode cX9_goesOn 20 = .ok (.iload_n 1, 1) := by decide +kernel
theorem dX9_goesOn_21 : decode cX9_goesOn 21 = .ok (.iconst 1, 1) := by decide +kernel
theorem dX9_goesOn_22 : decode cX9_goesOn 22 = .ok (.iadd, 1) := by decide +kernel
theorem dX9_goesOn_23 : decode cX9_goesOn 23 = .ok (.aload_n 0, 1) := by decide +kernel
theorem dX9_goesOn_24 : decode cX9_goesOn 24 = .ok (.getfield 41, 3) := by decide +kernel
theorem dX9_goesOn_27 : decode cX9_goesOn 27 = .ok (.iload_n 1, 1) := by decide +kernel
theorem dX9_goesOn_28 : decode cX9_goesOn 28 = .ok (.iaload, 1) := by decide +kernel
theorem dX9_goesOn_29 : decode cX9_goesOn 29 = .ok (.iconst 1, 1) := by decide +kernel
theorem dX9_goesOn_30 : decode cX9_goesOn 30 = .ok (.iadd, 1) := by decide +kernel
theorem dX9_goesOn_31 : decode cX9_goesOn 31 = .ok (.invokevirtual 271, 3) := by decide +kernel
theorem dX9_goesOn_34 : decode cX9_goesOn 34 = .ok (.ifCond .eq 7, 3) := by decide +kernel
theorem dX9_goesOn_37 : decode cX9_goesOn 37 = .ok (.iconst 1, 1) := by decide +kernel
theorem dX9_goesOn_38 : decode cX9_goesOn 38 = .ok (.goto 4, 3) := by decide +kernel
theorem dX9_goesOn_41 : decode cX9_goesOn 41 = .ok (.iconst 0, 1) := by decide +kernel
theorem dX9_goesOn_42 : decode cX9_goesOn 42 = .ok (.istore 6, 2) := by decide +kernel
theorem dX9_goesOn_44 : decode cX9_goesOn 44 = .ok (.iconst 0, 1) := by decide +kernel
theorem dX9_goesOn_45 : decode cX9_goesOn 45 = .ok (.istore 7, 2) := by decide +kernel
theorem dX9_goesOn_47 : decode cX9_goesOn 47 = .ok (.iload 7, 2) := by decide +kernel
theorem dX9_goesOn_49 : decode cX9_goesOn 49 = .ok (.aload_n 0, 1) := by decide +kernel
theorem dX9_goesOn_50 : decode cX9_goesOn 50 = .ok (.getfield 82, 3) := by decide +kernel
theorem dX9_goesOn_53 : decode cX9_goesOn 53 = .ok (.if_icmp .ge 112, 3) := by decide +kernel
theorem dX9_goesOn_56 : decode cX9_goesOn 56 = .ok (.aload_n 0, 1) := by decide +kernel
theorem dX9_goesOn_57 : decode cX9_goesOn 57 = .ok (.getfield 274, 3) := by decide +kernel
theorem dX9_goesOn_60 : decode cX9_goesOn 60 = .ok (.iload 7, 2) := by decide +kernel
theorem dX9_goesOn_62 : decode cX9_goesOn 62 = .ok (.ishr, 1) := by decide +kernel
theorem dX9_goesOn_63 : decode cX9_goesOn 63 = .ok (.iconst 1, 1) := by decide +kernel
theorem dX9_goesOn_64 : decode cX9_goesOn 64 = .ok (.iand, 1) := by decide +kernel
theorem dX9_goesOn_65 : decode cX9_goesOn 65 = .ok (.ifCond .ne 94, 3) := by decide +kernel
theorem dX9_goesOn_68 : decode cX9_goesOn 68 = .ok (.aload_n 0, 1) := by decide +kernel
theorem dX9_goesOn_69 : decode cX9_goesOn 69 = .ok (.getfield 35, 3) := by decide +kernel
theorem dX9_goesOn_72 : decode cX9_goesOn 72 = .ok (.iload 7, 2) := by decide +kernel
theorem dX9_goesOn_74 : decode cX9_goesOn 74 = .ok (.iaload, 1) := by decide +kernel
theorem dX9_goesOn_75 : decode cX9_goesOn 75 = .ok (.iload 4, 2) := by decide +kernel
theorem dX9_goesOn_77 : decode cX9_goesOn 77 = .ok (.if_icmp .ne 82, 3) := by decide +kernel
theorem dX9_goesOn_80 : decode cX9_goesOn 80 = .ok (.aload_n 0, 1) := by decide +kernel
theorem dX9_goesOn_81 : decode cX9_goesOn 81 = .ok (.iload 7, 2) := by decide +kernel
theorem dX9_goesOn_83 : decode cX9_goesOn 83 = .ok (.iload 5, 2) := by decide +kernel
theorem dX9_goesOn_85 : decode cX9_goesOn 85 = .ok (.iload_n 2, 1) := by decide +kernel
theorem dX9_goesOn_86 : decode cX9_goesOn 86 = .ok (.invokevirtual 133, 3) := by decide +kernel
theorem dX9_goesOn_89 : decode cX9_goesOn 89 = .ok (.ifCond .eq 70, 3) := by decide +kernel
theorem dX9_goesOn_92 : decode cX9_goesOn 92 = .ok (.aload_n 0, 1) := by decide +kernel
theorem dX9_goesOn_93 : decode cX9_goesOn 93 = .ok (.bipush 32, 2) := by decide +kernel
theorem dX9_goesOn_95 : decode cX9_goesOn 95 = .ok (.aload_n 0, 1) := by decide +kernel
theorem dX9_goesOn_96 : decode cX9_goesOn 96 = .ok (.iload 7, 2) := by decide +kernel
theorem dX9_goesOn_98 : decode cX9_goesOn 98 = .ok (.invokevirtual 123, 3) := by decide +kernel
theorem dX9_goesOn_101 : decode cX9_goesOn 101 = .ok (.imul, 1) := by decide +kernel
theorem dX9_goesOn_102 : decode cX9_goesOn 102 = .ok (.aload_n 0, 1) := by decide +kernel
theorem dX9_goesOn_103 : decode cX9_goesOn 103 = .ok (.iload 7, 2) := by decide +kernel
theorem dX9_goesOn_105 : decode cX9_goesOn 105 = .ok (.iload 5, 2) := by decide +kernel
theorem dX9_goesOn_107 : decode cX9_goesOn 107 = .ok (.invokevirtual 127, 3) := by decide +kernel
theorem dX9_goesOn_110 : decode cX9_goesOn 110 = .ok (.iadd, 1) := by decide +kernel
theorem dX9_goesOn_111 : decode cX9_goesOn 111 = .ok (.aload_n 0, 1) := by decide +kernel
theorem dX9_goesOn_112 : decode cX9_goesOn 112 = .ok (.getfield 41, 3) := by decide +kernel
theorem dX9_goesOn_115 : decode cX9_goesOn 115 = .ok (.iload_n 1, 1) := by decide +kernel
theorem dX9_goesOn_116 : decode cX9_goesOn 116 = .ok (.iaload, 1) := by decide +kernel
theorem dX9_goesOn_117 : decode cX9_goesOn 117 = .ok (.iload_n 3, 1) := by decide +kernel
theorem dX9_goesOn_118 : decode cX9_goesOn 118 = .ok (.ifCond .eq 19, 3) := by decide +kernel
theorem dX9_goesOn_121 : decode cX9_goesOn 121 = .ok (.aload_n 0, 1) := by decide +kernel
theorem dX9_goesOn_122 : decode cX9_goesOn 122 = .ok (.getfield 44, 3) := by decide +kernel
theorem dX9_goesOn_125 : decode cX9_goesOn 125 = .ok (.bipush 32, 2) := by decide +kernel
theorem dX9_goesOn_127 : decode cX9_goesOn 127 = .ok (.iload 7, 2) := by decide +kernel
theorem dX9_goesOn_129 : decode cX9_goesOn 129 = .ok (.imul, 1) := by decide +kernel
theorem dX9_goesOn_130 : decode cX9_goesOn 130 = .ok (.iload 5, 2) := by decide +kernel
theorem dX9_goesOn_132 : decode cX9_goesOn 132 = .ok (.iadd, 1) := by decide +kernel
theorem dX9_goesOn_133 : decode cX9_goesOn 133 = .ok (.iaload, 1) := by decide +kernel
theorem dX9_goesOn_134 : decode cX9_goesOn 134 = .ok (.goto 6, 3) := by decide +kernel
theorem dX9_goesOn_137 : decode cX9_goesOn 137 = .ok (.sipush 10000, 3) := by decide +kernel
theorem dX9_goesOn_140 : decode cX9_goesOn 140 = .ok (.iadd, 1) := by decide +kernel
theorem dX9_goesOn_141 : decode cX9_goesOn 141 = .ok (.invokevirtual 271, 3) := by decide +kernel
theorem dX9_goesOn_144 : decode cX9_goesOn 144 = .ok (.ifCond .ne 8, 3) := by decide +kernel
theorem dX9_goesOn_147 : decode cX9_goesOn 147 = .ok (.iload 6, 2) := by decide +kernel
theorem dX9_goesOn_149 : decode cX9_goesOn 149 = .ok (.ifCond .eq 7, 3) := by decide +kernel
theorem dX9_goesOn_152 : decode cX9_goesOn 152 = .ok (.iconst 1, 1) := by decide +kernel
theorem dX9_goesOn_153 : decode cX9_goesOn 153 = .ok (.goto 4, 3) := by decide +kernel
theorem dX9_goesOn_156 : decode cX9_goesOn 156 = .ok (.iconst 0, 1) := by decide +kernel
theorem dX9_goesOn_157 : decode cX9_goesOn 157 = .ok (.istore 6, 2) := by decide +kernel
theorem dX9_goesOn_159 : decode cX9_goesOn 159 = .ok (.iinc 7 1, 3) := by decide +kernel
theorem dX9_goesOn_162 : decode cX9_goesOn 162 = .ok (.goto (-115), 3) := by decide +kernel
theorem dX9_goesOn_165 : decode cX9_goesOn 165 = .ok (.iload 6, 2) := by decide +kernel
theorem dX9_goesOn_167 : decode cX9_goesOn 167 = .ok (.ireturn, 1) := by decide +kernel
theorem dX9_eases_0 : decode cX9_eases 0 = .ok (.iload_n 2, 1) := by decide +kernel
theorem dX9_eases_1 : decode cX9_eases 1 = .ok (.aload_n 0, 1) := by decide +kernel
theorem dX9_eases_2 : decode cX9_eases 2 = .ok (.getfield 41, 3) := by decide +kernel
theorem dX9_eases_5 : decode cX9_eases 5 = .ok (.iload_n 1, 1) := by decide +kernel
theorem dX9_eases_6 : decode cX9_eases 6 = .ok (.iaload, 1) := by decide +kernel
theorem dX9_eases_7 : decode cX9_eases 7 = .ok (.if_icmp .lt 5, 3) := by decide +kernel
theorem dX9_eases_10 : decode cX9_eases 10 = .ok (.iconst 0, 1) := by decide +kernel
theorem dX9_eases_11 : decode cX9_eases 11 = .ok (.ireturn, 1) := by decide +kernel
theorem dX9_eases_12 : decode cX9_eases 12 = .ok (.aload_n 0, 1) := by decide +kernel
theorem dX9_eases_13 : decode cX9_eases 13 = .ok (.getfield 41, 3) := by decide +kernel
theorem dX9_eases_16 : decode cX9_eases 16 = .ok (.iload_n 1, 1) := by decide +kernel
theorem dX9_eases_17 : decode cX9_eases 17 = .ok (.iload_n 2, 1) := by decide +kernel
theorem dX9_eases_18 : decode cX9_eases 18 = .ok (.iastore, 1) := by decide +kernel
theorem dX9_eases_19 : decode cX9_eases 19 = .ok (.iconst 1, 1) := by decide +kernel
theorem dX9_eases_20 : decode cX9_eases 20 = .ok (.ireturn, 1) := by decide +kernel
theorem dX9_panes_0 : decode cX9_panes 0 = .ok (.iload_n 1, 1) := by decide +kernel
theorem dX9_panes_1 : decode cX9_panes 1 = .ok (.invokestatic 277, 3) := by decide +kernel
theorem dX9_panes_4 : decode cX9_panes 4 = .ok (.ifCond .eq 28, 3) := by decide +kernel
theorem dX9_panes_7 : decode cX9_panes 7 = .ok (.iload_n 2, 1) := by decide +kernel
theorem dX9_panes_8 : decode cX9_panes 8 = .ok (.invokestatic 277, 3) := by decide +kernel
theorem dX9_panes_11 : decode cX9_panes 11 = .ok (.ifCond .eq 21, 3) := by decide +kernel
theorem dX9_panes_14 : decode cX9_panes 14 = .ok (.iload_n 3, 1) := by decide +kernel
theorem dX9_panes_15 : decode cX9_panes 15 = .ok (.invokestatic 130, 3) := by decide +kernel
theorem dX9_panes_18 : decode cX9_panes 18 = .ok (.ifCond .eq 14, 3) := by decide +kernel
theorem dX9_panes_21 : decode cX9_panes 21 = .ok (.iload 4, 2) := by decide +kernel
theorem dX9_panes_23 : decode cX9_panes 23 = .ok (.i2l, 1) := by decide +kernel
theorem dX9_panes_24 : decode cX9_panes 24 = .ok (.lconst 0, 1) := by decide +kernel
theorem dX9_panes_25 : decode cX9_panes 25 = .ok (.lconst 1, 1) := by decide +kernel
theorem dX9_panes_26 : decode cX9_panes 26 = .ok (.invokestatic 85, 3) := by decide +kernel
theorem dX9_panes_29 : decode cX9_panes 29 = .ok (.ifCond .ne 6, 3) := by decide +kernel
theorem dX9_panes_32 : decode cX9_panes 32 = .ok (.bipush (-2), 2) := by decide +kernel
theorem dX9_panes_34 : decode cX9_panes 34 = .ok (.ireturn, 1) := by decide +kernel
theorem dX9_panes_35 : decode cX9_panes 35 = .ok (.aload_n 0, 1) := by decide +kernel
theorem dX9_panes_36 : decode cX9_panes 36 = .ok (.iload_n 1, 1) := by decide +kernel
theorem dX9_panes_37 : decode cX9_panes 37 = .ok (.iload_n 3, 1) := by decide +kernel
theorem dX9_panes_38 : decode cX9_panes 38 = .ok (.iconst 0, 1) := by decide +kernel
theorem dX9_panes_39 : decode cX9_panes 39 = .ok (.invokevirtual 280, 3) := by decide +kernel
theorem dX9_panes_42 : decode cX9_panes 42 = .ok (.aload_n 0, 1) := by decide +kernel
theorem dX9_panes_43 : decode cX9_panes 43 = .ok (.getfield 41, 3) := by decide +kernel
theorem dX9_panes_46 : decode cX9_panes 46 = .ok (.iload_n 2, 1) := by decide +kernel
theorem dX9_panes_47 : decode cX9_panes 47 = .ok (.iaload, 1) := by decide +kernel
theorem dX9_panes_48 : decode cX9_panes 48 = .ok (.ldc_w 266, 3) := by decide +kernel
theorem dX9_panes_51 : decode cX9_panes 51 = .ok (.if_icmp .ne 7, 3) := by decide +kernel
theorem dX9_panes_54 : decode cX9_panes 54 = .ok (.iconst (-1), 1) := by decide +kernel
theorem dX9_panes_55 : decode cX9_panes 55 = .ok (.goto 31, 3) := by decide +kernel
theorem dX9_panes_58 : decode cX9_panes 58 = .ok (.iload 4, 2) := by decide +kernel
theorem dX9_panes_60 : decode cX9_panes 60 = .ok (.ifCond .ne 16, 3) := by decide +kernel
theorem dX9_panes_63 : decode cX9_panes 63 = .ok (.aload_n 0, 1) := by decide +kernel
theorem dX9_panes_64 : decode cX9_panes 64 = .ok (.getfield 41, 3) := by decide +kernel
theorem dX9_panes_67 : decode cX9_panes 67 = .ok (.iload_n 2, 1) := by decide +kernel
theorem dX9_panes_68 : decode cX9_panes 68 = .ok (.iaload, 1) := by decide +kernel
theorem dX9_panes_69 : decode cX9_panes 69 = .ok (.sipush 10000, 3) := by decide +kernel
theorem dX9_panes_72 : decode cX9_panes 72 = .ok (.idiv, 1) := by decide +kernel
theorem dX9_panes_73 : decode cX9_panes 73 = .ok (.goto 13, 3) := by decide +kernel
theorem dX9_panes_76 : decode cX9_panes 76 = .ok (.aload_n 0, 1) := by decide +kernel
theorem dX9_panes_77 : decode cX9_panes 77 = .ok (.getfield 41, 3) := by decide +kernel
theorem dX9_panes_80 : decode cX9_panes 80 = .ok (.iload_n 2, 1) := by decide +kernel
theorem dX9_panes_81 : decode cX9_panes 81 = .ok (.iaload, 1) := by decide +kernel
theorem dX9_panes_82 : decode cX9_panes 82 = .ok (.sipush 10000, 3) := by decide +kernel
theorem dX9_panes_85 : decode cX9_panes 85 = .ok (.irem, 1) := by decide +kernel
theorem dX9_panes_86 : decode cX9_panes 86 = .ok (.ireturn, 1) := by decide +kernel
theorem dX9_cost_0 : decode cX9_cost 0 = .ok (.iload_n 1, 1) := by decide +kernel
theorem dX9_cost_1 : decode cX9_cost 1 = .ok (.invokestatic 277, 3) := by decide +kernel
theorem dX9_cost_4 : decode cX9_cost 4 = .ok (.ifCond .eq 17, 3) := by decide +kernel
theorem dX9_cost_7 : decode cX9_cost 7 = .ok (.iload_n 2, 1) := by decide +kernel
theorem dX9_cost_8 : decode cX9_cost 8 = .ok (.invokestatic 277, 3) := by decide +kernel
theorem dX9_cost_11 : decode cX9_cost 11 = .ok (.ifCond .eq 10, 3) := by decide +kernel
theorem dX9_cost_14 : decode cX9_cost 14 = .ok (.iload_n 3, 1) := by decide +kernel
theorem dX9_cost_15 : decode cX9_cost 15 = .ok (.invokestatic 130, 3) := by decide +kernel
theorem dX9_cost_18 : decode cX9_cost 18 = .ok (.ifCond .ne 6, 3) := by decide +kernel
theorem dX9_cost_21 : decode cX9_cost 21 = .ok (.bipush (-2), 2) := by decide +kernel
theorem dX9_cost_23 : decode cX9_cost 23 = .ok (.ireturn, 1) := by decide +kernel
theorem dX9_cost_24 : decode cX9_cost 24 = .ok (.aload_n 0, 1) := by decide +kernel
theorem dX9_cost_25 : decode cX9_cost 25 = .ok (.iload_n 1, 1) := by decide +kernel
theorem dX9_cost_26 : decode cX9_cost 26 = .ok (.iload_n 3, 1) := by decide +kernel
theorem dX9_cost_27 : decode cX9_cost 27 = .ok (.iconst 1, 1) := by decide +kernel
theorem dX9_cost_28 : decode cX9_cost 28 = .ok (.invokevirtual 280, 3) := by decide +kernel
theorem dX9_cost_31 : decode cX9_cost 31 = .ok (.aload_n 0, 1) := by decide +kernel
theorem dX9_cost_32 : decode cX9_cost 32 = .ok (.getfield 41, 3) := by decide +kernel
theorem dX9_cost_35 : decode cX9_cost 35 = .ok (.iload_n 2, 1) := by decide +kernel
theorem dX9_cost_36 : decode cX9_cost 36 = .ok (.iaload, 1) := by decide +kernel
theorem dX9_cost_37 : decode cX9_cost 37 = .ok (.ldc_w 266, 3) := by decide +kernel
theorem dX9_cost_40 : decode cX9_cost 40 = .ok (.if_icmp .ne 7, 3) := by decide +kernel
theorem dX9_cost_43 : decode cX9_cost 43 = .ok (.iconst (-1), 1) := by decide +kernel
theorem dX9_cost_44 : decode cX9_cost 44 = .ok (.goto 9, 3) := by decide +kernel
theorem dX9_cost_47 : decode cX9_cost 47 = .ok (.aload_n 0, 1) := by decide +kernel
theorem dX9_cost_48 : decode cX9_cost 48 = .ok (.getfield 41, 3) := by decide +kernel
theorem dX9_cost_51 : decode cX9_cost 51 = .ok (.iload_n 2, 1) := by decide +kernel
theorem dX9_cost_52 : decode cX9_cost 52 = .ok (.iaload, 1) := by decide +kernel
theorem dX9_cost_53 : decode cX9_cost 53 = .ok (.ireturn, 1) := by decide +kernel
theorem dX9_earliest_0 : decode cX9_earliest 0 = .ok (.iload_n 1, 1) := by decide +kernel
theorem dX9_earliest_1 : decode cX9_earliest 1 = .ok (.invokestatic 277, 3) := by decide +kernel
theorem dX9_earliest_4 : decode cX9_earliest 4 = .ok (.ifCond .eq 17, 3) := by decide +kernel
theorem dX9_earliest_7 : decode cX9_earliest 7 = .ok (.iload_n 2, 1) := by decide +kernel
theorem dX9_earliest_8 : decode cX9_earliest 8 = .ok (.invokestatic 118, 3) := by decide +kernel
theorem dX9_earliest_11 : decode cX9_earliest 11 = .ok (.ifCond .eq 10, 3) := by decide +kernel
theorem dX9_earliest_14 : decode cX9_earliest 14 = .ok (.iload_n 3, 1) := by decide +kernel
theorem dX9_earliest_15 : decode cX9_earliest 15 = .ok (.invokestatic 130, 3) := by decide +kernel
theorem dX9_earliest_18 : decode cX9_earliest 18 = .ok (.ifCond .ne 6, 3) := by decide +kernel
theorem dX9_earliest_21 : decode cX9_earliest 21 = .ok (.bipush (-2), 2) := by decide +kernel
theorem dX9_earliest_23 : decode cX9_earliest 23 = .ok (.ireturn, 1) := by decide +kernel
theorem dX9_earliest_24 : decode cX9_earliest 24 = .ok (.aload_n 0, 1) := by decide +kernel
theorem dX9_earliest_25 : decode cX9_earliest 25 = .ok (.iload_n 1, 1) := by decide +kernel
theorem dX9_earliest_26 : decode cX9_earliest 26 = .ok (.iload_n 3, 1) := by decide +kernel
theorem dX9_earliest_27 : decode cX9_earliest 27 = .ok (.iconst 0, 1) := by decide +kernel
theorem dX9_earliest_28 : decode cX9_earliest 28 = .ok (.invokevirtual 280, 3) := by decide +kernel
theorem dX9_earliest_31 : decode cX9_earliest 31 = .ok (.iconst 0, 1) := by decide +kernel
theorem dX9_earliest_32 : decode cX9_earliest 32 = .ok (.istore 4, 2) := by decide +kernel
theorem dX9_earliest_34 : decode cX9_earliest 34 = .ok (.iload 4, 2) := by decide +kernel
theorem dX9_earliest_36 : decode cX9_earliest 36 = .ok (.bipush 32, 2) := by decide +kernel
theorem dX9_earliest_38 : decode cX9_earliest 38 = .ok (.if_icmp .ge 30, 3) := by decide +kernel
theorem dX9_earliest_41 : decode cX9_earliest 41 = .ok (.aload_n 0, 1) := by decide +kernel
theorem dX9_earliest_42 : decode cX9_earliest 42 = .ok (.getfield 41, 3) := by decide +kernel
theorem dX9_earliest_45 : decode cX9_earliest 45 = .ok (.bipush 32, 2) := by decide +kernel
theorem dX9_earliest_47 : decode cX9_earliest 47 = .ok (.iload_n 2, 1) := by decide +kernel
theorem dX9_earliest_48 : decode cX9_earliest 48 = .ok (.imul, 1) := by decide +kernel
theorem dX9_earliest_49 : decode cX9_earliest 49 = .ok (.iload 4, 2) := by decide +kernel
theorem dX9_earliest_51 : decode cX9_earliest 51 = .ok (.iadd, 1) := by decide +kernel
theorem dX9_earliest_52 : decode cX9_earliest 52 = .ok (.iaload, 1) := by decide +kernel
theorem dX9_earliest_53 : decode cX9_earliest 53 = .ok (.ldc_w 266, 3) := by decide +kernel
theorem dX9_earliest_56 : decode cX9_earliest 56 = .ok (.if_icmp .ge 6, 3) := by decide +kernel
theorem dX9_earliest_59 : decode cX9_earliest 59 = .ok (.iload 4, 2) := by decide +kernel
theorem dX9_earliest_61 : decode cX9_earliest 61 = .ok (.ireturn, 1) := by decide +kernel
theorem dX9_earliest_62 : decode cX9_earliest 62 = .ok (.iinc 4 1, 3) := by decide +kernel
theorem dX9_earliest_65 : decode cX9_earliest 65 = .ok (.goto (-31), 3) := by decide +kernel
theorem dX9_earliest_68 : decode cX9_earliest 68 = .ok (.iconst (-1), 1) := by decide +kernel
theorem dX9_earliest_69 : decode cX9_earliest 69 = .ok (.ireturn, 1) := by decide +kernel
theorem dX9_loop_0 : decode cX9_loop 0 = .ok (.iload_n 1, 1) := by decide +kernel
theorem dX9_loop_1 : decode cX9_loop 1 = .ok (.invokestatic 277, 3) := by decide +kernel
theorem dX9_loop_4 : decode cX9_loop 4 = .ok (.ifCond .eq 10, 3) := by decide +kernel
theorem dX9_loop_7 : decode cX9_loop 7 = .ok (.iload_n 2, 1) := by decide +kernel
theorem dX9_loop_8 : decode cX9_loop 8 = .ok (.invokestatic 130, 3) := by decide +kernel
theorem dX9_loop_11 : decode cX9_loop 11 = .ok (.ifCond .ne 6, 3) := by decide +kernel
theorem dX9_loop_14 : decode cX9_loop 14 = .ok (.bipush (-2), 2) := by decide +kernel
theorem dX9_loop_16 : decode cX9_loop 16 = .ok (.ireturn, 1) := by decide +kernel
theorem dX9_loop_17 : decode cX9_loop 17 = .ok (.aload_n 0, 1) := by decide +kernel
theorem dX9_loop_18 : decode cX9_loop 18 = .ok (.iload_n 1, 1) := by decide +kernel
theorem dX9_loop_19 : decode cX9_loop 19 = .ok (.iload_n 2, 1) := by decide +kernel
theorem dX9_loop_20 : decode cX9_loop 20 = .ok (.iconst 0, 1) := by decide +kernel
theorem dX9_loop_21 : decode cX9_loop 21 = .ok (.invokevirtual 280, 3) := by decide +kernel
theorem dX9_loop_24 : decode cX9_loop 24 = .ok (.ldc_w 266, 3) := by decide +kernel
theorem dX9_loop_27 : decode cX9_loop 27 = .ok (.istore_n 3, 1) := by decide +kernel
theorem dX9_loop_28 : decode cX9_loop 28 = .ok (.iconst 0, 1) := by decide +kernel
theorem dX9_loop_29 : decode cX9_loop 29 = .ok (.istore 4, 2) := by decide +kernel
theorem dX9_loop_31 : decode cX9_loop 31 = .ok (.iload 4, 2) := by decide +kernel
theorem dX9_loop_33 : decode cX9_loop 33 = .ok (.sipush 192, 3) := by decide +kernel
theorem dX9_loop_36 : decode cX9_loop 36 = .ok (.if_icmp .ge 157, 3) := by decide +kernel
theorem dX9_loop_39 : decode cX9_loop 39 = .ok (.aload_n 0, 1) := by decide +kernel
theorem dX9_loop_40 : decode cX9_loop 40 = .ok (.getfield 41, 3) := by decide +kernel
theorem dX9_loop_43 : decode cX9_loop 43 = .ok (.iload 4, 2) := by decide +kernel
theorem dX9_loop_45 : decode cX9_loop 45 = .ok (.iaload, 1) := by decide +kernel
theorem dX9_loop_46 : decode cX9_loop 46 = .ok (.ldc_w 266, 3) := by decide +kernel
theorem dX9_loop_49 : decode cX9_loop 49 = .ok (.if_icmp .ge 138, 3) := by decide +kernel
theorem dX9_loop_52 : decode cX9_loop 52 = .ok (.iload 4, 2) := by decide +kernel
theorem dX9_loop_54 : decode cX9_loop 54 = .ok (.bipush 32, 2) := by decide +kernel
theorem dX9_loop_56 : decode cX9_loop 56 = .ok (.irem, 1) := by decide +kernel
theorem dX9_loop_57 : decode cX9_loop 57 = .ok (.istore 5, 2) := by decide +kernel
theorem dX9_loop_59 : decode cX9_loop 59 = .ok (.iload 5, 2) := by decide +kernel
theorem dX9_loop_61 : decode cX9_loop 61 = .ok (.bipush 31, 2) := by decide +kernel
theorem dX9_loop_63 : decode cX9_loop 63 = .ok (.if_icmp .ge 30, 3) := by decide +kernel
theorem dX9_loop_66 : decode cX9_loop 66 = .ok (.iload 4, 2) := by decide +kernel
theorem dX9_loop_68 : decode cX9_loop 68 = .ok (.iconst 1, 1) := by decide +kernel
theorem dX9_loop_69 : decode cX9_loop 69 = .ok (.iadd, 1) := by decide +kernel
theorem dX9_loop_70 : decode cX9_loop 70 = .ok (.iload_n 1, 1) := by decide +kernel
theorem dX9_loop_71 : decode cX9_loop 71 = .ok (.if_icmp .ne 22, 3) := by decide +kernel
theorem dX9_loop_74 : decode cX9_loop 74 = .ok (.aload_n 0, 1) := by decide +kernel
theorem dX9_loop_75 : decode cX9_loop 75 = .ok (.getfield 41, 3) := by decide +kernel
theorem dX9_loop_78 : decode cX9_loop 78 = .ok (.iload 4, 2) := by decide +kernel
theorem dX9_loop_80 : decode cX9_loop 80 = .ok (.iaload, 1) := by decide +kernel
theorem dX9_loop_81 : decode cX9_loop 81 = .ok (.iload_n 3, 1) := by decide +kernel
theorem dX9_loop_82 : decode cX9_loop 82 = .ok (.if_icmp .ge 11, 3) := by decide +kernel
theorem dX9_loop_85 : decode cX9_loop 85 = .ok (.aload_n 0, 1) := by decide +kernel
theorem dX9_loop_86 : decode cX9_loop 86 = .ok (.getfield 41, 3) := by decide +kernel
theorem dX9_loop_89 : decode cX9_loop 89 = .ok (.iload 4, 2) := by decide +kernel
theorem dX9_loop_91 : decode cX9_loop 91 = .ok (.iaload, 1) := by decide +kernel
theorem dX9_loop_92 : decode cX9_loop 92 = .ok (.istore_n 3, 1) := by decide +kernel
theorem dX9_loop_93 : decode cX9_loop 93 = .ok (.iconst 0, 1) := by decide +kernel
theorem dX9_loop_94 : decode cX9_loop 94 = .ok (.istore 6, 2) := by decide +kernel
theorem dX9_loop_96 : decode cX9_loop 96 = .ok (.iload 6, 2) := by decide +kernel
theorem dX9_loop_98 : decode cX9_loop 98 = .ok (.aload_n 0, 1) := by decide +kernel
theorem dX9_loop_99 : decode cX9_loop 99 = .ok (.getfield 82, 3) := by decide +kernel
theorem dX9_loop_102 : decode cX9_loop 102 = .ok (.if_icmp .ge 85, 3) := by decide +kernel
theorem dX9_loop_105 : decode cX9_loop 105 = .ok (.aload_n 0, 1) := by decide +kernel
theorem dX9_loop_106 : decode cX9_loop 106 = .ok (.getfield 35, 3) := by decide +kernel
theorem dX9_loop_109 : decode cX9_loop 109 = .ok (.iload 6, 2) := by decide +kernel
theorem dX9_loop_111 : decode cX9_loop 111 = .ok (.iaload, 1) := by decide +kernel
theorem dX9_loop_112 : decode cX9_loop 112 = .ok (.iload 4, 2) := by decide +kernel
theorem dX9_loop_114 : decode cX9_loop 114 = .ok (.bipush 32, 2) := by decide +kernel
theorem dX9_loop_116 : decode cX9_loop 116 = .ok (.idiv, 1) := by decide +kernel
theorem dX9_loop_117 : decode cX9_loop 117 = .ok (.if_icmp .ne 64, 3) := by decide +kernel
theorem dX9_loop_120 : decode cX9_loop 120 = .ok (.aload_n 0, 1) := by decide +kernel
theorem dX9_loop_121 : decode cX9_loop 121 = .ok (.iload 6, 2) := by decide +kernel
theorem dX9_loop_123 : decode cX9_loop 123 = .ok (.iload 5, 2) := by decide +kernel
theorem dX9_loop_125 : decode cX9_loop 125 = .ok (.iload_n 2, 1) := by decide +kernel
theorem dX9_loop_126 : decode cX9_loop 126 = .ok (.invokevirtual 133, 3) := by decide +kernel
theorem dX9_loop_129 : decode cX9_loop 129 = .ok (.ifCond .eq 52, 3) := by decide +kernel
theorem dX9_loop_132 : decode cX9_loop 132 = .ok (.bipush 32, 2) := by decide +kernel
theorem dX9_loop_134 : decode cX9_loop 134 = .ok (.aload_n 0, 1) := by decide +kernel
theorem dX9_loop_135 : decode cX9_loop 135 = .ok (.iload 6, 2) := by decide +kernel
theorem dX9_loop_137 : decode cX9_loop 137 = .ok (.invokevirtual 123, 3) := by decide +kernel
theorem dX9_loop_140 : decode cX9_loop 140 = .ok (.imul, 1) := by decide +kernel
theorem dX9_loop_141 : decode cX9_loop 141 = .ok (.aload_n 0, 1) := by decide +kernel
theorem dX9_loop_142 : decode cX9_loop 142 = .ok (.iload 6, 2) := by decide +kernel
theorem dX9_loop_144 : decode cX9_loop 144 = .ok (.iload 5, 2) := by decide +kernel
theorem dX9_loop_146 : decode cX9_loop 146 = .ok (.invokevirtual 127, 3) := by decide +kernel
theorem dX9_loop_149 : decode cX9_loop 149 = .ok (.iadd, 1) := by decide +kernel
theorem dX9_loop_150 : decode cX9_loop 150 = .ok (.iload_n 1, 1) := by decide +kernel
theorem dX9_loop_151 : decode cX9_loop 151 = .ok (.if_icmp .ne 30, 3) := by decide +kernel
theorem dX9_loop_154 : decode cX9_loop 154 = .ok (.aload_n 0, 1) := by decide +kernel
theorem dX9_loop_155 : decode cX9_loop 155 = .ok (.getfield 41, 3) := by decide +kernel
theorem dX9_loop_158 : decode cX9_loop 158 = .ok (.iload 4, 2) := by decide +kernel
theorem dX9_loop_160 : decode cX9_loop 160 = .ok (.iaload, 1) := by decide +kernel
theorem dX9_loop_161 : decode cX9_loop 161 = .ok (.sipush 10000, 3) := by decide +kernel
theorem dX9_loop_164 : decode cX9_loop 164 = .ok (.iadd, 1) := by decide +kernel
theorem dX9_loop_165 : decode cX9_loop 165 = .ok (.iload_n 3, 1) := by decide +kernel
theorem dX9_loop_166 : decode cX9_loop 166 = .ok (.if_icmp .ge 15, 3) := by decide +kernel
theorem dX9_loop_169 : decode cX9_loop 169 = .ok (.aload_n 0, 1) := by decide +kernel
theorem dX9_loop_170 : decode cX9_loop 170 = .ok (.getfield 41, 3) := by decide +kernel
theorem dX9_loop_173 : decode cX9_loop 173 = .ok (.iload 4, 2) := by decide +kernel
theorem dX9_loop_175 : decode cX9_loop 175 = .ok (.iaload, 1) := by decide +kernel
theorem dX9_loop_176 : decode cX9_loop 176 = .ok (.sipush 10000, 3) := by decide +kernel
theorem dX9_loop_179 : decode cX9_loop 179 = .ok (.iadd, 1) := by decide +kernel
theorem dX9_loop_180 : decode cX9_loop 180 = .ok (.istore_n 3, 1) := by decide +kernel
theorem dX9_loop_181 : decode cX9_loop 181 = .ok (.iinc 6 1, 3) := by decide +kernel
theorem dX9_loop_184 : decode cX9_loop 184 = .ok (.goto (-88), 3) := by decide +kernel
theorem dX9_loop_187 : decode cX9_loop 187 = .ok (.iinc 4 1, 3) := by decide +kernel
theorem dX9_loop_190 : decode cX9_loop 190 = .ok (.goto (-159), 3) := by decide +kernel
theorem dX9_loop_193 : decode cX9_loop 193 = .ok (.iload_n 3, 1) := by decide +kernel
theorem dX9_loop_194 : decode cX9_loop 194 = .ok (.ldc_w 266, 3) := by decide +kernel
theorem dX9_loop_197 : decode cX9_loop 197 = .ok (.if_icmp .ne 7, 3) := by decide +kernel
theorem dX9_loop_200 : decode cX9_loop 200 = .ok (.iconst (-1), 1) := by decide +kernel
theorem dX9_loop_201 : decode cX9_loop 201 = .ok (.goto 8, 3) := by decide +kernel
theorem dX9_loop_204 : decode cX9_loop 204 = .ok (.iload_n 3, 1) := by decide +kernel
theorem dX9_loop_205 : decode cX9_loop 205 = .ok (.sipush 10000, 3) := by decide +kernel
theorem dX9_loop_208 : decode cX9_loop 208 = .ok (.idiv, 1) := by decide +kernel
theorem dX9_loop_209 : decode cX9_loop 209 = .ok (.ireturn, 1) := by decide +kernel
theorem dX9_spots_0 : decode cX9_spots 0 = .ok (.iload_n 1, 1) := by decide +kernel
theorem dX9_spots_1 : decode cX9_spots 1 = .ok (.invokestatic 277, 3) := by decide +kernel
theorem dX9_spots_4 : decode cX9_spots 4 = .ok (.ifCond .eq 10, 3) := by decide +kernel
theorem dX9_spots_7 : decode cX9_spots 7 = .ok (.iload_n 2, 1) := by decide +kernel
theorem dX9_spots_8 : decode cX9_spots 8 = .ok (.invokestatic 130, 3) := by decide +kernel
theorem dX9_spots_11 : decode cX9_spots 11 = .ok (.ifCond .ne 6, 3) := by decide +kernel
theorem dX9_spots_14 : decode cX9_spots 14 = .ok (.bipush (-2), 2) := by decide +kernel
theorem dX9_spots_16 : decode cX9_spots 16 = .ok (.ireturn, 1) := by decide +kernel
theorem dX9_spots_17 : decode cX9_spots 17 = .ok (.aload_n 0, 1) := by decide +kernel
theorem dX9_spots_18 : decode cX9_spots 18 = .ok (.iload_n 1, 1) := by decide +kernel
theorem dX9_spots_19 : decode cX9_spots 19 = .ok (.iload_n 2, 1) := by decide +kernel
theorem dX9_spots_20 : decode cX9_spots 20 = .ok (.iconst 0, 1) := by decide +kernel
theorem dX9_spots_21 : decode cX9_spots 21 = .ok (.invokevirtual 280, 3) := by decide +kernel
theorem dX9_spots_24 : decode cX9_spots 24 = .ok (.iconst 0, 1) := by decide +kernel
theorem dX9_spots_25 : decode cX9_spots 25 = .ok (.istore_n 3, 1) := by decide +kernel
theorem dX9_spots_26 : decode cX9_spots 26 = .ok (.iconst 0, 1) := by decide +kernel
theorem dX9_spots_27 : decode cX9_spots 27 = .ok (.istore 4, 2) := by decide +kernel
theorem dX9_spots_29 : decode cX9_spots 29 = .ok (.iload 4, 2) := by decide +kernel
theorem dX9_spots_31 : decode cX9_spots 31 = .ok (.sipush 192, 3) := by decide +kernel
theorem dX9_spots_34 : decode cX9_spots 34 = .ok (.if_icmp .ge 30, 3) := by decide +kernel
theorem dX9_spots_37 : decode cX9_spots 37 = .ok (.iload_n 3, 1) := by decide +kernel
theorem dX9_spots_38 : decode cX9_spots 38 = .ok (.aload_n 0, 1) := by decide +kernel
theorem dX9_spots_39 : decode cX9_spots 39 = .ok (.getfield 41, 3) := by decide +kernel
theorem dX9_spots_42 : decode cX9_spots 42 = .ok (.iload 4, 2) := by decide +kernel
theorem dX9_spots_44 : decode cX9_spots 44 = .ok (.iaload, 1) := by decide +kernel
theorem dX9_spots_45 : decode cX9_spots 45 = .ok (.ldc_w 266, 3) := by decide +kernel
theorem dX9_spots_48 : decode cX9_spots 48 = .ok (.if_icmp .ge 7, 3) := by decide +kernel
theorem dX9_spots_51 : decode cX9_spots 51 = .ok (.iconst 1, 1) := by decide +kernel
theorem dX9_spots_52 : decode cX9_spots 52 = .ok (.goto 4, 3) := by decide +kernel
theorem dX9_spots_55 : decode cX9_spots 55 = .ok (.iconst 0, 1) := by decide +kernel
theorem dX9_spots_56 : decode cX9_spots 56 = .ok (.iadd, 1) := by decide +kernel
theorem dX9_spots_57 : decode cX9_spots 57 = .ok (.istore_n 3, 1) := by decide +kernel
theorem dX9_spots_58 : decode cX9_spots 58 = .ok (.iinc 4 1, 3) := by decide +kernel
theorem dX9_spots_61 : decode cX9_spots 61 = .ok (.goto (-32), 3) := by decide +kernel
theorem dX9_spots_64 : decode cX9_spots 64 = .ok (.iload_n 3, 1) := by decide +kernel
theorem dX9_spots_65 : decode cX9_spots 65 = .ok (.ireturn, 1) := by decide +kernel
theorem dX9_comesBut_0 : decode cX9_comesBut 0 = .ok (.aload_n 0, 1) := by decide +kernel
theorem dX9_comesBut_1 : decode cX9_comesBut 1 = .ok (.iload 4, 2) := by decide +kernel
theorem dX9_comesBut_3 : decode cX9_comesBut 3 = .ok (.putfield 274, 3) := by decide +kernel
theorem dX9_comesBut_6 : decode cX9_comesBut 6 = .ok (.aload_n 0, 1) := by decide +kernel
theorem dX9_comesBut_7 : decode cX9_comesBut 7 = .ok (.iload_n 1, 1) := by decide +kernel
theorem dX9_comesBut_8 : decode cX9_comesBut 8 = .ok (.iload_n 3, 1) := by decide +kernel
theorem dX9_comesBut_9 : decode cX9_comesBut 9 = .ok (.iconst 0, 1) := by decide +kernel
theorem dX9_comesBut_10 : decode cX9_comesBut 10 = .ok (.invokevirtual 280, 3) := by decide +kernel
theorem dX9_comesBut_13 : decode cX9_comesBut 13 = .ok (.aload_n 0, 1) := by decide +kernel
theorem dX9_comesBut_14 : decode cX9_comesBut 14 = .ok (.iconst 0, 1) := by decide +kernel
theorem dX9_comesBut_15 : decode cX9_comesBut 15 = .ok (.putfield 274, 3) := by decide +kernel
theorem dX9_comesBut_18 : decode cX9_comesBut 18 = .ok (.aload_n 0, 1) := by decide +kernel
theorem dX9_comesBut_19 : decode cX9_comesBut 19 = .ok (.getfield 41, 3) := by decide +kernel
theorem dX9_comesBut_22 : decode cX9_comesBut 22 = .ok (.iload_n 2, 1) := by decide +kernel
theorem dX9_comesBut_23 : decode cX9_comesBut 23 = .ok (.iaload, 1) := by decide +kernel
theorem dX9_comesBut_24 : decode cX9_comesBut 24 = .ok (.ldc_w 266, 3) := by decide +kernel
theorem dX9_comesBut_27 : decode cX9_comesBut 27 = .ok (.if_icmp .ge 7, 3) := by decide +kernel
theorem dX9_comesBut_30 : decode cX9_comesBut 30 = .ok (.iconst 1, 1) := by decide +kernel
theorem dX9_comesBut_31 : decode cX9_comesBut 31 = .ok (.goto 4, 3) := by decide +kernel
theorem dX9_comesBut_34 : decode cX9_comesBut 34 = .ok (.iconst 0, 1) := by decide +kernel
theorem dX9_comesBut_35 : decode cX9_comesBut 35 = .ok (.ireturn, 1) := by decide +kernel
theorem dX9_brick_0 : decode cX9_brick 0 = .ok (.iload_n 1, 1) := by decide +kernel
theorem dX9_brick_1 : decode cX9_brick 1 = .ok (.invokestatic 277, 3) := by decide +kernel
theorem dX9_brick_4 : decode cX9_brick 4 = .ok (.ifCond .eq 28, 3) := by decide +kernel
theorem dX9_brick_7 : decode cX9_brick 7 = .ok (.iload_n 2, 1) := by decide +kernel
theorem dX9_brick_8 : decode cX9_brick 8 = .ok (.invokestatic 277, 3) := by decide +kernel
theorem dX9_brick_11 : decode cX9_brick 11 = .ok (.ifCond .eq 21, 3) := by decide +kernel
theorem dX9_brick_14 : decode cX9_brick 14 = .ok (.iload_n 3, 1) := by decide +kernel
theorem dX9_brick_15 : decode cX9_brick 15 = .ok (.invokestatic 130, 3) := by decide +kernel
theorem dX9_brick_18 : decode cX9_brick 18 = .ok (.ifCond .eq 14, 3) := by decide +kernel
theorem dX9_brick_21 : decode cX9_brick 21 = .ok (.iload 4, 2) := by decide +kernel
theorem dX9_brick_23 : decode cX9_brick 23 = .ok (.i2l, 1) := by decide +kernel
theorem dX9_brick_24 : decode cX9_brick 24 = .ok (.lconst 0, 1) := by decide +kernel
theorem dX9_brick_25 : decode cX9_brick 25 = .ok (.lconst 1, 1) := by decide +kernel
theorem dX9_brick_26 : decode cX9_brick 26 = .ok (.invokestatic 85, 3) := by decide +kernel
theorem dX9_brick_29 : decode cX9_brick 29 = .ok (.ifCond .ne 6, 3) := by decide +kernel
theorem dX9_brick_32 : decode cX9_brick 32 = .ok (.bipush (-2), 2) := by decide +kernel
theorem dX9_brick_34 : decode cX9_brick 34 = .ok (.ireturn, 1) := by decide +kernel
theorem dX9_brick_35 : decode cX9_brick 35 = .ok (.iconst (-1), 1) := by decide +kernel
theorem dX9_brick_36 : decode cX9_brick 36 = .ok (.istore 5, 2) := by decide +kernel
theorem dX9_brick_38 : decode cX9_brick 38 = .ok (.iload 4, 2) := by decide +kernel
theorem dX9_brick_40 : decode cX9_brick 40 = .ok (.iconst 1, 1) := by decide +kernel
theorem dX9_brick_41 : decode cX9_brick 41 = .ok (.if_icmp .ne 54, 3) := by decide +kernel
theorem dX9_brick_44 : decode cX9_brick 44 = .ok (.iconst 0, 1) := by decide +kernel
theorem dX9_brick_45 : decode cX9_brick 45 = .ok (.istore 5, 2) := by decide +kernel
theorem dX9_brick_47 : decode cX9_brick 47 = .ok (.iconst 0, 1) := by decide +kernel
theorem dX9_brick_48 : decode cX9_brick 48 = .ok (.istore 6, 2) := by decide +kernel
theorem dX9_brick_50 : decode cX9_brick 50 = .ok (.iload 6, 2) := by decide +kernel
theorem dX9_brick_52 : decode cX9_brick 52 = .ok (.aload_n 0, 1) := by decide +kernel
theorem dX9_brick_53 : decode cX9_brick 53 = .ok (.getfield 82, 3) := by decide +kernel
theorem dX9_brick_56 : decode cX9_brick 56 = .ok (.if_icmp .ge 36, 3) := by decide +kernel
theorem dX9_brick_59 : decode cX9_brick 59 = .ok (.iload 5, 2) := by decide +kernel
theorem dX9_brick_61 : decode cX9_brick 61 = .ok (.aload_n 0, 1) := by decide +kernel
theorem dX9_brick_62 : decode cX9_brick 62 = .ok (.iload_n 1, 1) := by decide +kernel
theorem dX9_brick_63 : decode cX9_brick 63 = .ok (.iload_n 2, 1) := by decide +kernel
theorem dX9_brick_64 : decode cX9_brick 64 = .ok (.iload_n 3, 1) := by decide +kernel
theorem dX9_brick_65 : decode cX9_brick 65 = .ok (.iconst 1, 1) := by decide +kernel
theorem dX9_brick_66 : decode cX9_brick 66 = .ok (.iload 6, 2) := by decide +kernel
theorem dX9_brick_68 : decode cX9_brick 68 = .ok (.ishl, 1) := by decide +kernel
theorem dX9_brick_69 : decode cX9_brick 69 = .ok (.invokevirtual 284, 3) := by decide +kernel
theorem dX9_brick_72 : decode cX9_brick 72 = .ok (.ifCond .eq 7, 3) := by decide +kernel
theorem dX9_brick_75 : decode cX9_brick 75 = .ok (.iconst 0, 1) := by decide +kernel
theorem dX9_brick_76 : decode cX9_brick 76 = .ok (.goto 4, 3) := by decide +kernel
theorem dX9_brick_79 : decode cX9_brick 79 = .ok (.iconst 1, 1) := by decide +kernel
theorem dX9_brick_80 : decode cX9_brick 80 = .ok (.iload 6, 2) := by decide +kernel
theorem dX9_brick_82 : decode cX9_brick 82 = .ok (.ishl, 1) := by decide +kernel
theorem dX9_brick_83 : decode cX9_brick 83 = .ok (.ior, 1) := by decide +kernel
theorem dX9_brick_84 : decode cX9_brick 84 = .ok (.istore 5, 2) := by decide +kernel
theorem dX9_brick_86 : decode cX9_brick 86 = .ok (.iinc 6 1, 3) := by decide +kernel
theorem dX9_brick_89 : decode cX9_brick 89 = .ok (.goto (-39), 3) := by decide +kernel
theorem dX9_brick_92 : decode cX9_brick 92 = .ok (.iload 5, 2) := by decide +kernel
theorem dX9_brick_94 : decode cX9_brick 94 = .ok (.ireturn, 1) := by decide +kernel
theorem dX9_brick_95 : decode cX9_brick 95 = .ok (.iconst 0, 1) := by decide +kernel
theorem dX9_brick_96 : decode cX9_brick 96 = .ok (.istore 6, 2) := by decide +kernel
theorem dX9_brick_98 : decode cX9_brick 98 = .ok (.iload 6, 2) := by decide +kernel
theorem dX9_brick_100 : decode cX9_brick 100 = .ok (.iconst 1, 1) := by decide +kernel
theorem dX9_brick_101 : decode cX9_brick 101 = .ok (.aload_n 0, 1) := by decide +kernel
theorem dX9_brick_102 : decode cX9_brick 102 = .ok (.getfield 82, 3) := by decide +kernel
theorem dX9_brick_105 : decode cX9_brick 105 = .ok (.ishl, 1) := by decide +kernel
theorem dX9_brick_106 : decode cX9_brick 106 = .ok (.if_icmp .ge 44, 3) := by decide +kernel
theorem dX9_brick_109 : decode cX9_brick 109 = .ok (.iload 5, 2) := by decide +kernel
theorem dX9_brick_111 : decode cX9_brick 111 = .ok (.iconst (-1), 1) := by decide +kernel
theorem dX9_brick_112 : decode cX9_brick 112 = .ok (.if_icmp .eq 16, 3) := by decide +kernel
theorem dX9_brick_115 : decode cX9_brick 115 = .ok (.iload 6, 2) := by decide +kernel
theorem dX9_brick_117 : decode cX9_brick 117 = .ok (.invokestatic 288, 3) := by decide +kernel
theorem dX9_brick_120 : decode cX9_brick 120 = .ok (.iload 5, 2) := by decide +kernel
theorem dX9_brick_122 : decode cX9_brick 122 = .ok (.invokestatic 288, 3) := by decide +kernel
theorem dX9_brick_125 : decode cX9_brick 125 = .ok (.if_icmp .ge 19, 3) := by decide +kernel
theorem dX9_brick_128 : decode cX9_brick 128 = .ok (.aload_n 0, 1) := by decide +kernel
theorem dX9_brick_129 : decode cX9_brick 129 = .ok (.iload_n 1, 1) := by decide +kernel
theorem dX9_brick_130 : decode cX9_brick 130 = .ok (.iload_n 2, 1) := by decide +kernel
theorem dX9_brick_131 : decode cX9_brick 131 = .ok (.iload_n 3, 1) := by decide +kernel
theorem dX9_brick_132 : decode cX9_brick 132 = .ok (.iload 6, 2) := by decide +kernel
theorem dX9_brick_134 : decode cX9_brick 134 = .ok (.invokevirtual 284, 3) := by decide +kernel
theorem dX9_brick_137 : decode cX9_brick 137 = .ok (.ifCond .ne 7, 3) := by decide +kernel
theorem dX9_brick_140 : decode cX9_brick 140 = .ok (.iload 6, 2) := by decide +kernel
theorem dX9_brick_142 : decode cX9_brick 142 = .ok (.istore 5, 2) := by decide +kernel
theorem dX9_brick_144 : decode cX9_brick 144 = .ok (.iinc 6 1, 3) := by decide +kernel
theorem dX9_brick_147 : decode cX9_brick 147 = .ok (.goto (-49), 3) := by decide +kernel
theorem dX9_brick_150 : decode cX9_brick 150 = .ok (.iload 5, 2) := by decide +kernel
theorem dX9_brick_152 : decode cX9_brick 152 = .ok (.ireturn, 1) := by decide +kernel
theorem dX9_shows_0 : decode cX9_shows 0 = .ok (.iload_n 2, 1) := by decide +kernel
theorem dX9_shows_1 : decode cX9_shows 1 = .ok (.invokestatic 99, 3) := by decide +kernel
theorem dX9_shows_4 : decode cX9_shows 4 = .ok (.ifCond .eq 27, 3) := by decide +kernel
theorem dX9_shows_7 : decode cX9_shows 7 = .ok (.aload_n 0, 1) := by decide +kernel
theorem dX9_shows_8 : decode cX9_shows 8 = .ok (.iload_n 1, 1) := by decide +kernel
theorem dX9_shows_9 : decode cX9_shows 9 = .ok (.iload_n 2, 1) := by decide +kernel
theorem dX9_shows_10 : decode cX9_shows 10 = .ok (.iconst 0, 1) := by decide +kernel
theorem dX9_shows_11 : decode cX9_shows 11 = .ok (.invokevirtual 133, 3) := by decide +kernel
theorem dX9_shows_14 : decode cX9_shows 14 = .ok (.ifCond .eq 17, 3) := by decide +kernel
theorem dX9_shows_17 : decode cX9_shows 17 = .ok (.aload_n 0, 1) := by decide +kernel
theorem dX9_shows_18 : decode cX9_shows 18 = .ok (.getfield 23, 3) := by decide +kernel
theorem dX9_shows_21 : decode cX9_shows 21 = .ok (.aload_n 0, 1) := by decide +kernel
theorem dX9_shows_22 : decode cX9_shows 22 = .ok (.iload_n 1, 1) := by decide +kernel
theorem dX9_shows_23 : decode cX9_shows 23 = .ok (.iload_n 2, 1) := by decide +kernel
theorem dX9_shows_24 : decode cX9_shows 24 = .ok (.invokevirtual 127, 3) := by decide +kernel
theorem dX9_shows_27 : decode cX9_shows 27 = .ok (.iaload, 1) := by decide +kernel
theorem dX9_shows_28 : decode cX9_shows 28 = .ok (.goto 4, 3) := by decide +kernel
theorem dX9_shows_31 : decode cX9_shows 31 = .ok (.iconst (-1), 1) := by decide +kernel
theorem dX9_shows_32 : decode cX9_shows 32 = .ok (.ireturn, 1) := by decide +kernel
theorem dX9_wrongAt_0 : decode cX9_wrongAt 0 = .ok (.iconst 0, 1) := by decide +kernel
theorem dX9_wrongAt_1 : decode cX9_wrongAt 1 = .ok (.istore 4, 2) := by decide +kernel
theorem dX9_wrongAt_3 : decode cX9_wrongAt 3 = .ok (.iload 4, 2) := by decide +kernel
theorem dX9_wrongAt_5 : decode cX9_wrongAt 5 = .ok (.aload_n 0, 1) := by decide +kernel
theorem dX9_wrongAt_6 : decode cX9_wrongAt 6 = .ok (.getfield 69, 3) := by decide +kernel
theorem dX9_wrongAt_9 : decode cX9_wrongAt 9 = .ok (.iload_n 1, 1) := by decide +kernel
theorem dX9_wrongAt_10 : decode cX9_wrongAt 10 = .ok (.iaload, 1) := by decide +kernel
theorem dX9_wrongAt_11 : decode cX9_wrongAt 11 = .ok (.if_icmp .ge 36, 3) := by decide +kernel
theorem dX9_wrongAt_14 : decode cX9_wrongAt 14 = .ok (.aload_n 0, 1) := by decide +kernel
theorem dX9_wrongAt_15 : decode cX9_wrongAt 15 = .ok (.iload_n 2, 1) := by decide +kernel
theorem dX9_wrongAt_16 : decode cX9_wrongAt 16 = .ok (.iload_n 3, 1) := by decide +kernel
theorem dX9_wrongAt_17 : decode cX9_wrongAt 17 = .ok (.iload 4, 2) := by decide +kernel
theorem dX9_wrongAt_19 : decode cX9_wrongAt 19 = .ok (.iadd, 1) := by decide +kernel
theorem dX9_wrongAt_20 : decode cX9_wrongAt 20 = .ok (.invokevirtual 291, 3) := by decide +kernel
theorem dX9_wrongAt_23 : decode cX9_wrongAt 23 = .ok (.aload_n 0, 1) := by decide +kernel
theorem dX9_wrongAt_24 : decode cX9_wrongAt 24 = .ok (.getfield 72, 3) := by decide +kernel
theorem dX9_wrongAt_27 : decode cX9_wrongAt 27 = .ok (.bipush 40, 2) := by decide +kernel
theorem dX9_wrongAt_29 : decode cX9_wrongAt 29 = .ok (.iload_n 1, 1) := by decide +kernel
theorem dX9_wrongAt_30 : decode cX9_wrongAt 30 = .ok (.imul, 1) := by decide +kernel
theorem dX9_wrongAt_31 : decode cX9_wrongAt 31 = .ok (.iload 4, 2) := by decide +kernel
theorem dX9_wrongAt_33 : decode cX9_wrongAt 33 = .ok (.iadd, 1) := by decide +kernel
theorem dX9_wrongAt_34 : decode cX9_wrongAt 34 = .ok (.iaload, 1) := by decide +kernel
theorem dX9_wrongAt_35 : decode cX9_wrongAt 35 = .ok (.if_icmp .eq 6, 3) := by decide +kernel
theorem dX9_wrongAt_38 : decode cX9_wrongAt 38 = .ok (.iload 4, 2) := by decide +kernel
theorem dX9_wrongAt_40 : decode cX9_wrongAt 40 = .ok (.ireturn, 1) := by decide +kernel
theorem dX9_wrongAt_41 : decode cX9_wrongAt 41 = .ok (.iinc 4 1, 3) := by decide +kernel
theorem dX9_wrongAt_44 : decode cX9_wrongAt 44 = .ok (.goto (-41), 3) := by decide +kernel
theorem dX9_wrongAt_47 : decode cX9_wrongAt 47 = .ok (.iconst (-1), 1) := by decide +kernel
theorem dX9_wrongAt_48 : decode cX9_wrongAt 48 = .ok (.ireturn, 1) := by decide +kernel
theorem dX9_seenBad_0 : decode cX9_seenBad 0 = .ok (.iload_n 1, 1) := by decide +kernel
theorem dX9_seenBad_1 : decode cX9_seenBad 1 = .ok (.invokestatic 294, 3) := by decide +kernel
theorem dX9_seenBad_4 : decode cX9_seenBad 4 = .ok (.ifCond .eq 18, 3) := by decide +kernel
theorem dX9_seenBad_7 : decode cX9_seenBad 7 = .ok (.aload_n 0, 1) := by decide +kernel
theorem dX9_seenBad_8 : decode cX9_seenBad 8 = .ok (.iload_n 2, 1) := by decide +kernel
theorem dX9_seenBad_9 : decode cX9_seenBad 9 = .ok (.invokevirtual 103, 3) := by decide +kernel
theorem dX9_seenBad_12 : decode cX9_seenBad 12 = .ok (.ifCond .eq 10, 3) := by decide +kernel
theorem dX9_seenBad_15 : decode cX9_seenBad 15 = .ok (.iload_n 3, 1) := by decide +kernel
theorem dX9_seenBad_16 : decode cX9_seenBad 16 = .ok (.invokestatic 99, 3) := by decide +kernel
theorem dX9_seenBad_19 : decode cX9_seenBad 19 = .ok (.ifCond .ne 6, 3) := by decide +kernel
theorem dX9_seenBad_22 : decode cX9_seenBad 22 = .ok (.bipush (-2), 2) := by decide +kernel
theorem dX9_seenBad_24 : decode cX9_seenBad 24 = .ok (.ireturn, 1) := by decide +kernel
theorem dX9_seenBad_25 : decode cX9_seenBad 25 = .ok (.aload_n 0, 1) := by decide +kernel
theorem dX9_seenBad_26 : decode cX9_seenBad 26 = .ok (.getfield 62, 3) := by decide +kernel
theorem dX9_seenBad_29 : decode cX9_seenBad 29 = .ok (.iload_n 1, 1) := by decide +kernel
theorem dX9_seenBad_30 : decode cX9_seenBad 30 = .ok (.baload, 1) := by decide +kernel
theorem dX9_seenBad_31 : decode cX9_seenBad 31 = .ok (.ifCond .ne 6, 3) := by decide +kernel
theorem dX9_seenBad_34 : decode cX9_seenBad 34 = .ok (.bipush (-11), 2) := by decide +kernel
theorem dX9_seenBad_36 : decode cX9_seenBad 36 = .ok (.ireturn, 1) := by decide +kernel
theorem dX9_seenBad_37 : decode cX9_seenBad 37 = .ok (.aload_n 0, 1) := by decide +kernel
theorem dX9_seenBad_38 : decode cX9_seenBad 38 = .ok (.getfield 69, 3) := by decide +kernel
theorem dX9_seenBad_41 : decode cX9_seenBad 41 = .ok (.iload_n 1, 1) := by decide +kernel
theorem dX9_seenBad_42 : decode cX9_seenBad 42 = .ok (.iaload, 1) := by decide +kernel
theorem dX9_seenBad_43 : decode cX9_seenBad 43 = .ok (.bipush 10, 2) := by decide +kernel
theorem dX9_seenBad_45 : decode cX9_seenBad 45 = .ok (.if_icmp .le 8, 3) := by decide +kernel
theorem dX9_seenBad_48 : decode cX9_seenBad 48 = .ok (.bipush (-2), 2) := by decide +kernel
theorem dX9_seenBad_50 : decode cX9_seenBad 50 = .ok (.goto 4, 3) := by decide +kernel
theorem dX9_seenBad_53 : decode cX9_seenBad 53 = .ok (.iconst 0, 1) := by decide +kernel
theorem dX9_seenBad_54 : decode cX9_seenBad 54 = .ok (.ireturn, 1) := by decide +kernel
theorem dX9_shiftsOf_0 : decode cX9_shiftsOf 0 = .ok (.aload_n 0, 1) := by decide +kernel
theorem dX9_shiftsOf_1 : decode cX9_shiftsOf 1 = .ok (.getfield 32, 3) := by decide +kernel
theorem dX9_shiftsOf_4 : decode cX9_shiftsOf 4 = .ok (.iload_n 2, 1) := by decide +kernel
theorem dX9_shiftsOf_5 : decode cX9_shiftsOf 5 = .ok (.iaload, 1) := by decide +kernel
theorem dX9_shiftsOf_6 : decode cX9_shiftsOf 6 = .ok (.istore 4, 2) := by decide +kernel
theorem dX9_shiftsOf_8 : decode cX9_shiftsOf 8 = .ok (.iconst 0, 1) := by decide +kernel
theorem dX9_shiftsOf_9 : decode cX9_shiftsOf 9 = .ok (.istore 5, 2) := by decide +kernel
theorem dX9_shiftsOf_11 : decode cX9_shiftsOf 11 = .ok (.iconst 0, 1) := by decide +kernel
theorem dX9_shiftsOf_12 : decode cX9_shiftsOf 12 = .ok (.istore 6, 2) := by decide +kernel
theorem dX9_shiftsOf_14 : decode cX9_shiftsOf 14 = .ok (.iload 6, 2) := by decide +kernel
theorem dX9_shiftsOf_16 : decode cX9_shiftsOf 16 = .ok (.bipush 19, 2) := by decide +kernel
theorem dX9_shiftsOf_18 : decode cX9_shiftsOf 18 = .ok (.if_icmp .ge 44, 3) := by decide +kernel
theorem dX9_shiftsOf_21 : decode cX9_shiftsOf 21 = .ok (.aload_n 0, 1) := by decide +kernel
theorem dX9_shiftsOf_22 : decode cX9_shiftsOf 22 = .ok (.getfield 32, 3) := by decide +kernel
theorem dX9_shiftsOf_25 : decode cX9_shiftsOf 25 = .ok (.iload_n 2, 1) := by decide +kernel
theorem dX9_shiftsOf_26 : decode cX9_shiftsOf 26 = .ok (.iload 6, 2) := by decide +kernel
theorem dX9_shiftsOf_28 : decode cX9_shiftsOf 28 = .ok (.bipush 9, 2) := by decide +kernel
theorem dX9_shiftsOf_30 : decode cX9_shiftsOf 30 = .ok (.isub, 1) := by decide +kernel
theorem dX9_shiftsOf_31 : decode cX9_shiftsOf 31 = .ok (.iastore, 1) := by decide +kernel
theorem dX9_shiftsOf_32 : decode cX9_shiftsOf 32 = .ok (.iload 5, 2) := by decide +kernel
theorem dX9_shiftsOf_34 : decode cX9_shiftsOf 34 = .ok (.aload_n 0, 1) := by decide +kernel
theorem dX9_shiftsOf_35 : decode cX9_shiftsOf 35 = .ok (.iload_n 1, 1) := by decide +kernel
theorem dX9_shiftsOf_36 : decode cX9_shiftsOf 36 = .ok (.iload_n 2, 1) := by decide +kernel
theorem dX9_shiftsOf_37 : decode cX9_shiftsOf 37 = .ok (.iload_n 3, 1) := by decide +kernel
theorem dX9_shiftsOf_38 : decode cX9_shiftsOf 38 = .ok (.invokevirtual 297, 3) := by decide +kernel
theorem dX9_shiftsOf_41 : decode cX9_shiftsOf 41 = .ok (.iconst (-1), 1) := by decide +kernel
theorem dX9_shiftsOf_42 : decode cX9_shiftsOf 42 = .ok (.if_icmp .ne 7, 3) := by decide +kernel
theorem dX9_shiftsOf_45 : decode cX9_shiftsOf 45 = .ok (.iconst 1, 1) := by decide +kernel
theorem dX9_shiftsOf_46 : decode cX9_shiftsOf 46 = .ok (.goto 4, 3) := by decide +kernel
theorem dX9_shiftsOf_49 : decode cX9_shiftsOf 49 = .ok (.iconst 0, 1) := by decide +kernel
theorem dX9_shiftsOf_50 : decode cX9_shiftsOf 50 = .ok (.iload 6, 2) := by decide +kernel
theorem dX9_shiftsOf_52 : decode cX9_shiftsOf 52 = .ok (.ishl, 1) := by decide +kernel
theorem dX9_shiftsOf_53 : decode cX9_shiftsOf 53 = .ok (.ior, 1) := by decide +kernel
theorem dX9_shiftsOf_54 : decode cX9_shiftsOf 54 = .ok (.istore 5, 2) := by decide +kernel
theorem dX9_shiftsOf_56 : decode cX9_shiftsOf 56 = .ok (.iinc 6 1, 3) := by decide +kernel
theorem dX9_shiftsOf_59 : decode cX9_shiftsOf 59 = .ok (.goto (-45), 3) := by decide +kernel
theorem dX9_shiftsOf_62 : decode cX9_shiftsOf 62 = .ok (.aload_n 0, 1) := by decide +kernel
theorem dX9_shiftsOf_63 : decode cX9_shiftsOf 63 = .ok (.getfield 32, 3) := by decide +kernel
theorem dX9_shiftsOf_66 : decode cX9_shiftsOf 66 = .ok (.iload_n 2, 1) := by decide +kernel
theorem dX9_shiftsOf_67 : decode cX9_shiftsOf 67 = .ok (.iload 4, 2) := by decide +kernel
theorem dX9_shiftsOf_69 : decode cX9_shiftsOf 69 = .ok (.iastore, 1) := by decide +kernel
theorem dX9_shiftsOf_70 : decode cX9_shiftsOf 70 = .ok (.iload 5, 2) := by decide +kernel
theorem dX9_shiftsOf_72 : decode cX9_shiftsOf 72 = .ok (.ireturn, 1) := by decide +kernel
theorem dX9_seen_0 : decode cX9_seen 0 = .ok (.iload 4, 2) := by decide +kernel
theorem dX9_seen_2 : decode cX9_seen 2 = .ok (.i2l, 1) := by decide +kernel
theorem dX9_seen_3 : decode cX9_seen 3 = .ok (.lconst 0, 1) := by decide +kernel
theorem dX9_seen_4 : decode cX9_seen 4 = .ok (.ldc2_w 95, 3) := by decide +kernel
theorem dX9_seen_7 : decode cX9_seen 7 = .ok (.invokestatic 85, 3) := by decide +kernel
theorem dX9_seen_10 : decode cX9_seen 10 = .ok (.ifCond .ne 6, 3) := by decide +kernel
theorem dX9_seen_13 : decode cX9_seen 13 = .ok (.bipush (-2), 2) := by decide +kernel
theorem dX9_seen_15 : decode cX9_seen 15 = .ok (.ireturn, 1) := by decide +kernel
theorem dX9_seen_16 : decode cX9_seen 16 = .ok (.aload_n 0, 1) := by decide +kernel
theorem dX9_seen_17 : decode cX9_seen 17 = .ok (.iload_n 1, 1) := by decide +kernel
theorem dX9_seen_18 : decode cX9_seen 18 = .ok (.iload_n 2, 1) := by decide +kernel
theorem dX9_seen_19 : decode cX9_seen 19 = .ok (.iload_n 3, 1) := by decide +kernel
theorem dX9_seen_20 : decode cX9_seen 20 = .ok (.invokevirtual 300, 3) := by decide +kernel
theorem dX9_seen_23 : decode cX9_seen 23 = .ok (.istore 5, 2) := by decide +kernel
theorem dX9_seen_25 : decode cX9_seen 25 = .ok (.iload 5, 2) := by decide +kernel
theorem dX9_seen_27 : decode cX9_seen 27 = .ok (.ifCond .eq 6, 3) := by decide +kernel
theorem dX9_seen_30 : decode cX9_seen 30 = .ok (.iload 5, 2) := by decide +kernel
theorem dX9_seen_32 : decode cX9_seen 32 = .ok (.ireturn, 1) := by decide +kernel
theorem dX9_seen_33 : decode cX9_seen 33 = .ok (.iload 4, 2) := by decide +kernel
theorem dX9_seen_35 : decode cX9_seen 35 = .ok (.iconst 2, 1) := by decide +kernel
theorem dX9_seen_36 : decode cX9_seen 36 = .ok (.if_icmp .ge 26, 3) := by decide +kernel
theorem dX9_seen_39 : decode cX9_seen 39 = .ok (.iload 4, 2) := by decide +kernel
theorem dX9_seen_41 : decode cX9_seen 41 = .ok (.ifCond .ne 13, 3) := by decide +kernel
theorem dX9_seen_44 : decode cX9_seen 44 = .ok (.aload_n 0, 1) := by decide +kernel
theorem dX9_seen_45 : decode cX9_seen 45 = .ok (.iload_n 1, 1) := by decide +kernel
theorem dX9_seen_46 : decode cX9_seen 46 = .ok (.iload_n 2, 1) := by decide +kernel
theorem dX9_seen_47 : decode cX9_seen 47 = .ok (.iload_n 3, 1) := by decide +kernel
theorem dX9_seen_48 : decode cX9_seen 48 = .ok (.invokevirtual 297, 3) := by decide +kernel
theorem dX9_seen_51 : decode cX9_seen 51 = .ok (.goto 10, 3) := by decide +kernel
theorem dX9_seen_54 : decode cX9_seen 54 = .ok (.aload_n 0, 1) := by decide +kernel
theorem dX9_seen_55 : decode cX9_seen 55 = .ok (.iload_n 1, 1) := by decide +kernel
theorem dX9_seen_56 : decode cX9_seen 56 = .ok (.iload_n 2, 1) := by decide +kernel
theorem dX9_seen_57 : decode cX9_seen 57 = .ok (.iload_n 3, 1) := by decide +kernel
theorem dX9_seen_58 : decode cX9_seen 58 = .ok (.invokevirtual 303, 3) := by decide +kernel
theorem dX9_seen_61 : decode cX9_seen 61 = .ok (.ireturn, 1) := by decide +kernel
theorem dX9_seen_62 : decode cX9_seen 62 = .ok (.aload_n 0, 1) := by decide +kernel
theorem dX9_seen_63 : decode cX9_seen 63 = .ok (.getfield 26, 3) := by decide +kernel
theorem dX9_seen_66 : decode cX9_seen 66 = .ok (.iload_n 2, 1) := by decide +kernel
theorem dX9_seen_67 : decode cX9_seen 67 = .ok (.iaload, 1) := by decide +kernel
theorem dX9_seen_68 : decode cX9_seen 68 = .ok (.istore 6, 2) := by decide +kernel
theorem dX9_seen_70 : decode cX9_seen 70 = .ok (.iconst 0, 1) := by decide +kernel
theorem dX9_seen_71 : decode cX9_seen 71 = .ok (.istore 7, 2) := by decide +kernel
theorem dX9_seen_73 : decode cX9_seen 73 = .ok (.iconst 0, 1) := by decide +kernel
theorem dX9_seen_74 : decode cX9_seen 74 = .ok (.istore 8, 2) := by decide +kernel
theorem dX9_seen_76 : decode cX9_seen 76 = .ok (.iload 8, 2) := by decide +kernel
theorem dX9_seen_78 : decode cX9_seen 78 = .ok (.iconst 5, 1) := by decide +kernel
theorem dX9_seen_79 : decode cX9_seen 79 = .ok (.if_icmp .gt 41, 3) := by decide +kernel
theorem dX9_seen_82 : decode cX9_seen 82 = .ok (.aload_n 0, 1) := by decide +kernel
theorem dX9_seen_83 : decode cX9_seen 83 = .ok (.getfield 26, 3) := by decide +kernel
theorem dX9_seen_86 : decode cX9_seen 86 = .ok (.iload_n 2, 1) := by decide +kernel
theorem dX9_seen_87 : decode cX9_seen 87 = .ok (.iload 8, 2) := by decide +kernel
theorem dX9_seen_89 : decode cX9_seen 89 = .ok (.iastore, 1) := by decide +kernel
theorem dX9_seen_90 : decode cX9_seen 90 = .ok (.iload 7, 2) := by decide +kernel
theorem dX9_seen_92 : decode cX9_seen 92 = .ok (.aload_n 0, 1) := by decide +kernel
theorem dX9_seen_93 : decode cX9_seen 93 = .ok (.iload_n 1, 1) := by decide +kernel
theorem dX9_seen_94 : decode cX9_seen 94 = .ok (.iload_n 2, 1) := by decide +kernel
theorem dX9_seen_95 : decode cX9_seen 95 = .ok (.iload_n 3, 1) := by decide +kernel
theorem dX9_seen_96 : decode cX9_seen 96 = .ok (.invokevirtual 297, 3) := by decide +kernel
theorem dX9_seen_99 : decode cX9_seen 99 = .ok (.iconst (-1), 1) := by decide +kernel
theorem dX9_seen_100 : decode cX9_seen 100 = .ok (.if_icmp .ne 7, 3) := by decide +kernel
theorem dX9_seen_103 : decode cX9_seen 103 = .ok (.iconst 1, 1) := by decide +kernel
theorem dX9_seen_104 : decode cX9_seen 104 = .ok (.goto 4, 3) := by decide +kernel
theorem dX9_seen_107 : decode cX9_seen 107 = .ok (.iconst 0, 1) := by decide +kernel
theorem dX9_seen_108 : decode cX9_seen 108 = .ok (.iload 8, 2) := by decide +kernel
theorem dX9_seen_110 : decode cX9_seen 110 = .ok (.ishl, 1) := by decide +kernel
theorem dX9_seen_111 : decode cX9_seen 111 = .ok (.ior, 1) := by decide +kernel
theorem dX9_seen_112 : decode cX9_seen 112 = .ok (.istore 7, 2) := by decide +kernel
theorem dX9_seen_114 : decode cX9_seen 114 = .ok (.iinc 8 1, 3) := by decide +kernel
theorem dX9_seen_117 : decode cX9_seen 117 = .ok (.goto (-41), 3) := by decide +kernel
theorem dX9_seen_120 : decode cX9_seen 120 = .ok (.aload_n 0, 1) := by decide +kernel
theorem dX9_seen_121 : decode cX9_seen 121 = .ok (.getfield 26, 3) := by decide +kernel
theorem dX9_seen_124 : decode cX9_seen 124 = .ok (.iload_n 2, 1) := by decide +kernel
theorem dX9_seen_125 : decode cX9_seen 125 = .ok (.iload 6, 2) := by decide +kernel
theorem dX9_seen_127 : decode cX9_seen 127 = .ok (.iastore, 1) := by decide +kernel
theorem dX9_seen_128 : decode cX9_seen 128 = .ok (.iload 7, 2) := by decide +kernel
theorem dX9_seen_130 : decode cX9_seen 130 = .ok (.ireturn, 1) := by decide +kernel
theorem dX9_unlikeOn_0 : decode cX9_unlikeOn 0 = .ok (.aload_n 0, 1) := by decide +kernel
theorem dX9_unlikeOn_1 : decode cX9_unlikeOn 1 = .ok (.getfield 32, 3) := by decide +kernel
theorem dX9_unlikeOn_4 : decode cX9_unlikeOn 4 = .ok (.iload_n 1, 1) := by decide +kernel
theorem dX9_unlikeOn_5 : decode cX9_unlikeOn 5 = .ok (.iaload, 1) := by decide +kernel
theorem dX9_unlikeOn_6 : decode cX9_unlikeOn 6 = .ok (.istore 4, 2) := by decide +kernel
theorem dX9_unlikeOn_8 : decode cX9_unlikeOn 8 = .ok (.iconst 0, 1) := by decide +kernel
theorem dX9_unlikeOn_9 : decode cX9_unlikeOn 9 = .ok (.istore 5, 2) := by decide +kernel
theorem dX9_unlikeOn_11 : decode cX9_unlikeOn 11 = .ok (.iconst 0, 1) := by decide +kernel
theorem dX9_unlikeOn_12 : decode cX9_unlikeOn 12 = .ok (.istore 6, 2) := by decide +kernel
theorem dX9_unlikeOn_14 : decode cX9_unlikeOn 14 = .ok (.iload 6, 2) := by decide +kernel
theorem dX9_unlikeOn_16 : decode cX9_unlikeOn 16 = .ok (.bipush 19, 2) := by decide +kernel
theorem dX9_unlikeOn_18 : decode cX9_unlikeOn 18 = .ok (.if_icmp .ge 45, 3) := by decide +kernel
theorem dX9_unlikeOn_21 : decode cX9_unlikeOn 21 = .ok (.iload_n 3, 1) := by decide +kernel
theorem dX9_unlikeOn_22 : decode cX9_unlikeOn 22 = .ok (.iload 6, 2) := by decide +kernel
theorem dX9_unlikeOn_24 : decode cX9_unlikeOn 24 = .ok (.ishr, 1) := by decide +kernel
theorem dX9_unlikeOn_25 : decode cX9_unlikeOn 25 = .ok (.iconst 1, 1) := by decide +kernel
theorem dX9_unlikeOn_26 : decode cX9_unlikeOn 26 = .ok (.iand, 1) := by decide +kernel
theorem dX9_unlikeOn_27 : decode cX9_unlikeOn 27 = .ok (.iconst 1, 1) := by decide +kernel
theorem dX9_unlikeOn_28 : decode cX9_unlikeOn 28 = .ok (.if_icmp .ne 29, 3) := by decide +kernel
theorem dX9_unlikeOn_31 : decode cX9_unlikeOn 31 = .ok (.aload_n 0, 1) := by decide +kernel
theorem dX9_unlikeOn_32 : decode cX9_unlikeOn 32 = .ok (.getfield 32, 3) := by decide +kernel
theorem dX9_unlikeOn_35 : decode cX9_unlikeOn 35 = .ok (.iload_n 1, 1) := by decide +kernel
theorem dX9_unlikeOn_36 : decode cX9_unlikeOn 36 = .ok (.iload 6, 2) := by decide +kernel
theorem dX9_unlikeOn_38 : decode cX9_unlikeOn 38 = .ok (.bipush 9, 2) := by decide +kernel
theorem dX9_unlikeOn_40 : decode cX9_unlikeOn 40 = .ok (.isub, 1) := by decide +kernel
theorem dX9_unlikeOn_41 : decode cX9_unlikeOn 41 = .ok (.iastore, 1) := by decide +kernel
theorem dX9_unlikeOn_42 : decode cX9_unlikeOn 42 = .ok (.iload 5, 2) := by decide +kernel
theorem dX9_unlikeOn_44 : decode cX9_unlikeOn 44 = .ok (.iconst 1, 1) := by decide +kernel
theorem dX9_unlikeOn_45 : decode cX9_unlikeOn 45 = .ok (.aload_n 0, 1) := by decide +kernel
theorem dX9_unlikeOn_46 : decode cX9_unlikeOn 46 = .ok (.iload_n 1, 1) := by decide +kernel
theorem dX9_unlikeOn_47 : decode cX9_unlikeOn 47 = .ok (.iload_n 2, 1) := by decide +kernel
theorem dX9_unlikeOn_48 : decode cX9_unlikeOn 48 = .ok (.invokevirtual 291, 3) := by decide +kernel
theorem dX9_unlikeOn_51 : decode cX9_unlikeOn 51 = .ok (.iconst 1, 1) := by decide +kernel
theorem dX9_unlikeOn_52 : decode cX9_unlikeOn 52 = .ok (.iadd, 1) := by decide +kernel
theorem dX9_unlikeOn_53 : decode cX9_unlikeOn 53 = .ok (.ishl, 1) := by decide +kernel
theorem dX9_unlikeOn_54 : decode cX9_unlikeOn 54 = .ok (.ior, 1) := by decide +kernel
theorem dX9_unlikeOn_55 : decode cX9_unlikeOn 55 = .ok (.istore 5, 2) := by decide +kernel
theorem dX9_unlikeOn_57 : decode cX9_unlikeOn 57 = .ok (.iinc 6 1, 3) := by decide +kernel
theorem dX9_unlikeOn_60 : decode cX9_unlikeOn 60 = .ok (.goto (-46), 3) := by decide +kernel
theorem dX9_unlikeOn_63 : decode cX9_unlikeOn 63 = .ok (.aload_n 0, 1) := by decide +kernel
theorem dX9_unlikeOn_64 : decode cX9_unlikeOn 64 = .ok (.getfield 32, 3) := by decide +kernel
theorem dX9_unlikeOn_67 : decode cX9_unlikeOn 67 = .ok (.iload_n 1, 1) := by decide +kernel
theorem dX9_unlikeOn_68 : decode cX9_unlikeOn 68 = .ok (.iload 4, 2) := by decide +kernel
theorem dX9_unlikeOn_70 : decode cX9_unlikeOn 70 = .ok (.iastore, 1) := by decide +kernel
theorem dX9_unlikeOn_71 : decode cX9_unlikeOn 71 = .ok (.iload 5, 2) := by decide +kernel
theorem dX9_unlikeOn_73 : decode cX9_unlikeOn 73 = .ok (.invokestatic 288, 3) := by decide +kernel
theorem dX9_unlikeOn_76 : decode cX9_unlikeOn 76 = .ok (.ireturn, 1) := by decide +kernel
theorem dX9_lookNext_0 : decode cX9_lookNext 0 = .ok (.iload 4, 2) := by decide +kernel
theorem dX9_lookNext_2 : decode cX9_lookNext 2 = .ok (.i2l, 1) := by decide +kernel
theorem dX9_lookNext_3 : decode cX9_lookNext 3 = .ok (.lconst 0, 1) := by decide +kernel
theorem dX9_lookNext_4 : decode cX9_lookNext 4 = .ok (.lconst 1, 1) := by decide +kernel
theorem dX9_lookNext_5 : decode cX9_lookNext 5 = .ok (.invokestatic 85, 3) := by decide +kernel
theorem dX9_lookNext_8 : decode cX9_lookNext 8 = .ok (.ifCond .ne 6, 3) := by decide +kernel
theorem dX9_lookNext_11 : decode cX9_lookNext 11 = .ok (.bipush (-2), 2) := by decide +kernel
theorem dX9_lookNext_13 : decode cX9_lookNext 13 = .ok (.ireturn, 1) := by decide +kernel
theorem dX9_lookNext_14 : decode cX9_lookNext 14 = .ok (.aload_n 0, 1) := by decide +kernel
theorem dX9_lookNext_15 : decode cX9_lookNext 15 = .ok (.iload_n 1, 1) := by decide +kernel
theorem dX9_lookNext_16 : decode cX9_lookNext 16 = .ok (.iload_n 2, 1) := by decide +kernel
theorem dX9_lookNext_17 : decode cX9_lookNext 17 = .ok (.iload_n 3, 1) := by decide +kernel
theorem dX9_lookNext_18 : decode cX9_lookNext 18 = .ok (.invokevirtual 300, 3) := by decide +kernel
theorem dX9_lookNext_21 : decode cX9_lookNext 21 = .ok (.istore 5, 2) := by decide +kernel
theorem dX9_lookNext_23 : decode cX9_lookNext 23 = .ok (.iload 5, 2) := by decide +kernel
theorem dX9_lookNext_25 : decode cX9_lookNext 25 = .ok (.ifCond .eq 6, 3) := by decide +kernel
theorem dX9_lookNext_28 : decode cX9_lookNext 28 = .ok (.iload 5, 2) := by decide +kernel
theorem dX9_lookNext_30 : decode cX9_lookNext 30 = .ok (.ireturn, 1) := by decide +kernel
theorem dX9_lookNext_31 : decode cX9_lookNext 31 = .ok (.aload_n 0, 1) := by decide +kernel
theorem dX9_lookNext_32 : decode cX9_lookNext 32 = .ok (.iload_n 1, 1) := by decide +kernel
theorem dX9_lookNext_33 : decode cX9_lookNext 33 = .ok (.iload_n 2, 1) := by decide +kernel
theorem dX9_lookNext_34 : decode cX9_lookNext 34 = .ok (.iload_n 3, 1) := by decide +kernel
theorem dX9_lookNext_35 : decode cX9_lookNext 35 = .ok (.invokevirtual 303, 3) := by decide +kernel
theorem dX9_lookNext_38 : decode cX9_lookNext 38 = .ok (.istore 6, 2) := by decide +kernel
theorem dX9_lookNext_40 : decode cX9_lookNext 40 = .ok (.iconst 0, 1) := by decide +kernel
theorem dX9_lookNext_41 : decode cX9_lookNext 41 = .ok (.istore 7, 2) := by decide +kernel
theorem dX9_lookNext_43 : decode cX9_lookNext 43 = .ok (.iconst 0, 1) := by decide +kernel
theorem dX9_lookNext_44 : decode cX9_lookNext 44 = .ok (.istore 8, 2) := by decide +kernel
theorem dX9_lookNext_46 : decode cX9_lookNext 46 = .ok (.iconst 0, 1) := by decide +kernel
theorem dX9_lookNext_47 : decode cX9_lookNext 47 = .ok (.istore 9, 2) := by decide +kernel
theorem dX9_lookNext_49 : decode cX9_lookNext 49 = .ok (.iload 9, 2) := by decide +kernel
theorem dX9_lookNext_51 : decode cX9_lookNext 51 = .ok (.bipush 32, 2) := by decide +kernel
theorem dX9_lookNext_53 : decode cX9_lookNext 53 = .ok (.if_icmp .ge 35, 3) := by decide +kernel
theorem dX9_lookNext_56 : decode cX9_lookNext 56 = .ok (.aload_n 0, 1) := by decide +kernel
theorem dX9_lookNext_57 : decode cX9_lookNext 57 = .ok (.iload_n 2, 1) := by decide +kernel
theorem dX9_lookNext_58 : decode cX9_lookNext 58 = .ok (.iload 9, 2) := by decide +kernel
theorem dX9_lookNext_60 : decode cX9_lookNext 60 = .ok (.iload 6, 2) := by decide +kernel
theorem dX9_lookNext_62 : decode cX9_lookNext 62 = .ok (.invokevirtual 306, 3) := by decide +kernel
theorem dX9_lookNext_65 : decode cX9_lookNext 65 = .ok (.istore 10, 2) := by decide +kernel
theorem dX9_lookNext_67 : decode cX9_lookNext 67 = .ok (.iload 10, 2) := by decide +kernel
theorem dX9_lookNext_69 : decode cX9_lookNext 69 = .ok (.iload 8, 2) := by decide +kernel
theorem dX9_lookNext_71 : decode cX9_lookNext 71 = .ok (.if_icmp .le 11, 3) := by decide +kernel
theorem dX9_lookNext_74 : decode cX9_lookNext 74 = .ok (.iload 9, 2) := by decide +kernel
theorem dX9_lookNext_76 : decode cX9_lookNext 76 = .ok (.istore 7, 2) := by decide +kernel
theorem dX9_lookNext_78 : decode cX9_lookNext 78 = .ok (.iload 10, 2) := by decide +kernel
theorem dX9_lookNext_80 : decode cX9_lookNext 80 = .ok (.istore 8, 2) := by decide +kernel
theorem dX9_lookNext_82 : decode cX9_lookNext 82 = .ok (.iinc 9 1, 3) := by decide +kernel
theorem dX9_lookNext_85 : decode cX9_lookNext 85 = .ok (.goto (-36), 3) := by decide +kernel
theorem dX9_lookNext_88 : decode cX9_lookNext 88 = .ok (.iload 4, 2) := by decide +kernel
theorem dX9_lookNext_90 : decode cX9_lookNext 90 = .ok (.ifCond .ne 8, 3) := by decide +kernel
theorem dX9_lookNext_93 : decode cX9_lookNext 93 = .ok (.iload 7, 2) := by decide +kernel
theorem dX9_lookNext_95 : decode cX9_lookNext 95 = .ok (.goto 5, 3) := by decide +kernel
theorem dX9_lookNext_98 : decode cX9_lookNext 98 = .ok (.iload 8, 2) := by decide +kernel
theorem dX9_lookNext_100 : decode cX9_lookNext 100 = .ok (.ireturn, 1) := by decide +kernel
theorem dX9_film_0 : decode cX9_film 0 = .ok (.iload_n 1, 1) := by decide +kernel
theorem dX9_film_1 : decode cX9_film 1 = .ok (.invokestatic 294, 3) := by decide +kernel
theorem dX9_film_4 : decode cX9_film 4 = .ok (.ifCond .eq 31, 3) := by decide +kernel
theorem dX9_film_7 : decode cX9_film 7 = .ok (.aload_n 0, 1) := by decide +kernel
theorem dX9_film_8 : decode cX9_film 8 = .ok (.iload_n 2, 1) := by decide +kernel
theorem dX9_film_9 : decode cX9_film 9 = .ok (.invokevirtual 103, 3) := by decide +kernel
theorem dX9_film_12 : decode cX9_film 12 = .ok (.ifCond .eq 23, 3) := by decide +kernel
theorem dX9_film_15 : decode cX9_film 15 = .ok (.iload_n 3, 1) := by decide +kernel
theorem dX9_film_16 : decode cX9_film 16 = .ok (.invokestatic 99, 3) := by decide +kernel
theorem dX9_film_19 : decode cX9_film 19 = .ok (.ifCond .eq 16, 3) := by decide +kernel
theorem dX9_film_22 : decode cX9_film 22 = .ok (.iload 4, 2) := by decide +kernel
theorem dX9_film_24 : decode cX9_film 24 = .ok (.i2l, 1) := by decide +kernel
theorem dX9_film_25 : decode cX9_film 25 = .ok (.lconst 0, 1) := by decide +kernel
theorem dX9_film_26 : decode cX9_film 26 = .ok (.ldc2_w 172, 3) := by decide +kernel
theorem dX9_film_29 : decode cX9_film 29 = .ok (.invokestatic 85, 3) := by decide +kernel
theorem dX9_film_32 : decode cX9_film 32 = .ok (.ifCond .ne 6, 3) := by decide +kernel
theorem dX9_film_35 : decode cX9_film 35 = .ok (.bipush (-2), 2) := by decide +kernel
theorem dX9_film_37 : decode cX9_film 37 = .ok (.ireturn, 1) := by decide +kernel
theorem dX9_film_38 : decode cX9_film 38 = .ok (.aload_n 0, 1) := by decide +kernel
theorem dX9_film_39 : decode cX9_film 39 = .ok (.iload_n 1, 1) := by decide +kernel
theorem dX9_film_40 : decode cX9_film 40 = .ok (.iconst 0, 1) := by decide +kernel
theorem dX9_film_41 : decode cX9_film 41 = .ok (.iload 4, 2) := by decide +kernel
theorem dX9_film_43 : decode cX9_film 43 = .ok (.invokevirtual 309, 3) := by decide +kernel
theorem dX9_film_46 : decode cX9_film 46 = .ok (.pop, 1) := by decide +kernel
theorem dX9_film_47 : decode cX9_film 47 = .ok (.iconst 0, 1) := by decide +kernel
theorem dX9_film_48 : decode cX9_film 48 = .ok (.istore 5, 2) := by decide +kernel
theorem dX9_film_50 : decode cX9_film 50 = .ok (.iload 5, 2) := by decide +kernel
theorem dX9_film_52 : decode cX9_film 52 = .ok (.iload 4, 2) := by decide +kernel
theorem dX9_film_54 : decode cX9_film 54 = .ok (.if_icmp .ge 30, 3) := by decide +kernel
theorem dX9_film_57 : decode cX9_film 57 = .ok (.aload_n 0, 1) := by decide +kernel
theorem dX9_film_58 : decode cX9_film 58 = .ok (.getfield 72, 3) := by decide +kernel
theorem dX9_film_61 : decode cX9_film 61 = .ok (.bipush 40, 2) := by decide +kernel
theorem dX9_film_63 : decode cX9_film 63 = .ok (.iload_n 1, 1) := by decide +kernel
theorem dX9_film_64 : decode cX9_film 64 = .ok (.imul, 1) := by decide +kernel
theorem dX9_film_65 : decode cX9_film 65 = .ok (.iload 5, 2) := by decide +kernel
theorem dX9_film_67 : decode cX9_film 67 = .ok (.iadd, 1) := by decide +kernel
theorem dX9_film_68 : decode cX9_film 68 = .ok (.aload_n 0, 1) := by decide +kernel
theorem dX9_film_69 : decode cX9_film 69 = .ok (.iload_n 2, 1) := by decide +kernel
theorem dX9_film_70 : decode cX9_film 70 = .ok (.iload_n 3, 1) := by decide +kernel
theorem dX9_film_71 : decode cX9_film 71 = .ok (.iload 5, 2) := by decide +kernel
theorem dX9_film_73 : decode cX9_film 73 = .ok (.iadd, 1) := by decide +kernel
theorem dX9_film_74 : decode cX9_film 74 = .ok (.invokevirtual 291, 3) := by decide +kernel
theorem dX9_film_77 : decode cX9_film 77 = .ok (.iastore, 1) := by decide +kernel
theorem dX9_film_78 : decode cX9_film 78 = .ok (.iinc 5 1, 3) := by decide +kernel
theorem dX9_film_81 : decode cX9_film 81 = .ok (.goto (-31), 3) := by decide +kernel
theorem dX9_film_84 : decode cX9_film 84 = .ok (.iload 4, 2) := by decide +kernel
theorem dX9_film_86 : decode cX9_film 86 = .ok (.ireturn, 1) := by decide +kernel
theorem dX9_rains_0 : decode cX9_rains 0 = .ok (.iconst 0, 1) := by decide +kernel
theorem dX9_rains_1 : decode cX9_rains 1 = .ok (.istore_n 2, 1) := by decide +kernel
theorem dX9_rains_2 : decode cX9_rains 2 = .ok (.iload_n 2, 1) := by decide +kernel
theorem dX9_rains_3 : decode cX9_rains 3 = .ok (.bipush 32, 2) := by decide +kernel
theorem dX9_rains_5 : decode cX9_rains 5 = .ok (.if_icmp .ge 16, 3) := by decide +kernel
theorem dX9_rains_8 : decode cX9_rains 8 = .ok (.aload_n 0, 1) := by decide +kernel
theorem dX9_rains_9 : decode cX9_rains 9 = .ok (.getfield 47, 3) := by decide +kernel
theorem dX9_rains_12 : decode cX9_rains 12 = .ok (.iload_n 2, 1) := by decide +kernel
theorem dX9_rains_13 : decode cX9_rains 13 = .ok (.iconst 0, 1) := by decide +kernel
theorem dX9_rains_14 : decode cX9_rains 14 = .ok (.iastore, 1) := by decide +kernel
theorem dX9_rains_15 : decode cX9_rains 15 = .ok (.iinc 2 1, 3) := by decide +kernel
theorem dX9_rains_18 : decode cX9_rains 18 = .ok (.goto (-16), 3) := by decide +kernel
theorem dX9_rains_21 : decode cX9_rains 21 = .ok (.iconst 0, 1) := by decide +kernel
theorem dX9_rains_22 : decode cX9_rains 22 = .ok (.istore_n 2, 1) := by decide +kernel
theorem dX9_rains_23 : decode cX9_rains 23 = .ok (.iload_n 2, 1) := by decide +kernel
theorem dX9_rains_24 : decode cX9_rains 24 = .ok (.aload_n 0, 1) := by decide +kernel
theorem dX9_rains_25 : decode cX9_rains 25 = .ok (.getfield 82, 3) := by decide +kernel
theorem dX9_rains_28 : decode cX9_rains 28 = .ok (.if_icmp .ge 63, 3) := by decide +kernel
theorem dX9_rains_31 : decode cX9_rains 31 = .ok (.iconst 0, 1) := by decide +kernel
theorem dX9_rains_32 : decode cX9_rains 32 = .ok (.istore_n 3, 1) := by decide +kernel
theorem dX9_rains_33 : decode cX9_rains 33 = .ok (.iload_n 3, 1) := by decide +kernel
theorem dX9_rains_34 : decode cX9_rains 34 = .ok (.bipush 32, 2) := by decide +kernel
theorem dX9_rains_36 : decode cX9_rains 36 = .ok (.if_icmp .ge 49, 3) := by decide +kernel
theorem dX9_rains_39 : decode cX9_rains 39 = .ok (.aload_n 0, 1) := by decide +kernel
theorem dX9_rains_40 : decode cX9_rains 40 = .ok (.iload_n 2, 1) := by decide +kernel
theorem dX9_rains_41 : decode cX9_rains 41 = .ok (.invokevirtual 123, 3) := by decide +kernel
theorem dX9_rains_44 : decode cX9_rains 44 = .ok (.iload_n 1, 1) := by decide +kernel
theorem dX9_rains_45 : decode cX9_rains 45 = .ok (.if_icmp .ne 34, 3) := by decide +kernel
theorem dX9_rains_48 : decode cX9_rains 48 = .ok (.aload_n 0, 1) := by decide +kernel
theorem dX9_rains_49 : decode cX9_rains 49 = .ok (.iload_n 2, 1) := by decide +kernel
theorem dX9_rains_50 : decode cX9_rains 50 = .ok (.iload_n 3, 1) := by decide +kernel
theorem dX9_rains_51 : decode cX9_rains 51 = .ok (.iconst 2, 1) := by decide +kernel
theorem dX9_rains_52 : decode cX9_rains 52 = .ok (.invokevirtual 133, 3) := by decide +kernel
theorem dX9_rains_55 : decode cX9_rains 55 = .ok (.ifCond .eq 24, 3) := by decide +kernel
theorem dX9_rains_58 : decode cX9_rains 58 = .ok (.aload_n 0, 1) := by decide +kernel
theorem dX9_rains_59 : decode cX9_rains 59 = .ok (.getfield 47, 3) := by decide +kernel
theorem dX9_rains_62 : decode cX9_rains 62 = .ok (.aload_n 0, 1) := by decide +kernel
theorem dX9_rains_63 : decode cX9_rains 63 = .ok (.iload_n 2, 1) := by decide +kernel
theorem dX9_rains_64 : decode cX9_rains 64 = .ok (.iload_n 3, 1) := by decide +kernel
theorem dX9_rains_65 : decode cX9_rains 65 = .ok (.invokevirtual 127, 3) := by decide +kernel
theorem dX9_rains_68 : decode cX9_rains 68 = .ok (.dup2, 1) := by decide +kernel
theorem dX9_rains_69 : decode cX9_rains 69 = .ok (.iaload, 1) := by decide +kernel
theorem dX9_rains_70 : decode cX9_rains 70 = .ok (.aload_n 0, 1) := by decide +kernel
theorem dX9_rains_71 : decode cX9_rains 71 = .ok (.iconst 1, 1) := by decide +kernel
theorem dX9_rains_72 : decode cX9_rains 72 = .ok (.iload_n 2, 1) := by decide +kernel
theorem dX9_rains_73 : decode cX9_rains 73 = .ok (.iload_n 3, 1) := by decide +kernel
theorem dX9_rains_74 : decode cX9_rains 74 = .ok (.invokevirtual 263, 3) := by decide +kernel
theorem dX9_rains_77 : decode cX9_rains 77 = .ok (.iadd, 1) := by decide +kernel
theorem dX9_rains_78 : decode cX9_rains 78 = .ok (.iastore, 1) := by decide +kernel
theorem dX9_rains_79 : decode cX9_rains 79 = .ok (.iinc 3 1, 3) := by decide +kernel
theorem dX9_rains_82 : decode cX9_rains 82 = .ok (.goto (-49), 3) := by decide +kernel
theorem dX9_rains_85 : decode cX9_rains 85 = .ok (.iinc 2 1, 3) := by decide +kernel
theorem dX9_rains_88 : decode cX9_rains 88 = .ok (.goto (-65), 3) := by decide +kernel
theorem dX9_rains_91 : decode cX9_rains 91 = .ok (.return_, 1) := by decide +kernel
theorem dX9_wetAll_0 : decode cX9_wetAll 0 = .ok (.iconst 0, 1) := by decide +kernel
theorem dX9_wetAll_1 : decode cX9_wetAll 1 = .ok (.istore_n 1, 1) := by decide +kernel
theorem dX9_wetAll_2 : decode cX9_wetAll 2 = .ok (.iconst 0, 1) := by decide +kernel
theorem dX9_wetAll_3 : decode cX9_wetAll 3 = .ok (.istore_n 2, 1) := by decide +kernel
theorem dX9_wetAll_4 : decode cX9_wetAll 4 = .ok (.iload_n 2, 1) := by decide +kernel
theorem dX9_wetAll_5 : decode cX9_wetAll 5 = .ok (.bipush 32, 2) := by decide +kernel
theorem dX9_wetAll_7 : decode cX9_wetAll 7 = .ok (.if_icmp .ge 18, 3) := by decide +kernel
theorem dX9_wetAll_10 : decode cX9_wetAll 10 = .ok (.iload_n 1, 1) := by decide +kernel
theorem dX9_wetAll_11 : decode cX9_wetAll 11 = .ok (.aload_n 0, 1) := by decide +kernel
theorem dX9_wetAll_12 : decode cX9_wetAll 12 = .ok (.getfield 47, 3) := by decide +kernel
theorem dX9_wetAll_15 : decode cX9_wetAll 15 = .ok (.iload_n 2, 1) := by decide +kernel
theorem dX9_wetAll_16 : decode cX9_wetAll 16 = .ok (.iaload, 1) := by decide +kernel
theorem dX9_wetAll_17 : decode cX9_wetAll 17 = .ok (.iadd, 1) := by decide +kernel
theorem dX9_wetAll_18 : decode cX9_wetAll 18 = .ok (.istore_n 1, 1) := by decide +kernel
theorem dX9_wetAll_19 : decode cX9_wetAll 19 = .ok (.iinc 2 1, 3) := by decide +kernel
theorem dX9_wetAll_22 : decode cX9_wetAll 22 = .ok (.goto (-18), 3) := by decide +kernel
theorem dX9_wetAll_25 : decode cX9_wetAll 25 = .ok (.iload_n 1, 1) := by decide +kernel
theorem dX9_wetAll_26 : decode cX9_wetAll 26 = .ok (.ireturn, 1) := by decide +kernel
theorem dX9_water_0 : decode cX9_water 0 = .ok (.iload_n 1, 1) := by decide +kernel
theorem dX9_water_1 : decode cX9_water 1 = .ok (.invokestatic 118, 3) := by decide +kernel
theorem dX9_water_4 : decode cX9_water 4 = .ok (.ifCond .eq 10, 3) := by decide +kernel
theorem dX9_water_7 : decode cX9_water 7 = .ok (.iload_n 2, 1) := by decide +kernel
theorem dX9_water_8 : decode cX9_water 8 = .ok (.invokestatic 99, 3) := by decide +kernel
theorem dX9_water_11 : decode cX9_water 11 = .ok (.ifCond .ne 6, 3) := by decide +kernel
theorem dX9_water_14 : decode cX9_water 14 = .ok (.bipush (-2), 2) := by decide +kernel
theorem dX9_water_16 : decode cX9_water 16 = .ok (.ireturn, 1) := by decide +kernel
theorem dX9_water_17 : decode cX9_water 17 = .ok (.aload_n 0, 1) := by decide +kernel
theorem dX9_water_18 : decode cX9_water 18 = .ok (.iload_n 1, 1) := by decide +kernel
theorem dX9_water_19 : decode cX9_water 19 = .ok (.invokevirtual 312, 3) := by decide +kernel
theorem dX9_water_22 : decode cX9_water 22 = .ok (.aload_n 0, 1) := by decide +kernel
theorem dX9_water_23 : decode cX9_water 23 = .ok (.getfield 47, 3) := by decide +kernel
theorem dX9_water_26 : decode cX9_water 26 = .ok (.iload_n 2, 1) := by decide +kernel
theorem dX9_water_27 : decode cX9_water 27 = .ok (.iaload, 1) := by decide +kernel
theorem dX9_water_28 : decode cX9_water 28 = .ok (.ireturn, 1) := by decide +kernel
theorem dX9_wettest_0 : decode cX9_wettest 0 = .ok (.iload_n 1, 1) := by decide +kernel
theorem dX9_wettest_1 : decode cX9_wettest 1 = .ok (.invokestatic 118, 3) := by decide +kernel
theorem dX9_wettest_4 : decode cX9_wettest 4 = .ok (.ifCond .eq 13, 3) := by decide +kernel
theorem dX9_wettest_7 : decode cX9_wettest 7 = .ok (.iload_n 2, 1) := by decide +kernel
theorem dX9_wettest_8 : decode cX9_wettest 8 = .ok (.i2l, 1) := by decide +kernel
theorem dX9_wettest_9 : decode cX9_wettest 9 = .ok (.lconst 0, 1) := by decide +kernel
theorem dX9_wettest_10 : decode cX9_wettest 10 = .ok (.lconst 1, 1) := by decide +kernel
theorem dX9_wettest_11 : decode cX9_wettest 11 = .ok (.invokestatic 85, 3) := by decide +kernel
theorem dX9_wettest_14 : decode cX9_wettest 14 = .ok (.ifCond .ne 6, 3) := by decide +kernel
theorem dX9_wettest_17 : decode cX9_wettest 17 = .ok (.bipush (-2), 2) := by decide +kernel
theorem dX9_wettest_19 : decode cX9_wettest 19 = .ok (.ireturn, 1) := by decide +kernel
theorem dX9_wettest_20 : decode cX9_wettest 20 = .ok (.aload_n 0, 1) := by decide +kernel
theorem dX9_wettest_21 : decode cX9_wettest 21 = .ok (.iload_n 1, 1) := by decide +kernel
theorem dX9_wettest_22 : decode cX9_wettest 22 = .ok (.invokevirtual 312, 3) := by decide +kernel
theorem dX9_wettest_25 : decode cX9_wettest 25 = .ok (.iconst 0, 1) := by decide +kernel
theorem dX9_wettest_26 : decode cX9_wettest 26 = .ok (.istore_n 3, 1) := by decide +kernel
theorem dX9_wettest_27 : decode cX9_wettest 27 = .ok (.iconst 1, 1) := by decide +kernel
theorem dX9_wettest_28 : decode cX9_wettest 28 = .ok (.istore 4, 2) := by decide +kernel
theorem dX9_wettest_30 : decode cX9_wettest 30 = .ok (.iload 4, 2) := by decide +kernel
theorem dX9_wettest_32 : decode cX9_wettest 32 = .ok (.bipush 32, 2) := by decide +kernel
theorem dX9_wettest_34 : decode cX9_wettest 34 = .ok (.if_icmp .ge 32, 3) := by decide +kernel
theorem dX9_wettest_37 : decode cX9_wettest 37 = .ok (.aload_n 0, 1) := by decide +kernel
theorem dX9_wettest_38 : decode cX9_wettest 38 = .ok (.getfield 47, 3) := by decide +kernel
theorem dX9_wettest_41 : decode cX9_wettest 41 = .ok (.iload 4, 2) := by decide +kernel
theorem dX9_wettest_43 : decode cX9_wettest 43 = .ok (.iaload, 1) := by decide +kernel
theorem dX9_wettest_44 : decode cX9_wettest 44 = .ok (.aload_n 0, 1) := by decide +kernel
theorem dX9_wettest_45 : decode cX9_wettest 45 = .ok (.getfield 47, 3) := by decide +kernel
theorem dX9_wettest_48 : decode cX9_wettest 48 = .ok (.iload_n 3, 1) := by decide +kernel
theorem dX9_wettest_49 : decode cX9_wettest 49 = .ok (.iaload, 1) := by decide +kernel
theorem dX9_wettest_50 : decode cX9_wettest 50 = .ok (.if_icmp .le 8, 3) := by decide +kernel
theorem dX9_wettest_53 : decode cX9_wettest 53 = .ok (.iload 4, 2) := by decide +kernel
theorem dX9_wettest_55 : decode cX9_wettest 55 = .ok (.goto 4, 3) := by decide +kernel
theorem dX9_wettest_58 : decode cX9_wettest 58 = .ok (.iload_n 3, 1) := by decide +kernel
theorem dX9_wettest_59 : decode cX9_wettest 59 = .ok (.istore_n 3, 1) := by decide +kernel
theorem dX9_wettest_60 : decode cX9_wettest 60 = .ok (.iinc 4 1, 3) := by decide +kernel
theorem dX9_wettest_63 : decode cX9_wettest 63 = .ok (.goto (-33), 3) := by decide +kernel
theorem dX9_wettest_66 : decode cX9_wettest 66 = .ok (.iload_n 2, 1) := by decide +kernel
theorem dX9_wettest_67 : decode cX9_wettest 67 = .ok (.ifCond .ne 7, 3) := by decide +kernel
theorem dX9_wettest_70 : decode cX9_wettest 70 = .ok (.iload_n 3, 1) := by decide +kernel
theorem dX9_wettest_71 : decode cX9_wettest 71 = .ok (.goto 7, 3) := by decide +kernel
theorem dX9_wettest_74 : decode cX9_wettest 74 = .ok (.aload_n 0, 1) := by decide +kernel
theorem dX9_wettest_75 : decode cX9_wettest 75 = .ok (.invokevirtual 316, 3) := by decide +kernel
theorem dX9_wettest_78 : decode cX9_wettest 78 = .ok (.ireturn, 1) := by decide +kernel
theorem dX9_viewsFrom_0 : decode cX9_viewsFrom 0 = .ok (.iload_n 1, 1) := by decide +kernel
theorem dX9_viewsFrom_1 : decode cX9_viewsFrom 1 = .ok (.ifCond .ne 23, 3) := by decide +kernel
theorem dX9_viewsFrom_4 : decode cX9_viewsFrom 4 = .ok (.iload_n 3, 1) := by decide +kernel
theorem dX9_viewsFrom_5 : decode cX9_viewsFrom 5 = .ok (.aload_n 0, 1) := by decide +kernel
theorem dX9_viewsFrom_6 : decode cX9_viewsFrom 6 = .ok (.getfield 319, 3) := by decide +kernel
theorem dX9_viewsFrom_9 : decode cX9_viewsFrom 9 = .ok (.if_icmp .le 14, 3) := by decide +kernel
theorem dX9_viewsFrom_12 : decode cX9_viewsFrom 12 = .ok (.aload_n 0, 1) := by decide +kernel
theorem dX9_viewsFrom_13 : decode cX9_viewsFrom 13 = .ok (.iload_n 3, 1) := by decide +kernel
theorem dX9_viewsFrom_14 : decode cX9_viewsFrom 14 = .ok (.putfield 319, 3) := by decide +kernel
theorem dX9_viewsFrom_17 : decode cX9_viewsFrom 17 = .ok (.aload_n 0, 1) := by decide +kernel
theorem dX9_viewsFrom_18 : decode cX9_viewsFrom 18 = .ok (.iload 4, 2) := by decide +kernel
theorem dX9_viewsFrom_20 : decode cX9_viewsFrom 20 = .ok (.putfield 322, 3) := by decide +kernel
theorem dX9_viewsFrom_23 : decode cX9_viewsFrom 23 = .ok (.return_, 1) := by decide +kernel
theorem dX9_viewsFrom_24 : decode cX9_viewsFrom 24 = .ok (.iconst 0, 1) := by decide +kernel
theorem dX9_viewsFrom_25 : decode cX9_viewsFrom 25 = .ok (.istore 6, 2) := by decide +kernel
theorem dX9_viewsFrom_27 : decode cX9_viewsFrom 27 = .ok (.iload 6, 2) := by decide +kernel
theorem dX9_viewsFrom_29 : decode cX9_viewsFrom 29 = .ok (.aload_n 0, 1) := by decide +kernel
theorem dX9_viewsFrom_30 : decode cX9_viewsFrom 30 = .ok (.getfield 82, 3) := by decide +kernel
theorem dX9_viewsFrom_33 : decode cX9_viewsFrom 33 = .ok (.if_icmp .ge 66, 3) := by decide +kernel
theorem dX9_viewsFrom_36 : decode cX9_viewsFrom 36 = .ok (.iload_n 2, 1) := by decide +kernel
theorem dX9_viewsFrom_37 : decode cX9_viewsFrom 37 = .ok (.iload 6, 2) := by decide +kernel
theorem dX9_viewsFrom_39 : decode cX9_viewsFrom 39 = .ok (.ishr, 1) := by decide +kernel
theorem dX9_viewsFrom_40 : decode cX9_viewsFrom 40 = .ok (.iconst 1, 1) := by decide +kernel
theorem dX9_viewsFrom_41 : decode cX9_viewsFrom 41 = .ok (.iand, 1) := by decide +kernel
theorem dX9_viewsFrom_42 : decode cX9_viewsFrom 42 = .ok (.ifCond .ne 51, 3) := by decide +kernel
theorem dX9_viewsFrom_45 : decode cX9_viewsFrom 45 = .ok (.aload_n 0, 1) := by decide +kernel
theorem dX9_viewsFrom_46 : decode cX9_viewsFrom 46 = .ok (.iload 6, 2) := by decide +kernel
theorem dX9_viewsFrom_48 : decode cX9_viewsFrom 48 = .ok (.iload 5, 2) := by decide +kernel
theorem dX9_viewsFrom_50 : decode cX9_viewsFrom 50 = .ok (.iconst 0, 1) := by decide +kernel
theorem dX9_viewsFrom_51 : decode cX9_viewsFrom 51 = .ok (.invokevirtual 133, 3) := by decide +kernel
theorem dX9_viewsFrom_54 : decode cX9_viewsFrom 54 = .ok (.ifCond .eq 39, 3) := by decide +kernel
theorem dX9_viewsFrom_57 : decode cX9_viewsFrom 57 = .ok (.aload_n 0, 1) := by decide +kernel
theorem dX9_viewsFrom_58 : decode cX9_viewsFrom 58 = .ok (.iload_n 1, 1) := by decide +kernel
theorem dX9_viewsFrom_59 : decode cX9_viewsFrom 59 = .ok (.iconst 1, 1) := by decide +kernel
theorem dX9_viewsFrom_60 : decode cX9_viewsFrom 60 = .ok (.isub, 1) := by decide +kernel
theorem dX9_viewsFrom_61 : decode cX9_viewsFrom 61 = .ok (.iload_n 2, 1) := by decide +kernel
theorem dX9_viewsFrom_62 : decode cX9_viewsFrom 62 = .ok (.iconst 1, 1) := by decide +kernel
theorem dX9_viewsFrom_63 : decode cX9_viewsFrom 63 = .ok (.iload 6, 2) := by decide +kernel
theorem dX9_viewsFrom_65 : decode cX9_viewsFrom 65 = .ok (.ishl, 1) := by decide +kernel
theorem dX9_viewsFrom_66 : decode cX9_viewsFrom 66 = .ok (.ior, 1) := by decide +kernel
theorem dX9_viewsFrom_67 : decode cX9_viewsFrom 67 = .ok (.iload_n 3, 1) := by decide +kernel
theorem dX9_viewsFrom_68 : decode cX9_viewsFrom 68 = .ok (.aload_n 0, 1) := by decide +kernel
theorem dX9_viewsFrom_69 : decode cX9_viewsFrom 69 = .ok (.iconst 2, 1) := by decide +kernel
theorem dX9_viewsFrom_70 : decode cX9_viewsFrom 70 = .ok (.iload 6, 2) := by decide +kernel
theorem dX9_viewsFrom_72 : decode cX9_viewsFrom 72 = .ok (.iload 5, 2) := by decide +kernel
theorem dX9_viewsFrom_74 : decode cX9_viewsFrom 74 = .ok (.invokevirtual 263, 3) := by decide +kernel
theorem dX9_viewsFrom_77 : decode cX9_viewsFrom 77 = .ok (.iadd, 1) := by decide +kernel
theorem dX9_viewsFrom_78 : decode cX9_viewsFrom 78 = .ok (.bipush 10, 2) := by decide +kernel
theorem dX9_viewsFrom_80 : decode cX9_viewsFrom 80 = .ok (.iload 4, 2) := by decide +kernel
theorem dX9_viewsFrom_82 : decode cX9_viewsFrom 82 = .ok (.imul, 1) := by decide +kernel
theorem dX9_viewsFrom_83 : decode cX9_viewsFrom 83 = .ok (.iload 6, 2) := by decide +kernel
theorem dX9_viewsFrom_85 : decode cX9_viewsFrom 85 = .ok (.iadd, 1) := by decide +kernel
theorem dX9_viewsFrom_86 : decode cX9_viewsFrom 86 = .ok (.iconst 1, 1) := by decide +kernel
theorem dX9_viewsFrom_87 : decode cX9_viewsFrom 87 = .ok (.iadd, 1) := by decide +kernel
theorem dX9_viewsFrom_88 : decode cX9_viewsFrom 88 = .ok (.iload 5, 2) := by decide +kernel
theorem dX9_viewsFrom_90 : decode cX9_viewsFrom 90 = .ok (.invokevirtual 325, 3) := by decide +kernel
theorem dX9_viewsFrom_93 : decode cX9_viewsFrom 93 = .ok (.iinc 6 1, 3) := by decide +kernel
theorem dX9_viewsFrom_96 : decode cX9_viewsFrom 96 = .ok (.goto (-69), 3) := by decide +kernel
theorem dX9_viewsFrom_99 : decode cX9_viewsFrom 99 = .ok (.return_, 1) := by decide +kernel
theorem dX9_views_0 : decode cX9_views 0 = .ok (.iload_n 1, 1) := by decide +kernel
theorem dX9_views_1 : decode cX9_views 1 = .ok (.invokestatic 99, 3) := by decide +kernel
theorem dX9_views_4 : decode cX9_views 4 = .ok (.ifCond .eq 25, 3) := by decide +kernel
theorem dX9_views_7 : decode cX9_views 7 = .ok (.iload_n 2, 1) := by decide +kernel
theorem dX9_views_8 : decode cX9_views 8 = .ok (.i2l, 1) := by decide +kernel
theorem dX9_views_9 : decode cX9_views 9 = .ok (.lconst 0, 1) := by decide +kernel
theorem dX9_views_10 : decode cX9_views 10 = .ok (.ldc2_w 97, 3) := by decide +kernel
theorem dX9_views_13 : decode cX9_views 13 = .ok (.invokestatic 85, 3) := by decide +kernel
theorem dX9_views_16 : decode cX9_views 16 = .ok (.ifCond .eq 13, 3) := by decide +kernel
theorem dX9_views_19 : decode cX9_views 19 = .ok (.iload_n 3, 1) := by decide +kernel
theorem dX9_views_20 : decode cX9_views 20 = .ok (.i2l, 1) := by decide +kernel
theorem dX9_views_21 : decode cX9_views 21 = .ok (.lconst 0, 1) := by decide +kernel
theorem dX9_views_22 : decode cX9_views 22 = .ok (.lconst 1, 1) := by decide +kernel
theorem dX9_views_23 : decode cX9_views 23 = .ok (.invokestatic 85, 3) := by decide +kernel
theorem dX9_views_26 : decode cX9_views 26 = .ok (.ifCond .ne 6, 3) := by decide +kernel
theorem dX9_views_29 : decode cX9_views 29 = .ok (.bipush (-2), 2) := by decide +kernel
theorem dX9_views_31 : decode cX9_views 31 = .ok (.ireturn, 1) := by decide +kernel
theorem dX9_views_32 : decode cX9_views 32 = .ok (.aload_n 0, 1) := by decide +kernel
theorem dX9_views_33 : decode cX9_views 33 = .ok (.iconst (-1), 1) := by decide +kernel
theorem dX9_views_34 : decode cX9_views 34 = .ok (.putfield 319, 3) := by decide +kernel
theorem dX9_views_37 : decode cX9_views 37 = .ok (.aload_n 0, 1) := by decide +kernel
theorem dX9_views_38 : decode cX9_views 38 = .ok (.iconst (-1), 1) := by decide +kernel
theorem dX9_views_39 : decode cX9_views 39 = .ok (.putfield 322, 3) := by decide +kernel
theorem dX9_views_42 : decode cX9_views 42 = .ok (.aload_n 0, 1) := by decide +kernel
theorem dX9_views_43 : decode cX9_views 43 = .ok (.iload_n 2, 1) := by decide +kernel
theorem dX9_views_44 : decode cX9_views 44 = .ok (.iconst 0, 1) := by decide +kernel
theorem dX9_views_45 : decode cX9_views 45 = .ok (.iconst 0, 1) := by decide +kernel
theorem dX9_views_46 : decode cX9_views 46 = .ok (.iconst 0, 1) := by decide +kernel
theorem dX9_views_47 : decode cX9_views 47 = .ok (.iload_n 1, 1) := by decide +kernel
theorem dX9_views_48 : decode cX9_views 48 = .ok (.invokevirtual 325, 3) := by decide +kernel
theorem dX9_views_51 : decode cX9_views 51 = .ok (.iload_n 3, 1) := by decide +kernel
theorem dX9_views_52 : decode cX9_views 52 = .ok (.ifCond .ne 10, 3) := by decide +kernel
theorem dX9_views_55 : decode cX9_views 55 = .ok (.aload_n 0, 1) := by decide +kernel
theorem dX9_views_56 : decode cX9_views 56 = .ok (.getfield 319, 3) := by decide +kernel
theorem dX9_views_59 : decode cX9_views 59 = .ok (.goto 7, 3) := by decide +kernel
theorem dX9_views_62 : decode cX9_views 62 = .ok (.aload_n 0, 1) := by decide +kernel
theorem dX9_views_63 : decode cX9_views 63 = .ok (.getfield 322, 3) := by decide +kernel
theorem dX9_views_66 : decode cX9_views 66 = .ok (.ireturn, 1) := by decide +kernel
theorem dX9_draws_0 : decode cX9_draws 0 = .ok (.iload_n 2, 1) := by decide +kernel
theorem dX9_draws_1 : decode cX9_draws 1 = .ok (.istore_n 3, 1) := by decide +kernel
theorem dX9_draws_2 : decode cX9_draws 2 = .ok (.iconst 0, 1) := by decide +kernel
theorem dX9_draws_3 : decode cX9_draws 3 = .ok (.istore 4, 2) := by decide +kernel
theorem dX9_draws_5 : decode cX9_draws 5 = .ok (.iload 4, 2) := by decide +kernel
theorem dX9_draws_7 : decode cX9_draws 7 = .ok (.bipush 32, 2) := by decide +kernel
theorem dX9_draws_9 : decode cX9_draws 9 = .ok (.if_icmp .ge 47, 3) := by decide +kernel
theorem dX9_draws_12 : decode cX9_draws 12 = .ok (.aload_n 0, 1) := by decide +kernel
theorem dX9_draws_13 : decode cX9_draws 13 = .ok (.getfield 50, 3) := by decide +kernel
theorem dX9_draws_16 : decode cX9_draws 16 = .ok (.iload 4, 2) := by decide +kernel
theorem dX9_draws_18 : decode cX9_draws 18 = .ok (.aload_n 0, 1) := by decide +kernel
theorem dX9_draws_19 : decode cX9_draws 19 = .ok (.getfield 23, 3) := by decide +kernel
theorem dX9_draws_22 : decode cX9_draws 22 = .ok (.iload 4, 2) := by decide +kernel
theorem dX9_draws_24 : decode cX9_draws 24 = .ok (.iaload, 1) := by decide +kernel
theorem dX9_draws_25 : decode cX9_draws 25 = .ok (.iastore, 1) := by decide +kernel
theorem dX9_draws_26 : decode cX9_draws 26 = .ok (.iload_n 3, 1) := by decide +kernel
theorem dX9_draws_27 : decode cX9_draws 27 = .ok (.ldc_w 329, 3) := by decide +kernel
theorem dX9_draws_30 : decode cX9_draws 30 = .ok (.imul, 1) := by decide +kernel
theorem dX9_draws_31 : decode cX9_draws 31 = .ok (.sipush 12345, 3) := by decide +kernel
theorem dX9_draws_34 : decode cX9_draws 34 = .ok (.iadd, 1) := by decide +kernel
theorem dX9_draws_35 : decode cX9_draws 35 = .ok (.istore_n 3, 1) := by decide +kernel
theorem dX9_draws_36 : decode cX9_draws 36 = .ok (.aload_n 0, 1) := by decide +kernel
theorem dX9_draws_37 : decode cX9_draws 37 = .ok (.getfield 23, 3) := by decide +kernel
theorem dX9_draws_40 : decode cX9_draws 40 = .ok (.iload 4, 2) := by decide +kernel
theorem dX9_draws_42 : decode cX9_draws 42 = .ok (.iload_n 3, 1) := by decide +kernel
theorem dX9_draws_43 : decode cX9_draws 43 = .ok (.bipush 9, 2) := by decide +kernel
theorem dX9_draws_45 : decode cX9_draws 45 = .ok (.iushr, 1) := by decide +kernel
theorem dX9_draws_46 : decode cX9_draws 46 = .ok (.bipush 10, 2) := by decide +kernel
theorem dX9_draws_48 : decode cX9_draws 48 = .ok (.irem, 1) := by decide +kernel
theorem dX9_draws_49 : decode cX9_draws 49 = .ok (.iastore, 1) := by decide +kernel
theorem dX9_draws_50 : decode cX9_draws 50 = .ok (.iinc 4 1, 3) := by decide +kernel
theorem dX9_draws_53 : decode cX9_draws 53 = .ok (.goto (-48), 3) := by decide +kernel
theorem dX9_draws_56 : decode cX9_draws 56 = .ok (.aload_n 0, 1) := by decide +kernel
theorem dX9_draws_57 : decode cX9_draws 57 = .ok (.iload_n 1, 1) := by decide +kernel
theorem dX9_draws_58 : decode cX9_draws 58 = .ok (.invokevirtual 312, 3) := by decide +kernel
theorem dX9_draws_61 : decode cX9_draws 61 = .ok (.iconst 0, 1) := by decide +kernel
theorem dX9_draws_62 : decode cX9_draws 62 = .ok (.istore 4, 2) := by decide +kernel
theorem dX9_draws_64 : decode cX9_draws 64 = .ok (.iload 4, 2) := by decide +kernel
theorem dX9_draws_66 : decode cX9_draws 66 = .ok (.bipush 32, 2) := by decide +kernel
theorem dX9_draws_68 : decode cX9_draws 68 = .ok (.if_icmp .ge 23, 3) := by decide +kernel
theorem dX9_draws_71 : decode cX9_draws 71 = .ok (.aload_n 0, 1) := by decide +kernel
theorem dX9_draws_72 : decode cX9_draws 72 = .ok (.getfield 23, 3) := by decide +kernel
theorem dX9_draws_75 : decode cX9_draws 75 = .ok (.iload 4, 2) := by decide +kernel
theorem dX9_draws_77 : decode cX9_draws 77 = .ok (.aload_n 0, 1) := by decide +kernel
theorem dX9_draws_78 : decode cX9_draws 78 = .ok (.getfield 50, 3) := by decide +kernel
theorem dX9_draws_81 : decode cX9_draws 81 = .ok (.iload 4, 2) := by decide +kernel
theorem dX9_draws_83 : decode cX9_draws 83 = .ok (.iaload, 1) := by decide +kernel
theorem dX9_draws_84 : decode cX9_draws 84 = .ok (.iastore, 1) := by decide +kernel
theorem dX9_draws_85 : decode cX9_draws 85 = .ok (.iinc 4 1, 3) := by decide +kernel
theorem dX9_draws_88 : decode cX9_draws 88 = .ok (.goto (-24), 3) := by decide +kernel
theorem dX9_draws_91 : decode cX9_draws 91 = .ok (.aload_n 0, 1) := by decide +kernel
theorem dX9_draws_92 : decode cX9_draws 92 = .ok (.invokevirtual 316, 3) := by decide +kernel
theorem dX9_draws_95 : decode cX9_draws 95 = .ok (.ireturn, 1) := by decide +kernel
theorem dX9_drawn_0 : decode cX9_drawn 0 = .ok (.iload_n 1, 1) := by decide +kernel
theorem dX9_drawn_1 : decode cX9_drawn 1 = .ok (.invokestatic 118, 3) := by decide +kernel
theorem dX9_drawn_4 : decode cX9_drawn 4 = .ok (.ifCond .eq 12, 3) := by decide +kernel
theorem dX9_drawn_7 : decode cX9_drawn 7 = .ok (.aload_n 0, 1) := by decide +kernel
theorem dX9_drawn_8 : decode cX9_drawn 8 = .ok (.iload_n 1, 1) := by decide +kernel
theorem dX9_drawn_9 : decode cX9_drawn 9 = .ok (.iload_n 2, 1) := by decide +kernel
theorem dX9_drawn_10 : decode cX9_drawn 10 = .ok (.invokevirtual 330, 3) := by decide +kernel
theorem dX9_drawn_13 : decode cX9_drawn 13 = .ok (.goto 5, 3) := by decide +kernel
theorem dX9_drawn_16 : decode cX9_drawn 16 = .ok (.bipush (-2), 2) := by decide +kernel
theorem dX9_drawn_18 : decode cX9_drawn 18 = .ok (.ireturn, 1) := by decide +kernel
theorem dX9_chance_0 : decode cX9_chance 0 = .ok (.iload_n 1, 1) := by decide +kernel
theorem dX9_chance_1 : decode cX9_chance 1 = .ok (.invokestatic 118, 3) := by decide +kernel
theorem dX9_chance_4 : decode cX9_chance 4 = .ok (.ifCond .eq 39, 3) := by decide +kernel
theorem dX9_chance_7 : decode cX9_chance 7 = .ok (.iload_n 3, 1) := by decide +kernel
theorem dX9_chance_8 : decode cX9_chance 8 = .ok (.i2l, 1) := by decide +kernel
theorem dX9_chance_9 : decode cX9_chance 9 = .ok (.lconst 1, 1) := by decide +kernel
theorem dX9_chance_10 : decode cX9_chance 10 = .ok (.ldc2_w 333, 3) := by decide +kernel
theorem dX9_chance_13 : decode cX9_chance 13 = .ok (.invokestatic 85, 3) := by decide +kernel
theorem dX9_chance_16 : decode cX9_chance 16 = .ok (.ifCond .eq 27, 3) := by decide +kernel
theorem dX9_chance_19 : decode cX9_chance 19 = .ok (.iload 4, 2) := by decide +kernel
theorem dX9_chance_21 : decode cX9_chance 21 = .ok (.i2l, 1) := by decide +kernel
theorem dX9_chance_22 : decode cX9_chance 22 = .ok (.lconst 0, 1) := by decide +kernel
theorem dX9_chance_23 : decode cX9_chance 23 = .ok (.ldc2_w 335, 3) := by decide +kernel
theorem dX9_chance_26 : decode cX9_chance 26 = .ok (.invokestatic 85, 3) := by decide +kernel
theorem dX9_chance_29 : decode cX9_chance 29 = .ok (.ifCond .eq 14, 3) := by decide +kernel
theorem dX9_chance_32 : decode cX9_chance 32 = .ok (.iload 5, 2) := by decide +kernel
theorem dX9_chance_34 : decode cX9_chance 34 = .ok (.i2l, 1) := by decide +kernel
theorem dX9_chance_35 : decode cX9_chance 35 = .ok (.lconst 0, 1) := by decide +kernel
theorem dX9_chance_36 : decode cX9_chance 36 = .ok (.lconst 1, 1) := by decide +kernel
theorem dX9_chance_37 : decode cX9_chance 37 = .ok (.invokestatic 85, 3) := by decide +kernel
theorem dX9_chance_40 : decode cX9_chance 40 = .ok (.ifCond .ne 7, 3) := by decide +kernel
theorem dX9_chance_43 : decode cX9_chance 43 = .ok (.ldc2_w 337, 3) := by decide +kernel
theorem dX9_chance_46 : decode cX9_chance 46 = .ok (.lreturn, 1) := by decide +kernel
theorem dX9_chance_47 : decode cX9_chance 47 = .ok (.lconst 0, 1) := by decide +kernel
theorem dX9_chance_48 : decode cX9_chance 48 = .ok (.lstore 6, 2) := by decide +kernel
theorem dX9_chance_50 : decode cX9_chance 50 = .ok (.iconst 0, 1) := by decide +kernel
theorem dX9_chance_51 : decode cX9_chance 51 = .ok (.istore 8, 2) := by decide +kernel
theorem dX9_chance_53 : decode cX9_chance 53 = .ok (.iload 8, 2) := by decide +kernel
theorem dX9_chance_55 : decode cX9_chance 55 = .ok (.iload_n 3, 1) := by decide +kernel
theorem dX9_chance_56 : decode cX9_chance 56 = .ok (.if_icmp .ge 33, 3) := by decide +kernel
theorem dX9_chance_59 : decode cX9_chance 59 = .ok (.lload 6, 2) := by decide +kernel
theorem dX9_chance_61 : decode cX9_chance 61 = .ok (.aload_n 0, 1) := by decide +kernel
theorem dX9_chance_62 : decode cX9_chance 62 = .ok (.iload_n 1, 1) := by decide +kernel
theorem dX9_chance_63 : decode cX9_chance 63 = .ok (.iload_n 2, 1) := by decide +kernel
theorem dX9_chance_64 : decode cX9_chance 64 = .ok (.iload 8, 2) := by decide +kernel
theorem dX9_chance_66 : decode cX9_chance 66 = .ok (.iadd, 1) := by decide +kernel
theorem dX9_chance_67 : decode cX9_chance 67 = .ok (.invokevirtual 330, 3) := by decide +kernel
theorem dX9_chance_70 : decode cX9_chance 70 = .ok (.iload 4, 2) := by decide +kernel
theorem dX9_chance_72 : decode cX9_chance 72 = .ok (.if_icmp .gt 7, 3) := by decide +kernel
theorem dX9_chance_75 : decode cX9_chance 75 = .ok (.lconst 1, 1) := by decide +kernel
theorem dX9_chance_76 : decode cX9_chance 76 = .ok (.goto 4, 3) := by decide +kernel
theorem dX9_chance_79 : decode cX9_chance 79 = .ok (.lconst 0, 1) := by decide +kernel
theorem dX9_chance_80 : decode cX9_chance 80 = .ok (.ladd, 1) := by decide +kernel
theorem dX9_chance_81 : decode cX9_chance 81 = .ok (.lstore 6, 2) := by decide +kernel
theorem dX9_chance_83 : decode cX9_chance 83 = .ok (.iinc 8 1, 3) := by decide +kernel
theorem dX9_chance_86 : decode cX9_chance 86 = .ok (.goto (-33), 3) := by decide +kernel
theorem dX9_chance_89 : decode cX9_chance 89 = .ok (.lload 6, 2) := by decide +kernel
theorem dX9_chance_91 : decode cX9_chance 91 = .ok (.lstore 8, 2) := by decide +kernel
theorem dX9_chance_93 : decode cX9_chance 93 = .ok (.iload_n 3, 1) := by decide +kernel
theorem dX9_chance_94 : decode cX9_chance 94 = .ok (.i2l, 1) := by decide +kernel
theorem dX9_chance_95 : decode cX9_chance 95 = .ok (.lstore 10, 2) := by decide +kernel
theorem dX9_chance_97 : decode cX9_chance 97 = .ok (.lload 10, 2) := by decide +kernel
theorem dX9_chance_99 : decode cX9_chance 99 = .ok (.lconst 0, 1) := by decide +kernel
theorem dX9_chance_100 : decode cX9_chance 100 = .ok (.lcmp, 1) := by decide +kernel
theorem dX9_chance_101 : decode cX9_chance 101 = .ok (.ifCond .eq 21, 3) := by decide +kernel
theorem dX9_chance_104 : decode cX9_chance 104 = .ok (.lload 8, 2) := by decide +kernel
theorem dX9_chance_106 : decode cX9_chance 106 = .ok (.lload 10, 2) := by decide +kernel
theorem dX9_chance_108 : decode cX9_chance 108 = .ok (.lrem, 1) := by decide +kernel
theorem dX9_chance_109 : decode cX9_chance 109 = .ok (.lstore 12, 2) := by decide +kernel
theorem dX9_chance_111 : decode cX9_chance 111 = .ok (.lload 10, 2) := by decide +kernel
theorem dX9_chance_113 : decode cX9_chance 113 = .ok (.lstore 8, 2) := by decide +kernel
theorem dX9_chance_115 : decode cX9_chance 115 = .ok (.lload 12, 2) := by decide +kernel
theorem dX9_chance_117 : decode cX9_chance 117 = .ok (.lstore 10, 2) := by decide +kernel
theorem dX9_chance_119 : decode cX9_chance 119 = .ok (.goto (-22), 3) := by decide +kernel
theorem dX9_chance_122 : decode cX9_chance 122 = .ok (.iload 5, 2) := by decide +kernel
theorem dX9_chance_124 : decode cX9_chance 124 = .ok (.ifCond .ne 11, 3) := by decide +kernel
theorem dX9_chance_127 : decode cX9_chance 127 = .ok (.lload 6, 2) := by decide +kernel
theorem dX9_chance_129 : decode cX9_chance 129 = .ok (.lload 8, 2) := by decide +kernel
theorem dX9_chance_131 : decode cX9_chance 131 = .ok (.ldiv, 1) := by decide +kernel
theorem dX9_chance_132 : decode cX9_chance 132 = .ok (.goto 8, 3) := by decide +kernel
theorem dX9_chance_135 : decode cX9_chance 135 = .ok (.iload_n 3, 1) := by decide +kernel
theorem dX9_chance_136 : decode cX9_chance 136 = .ok (.i2l, 1) := by decide +kernel
theorem dX9_chance_137 : decode cX9_chance 137 = .ok (.lload 8, 2) := by decide +kernel
theorem dX9_chance_139 : decode cX9_chance 139 = .ok (.ldiv, 1) := by decide +kernel
theorem dX9_chance_140 : decode cX9_chance 140 = .ok (.lreturn, 1) := by decide +kernel
theorem dX9_image_0 : decode cX9_image 0 = .ok (.iconst 0, 1) := by decide +kernel
theorem dX9_image_1 : decode cX9_image 1 = .ok (.istore_n 1, 1) := by decide +kernel
theorem dX9_image_2 : decode cX9_image 2 = .ok (.iload_n 1, 1) := by decide +kernel
theorem dX9_image_3 : decode cX9_image 3 = .ok (.bipush 32, 2) := by decide +kernel
theorem dX9_image_5 : decode cX9_image 5 = .ok (.if_icmp .ge 21, 3) := by decide +kernel
theorem dX9_image_8 : decode cX9_image 8 = .ok (.aload_n 0, 1) := by decide +kernel
theorem dX9_image_9 : decode cX9_image 9 = .ok (.getfield 53, 3) := by decide +kernel
theorem dX9_image_12 : decode cX9_image 12 = .ok (.iload_n 1, 1) := by decide +kernel
theorem dX9_image_13 : decode cX9_image 13 = .ok (.aload_n 0, 1) := by decide +kernel
theorem dX9_image_14 : decode cX9_image 14 = .ok (.getfield 23, 3) := by decide +kernel
theorem dX9_image_17 : decode cX9_image 17 = .ok (.iload_n 1, 1) := by decide +kernel
theorem dX9_image_18 : decode cX9_image 18 = .ok (.iaload, 1) := by decide +kernel
theorem dX9_image_19 : decode cX9_image 19 = .ok (.iastore, 1) := by decide +kernel
theorem dX9_image_20 : decode cX9_image 20 = .ok (.iinc 1 1, 3) := by decide +kernel
theorem dX9_image_23 : decode cX9_image 23 = .ok (.goto (-21), 3) := by decide +kernel
theorem dX9_image_26 : decode cX9_image 26 = .ok (.iconst 0, 1) := by decide +kernel
theorem dX9_image_27 : decode cX9_image 27 = .ok (.istore_n 1, 1) := by decide +kernel
theorem dX9_image_28 : decode cX9_image 28 = .ok (.iload_n 1, 1) := by decide +kernel
theorem dX9_image_29 : decode cX9_image 29 = .ok (.bipush 8, 2) := by decide +kernel
theorem dX9_image_31 : decode cX9_image 31 = .ok (.if_icmp .ge 66, 3) := by decide +kernel
theorem dX9_image_34 : decode cX9_image 34 = .ok (.aload_n 0, 1) := by decide +kernel
theorem dX9_image_35 : decode cX9_image 35 = .ok (.getfield 56, 3) := by decide +kernel
theorem dX9_image_38 : decode cX9_image 38 = .ok (.iload_n 1, 1) := by decide +kernel
theorem dX9_image_39 : decode cX9_image 39 = .ok (.aload_n 0, 1) := by decide +kernel
theorem dX9_image_40 : decode cX9_image 40 = .ok (.getfield 29, 3) := by decide +kernel
theorem dX9_image_43 : decode cX9_image 43 = .ok (.iload_n 1, 1) := by decide +kernel
theorem dX9_image_44 : decode cX9_image 44 = .ok (.iaload, 1) := by decide +kernel
theorem dX9_image_45 : decode cX9_image 45 = .ok (.iastore, 1) := by decide +kernel
theorem dX9_image_46 : decode cX9_image 46 = .ok (.aload_n 0, 1) := by decide +kernel
theorem dX9_image_47 : decode cX9_image 47 = .ok (.getfield 56, 3) := by decide +kernel
theorem dX9_image_50 : decode cX9_image 50 = .ok (.bipush 8, 2) := by decide +kernel
theorem dX9_image_52 : decode cX9_image 52 = .ok (.iload_n 1, 1) := by decide +kernel
theorem dX9_image_53 : decode cX9_image 53 = .ok (.iadd, 1) := by decide +kernel
theorem dX9_image_54 : decode cX9_image 54 = .ok (.aload_n 0, 1) := by decide +kernel
theorem dX9_image_55 : decode cX9_image 55 = .ok (.getfield 32, 3) := by decide +kernel
theorem dX9_image_58 : decode cX9_image 58 = .ok (.iload_n 1, 1) := by decide +kernel
theorem dX9_image_59 : decode cX9_image 59 = .ok (.iaload, 1) := by decide +kernel
theorem dX9_image_60 : decode cX9_image 60 = .ok (.iastore, 1) := by decide +kernel
theorem dX9_image_61 : decode cX9_image 61 = .ok (.aload_n 0, 1) := by decide +kernel
theorem dX9_image_62 : decode cX9_image 62 = .ok (.getfield 56, 3) := by decide +kernel
theorem dX9_image_65 : decode cX9_image 65 = .ok (.bipush 16, 2) := by decide +kernel
theorem dX9_image_67 : decode cX9_image 67 = .ok (.iload_n 1, 1) := by decide +kernel
theorem dX9_image_68 : decode cX9_image 68 = .ok (.iadd, 1) := by decide +kernel
theorem dX9_image_69 : decode cX9_image 69 = .ok (.aload_n 0, 1) := by decide +kernel
theorem dX9_image_70 : decode cX9_image 70 = .ok (.getfield 35, 3) := by decide +kernel
theorem dX9_image_73 : decode cX9_image 73 = .ok (.iload_n 1, 1) := by decide +kernel
theorem dX9_image_74 : decode cX9_image 74 = .ok (.iaload, 1) := by decide +kernel
theorem dX9_image_75 : decode cX9_image 75 = .ok (.iastore, 1) := by decide +kernel
theorem dX9_image_76 : decode cX9_image 76 = .ok (.aload_n 0, 1) := by decide +kernel
theorem dX9_image_77 : decode cX9_image 77 = .ok (.getfield 56, 3) := by decide +kernel
theorem dX9_image_80 : decode cX9_image 80 = .ok (.bipush 24, 2) := by decide +kernel
theorem dX9_image_82 : decode cX9_image 82 = .ok (.iload_n 1, 1) := by decide +kernel
theorem dX9_image_83 : decode cX9_image 83 = .ok (.iadd, 1) := by decide +kernel
theorem dX9_image_84 : decode cX9_image 84 = .ok (.aload_n 0, 1) := by decide +kernel
theorem dX9_image_85 : decode cX9_image 85 = .ok (.getfield 38, 3) := by decide +kernel
theorem dX9_image_88 : decode cX9_image 88 = .ok (.iload_n 1, 1) := by decide +kernel
theorem dX9_image_89 : decode cX9_image 89 = .ok (.iaload, 1) := by decide +kernel
theorem dX9_image_90 : decode cX9_image 90 = .ok (.iastore, 1) := by decide +kernel
theorem dX9_image_91 : decode cX9_image 91 = .ok (.iinc 1 1, 3) := by decide +kernel
theorem dX9_image_94 : decode cX9_image 94 = .ok (.goto (-66), 3) := by decide +kernel
theorem dX9_image_97 : decode cX9_image 97 = .ok (.aload_n 0, 1) := by decide +kernel
theorem dX9_image_98 : decode cX9_image 98 = .ok (.aload_n 0, 1) := by decide +kernel
theorem dX9_image_99 : decode cX9_image 99 = .ok (.getfield 82, 3) := by decide +kernel
theorem dX9_image_102 : decode cX9_image 102 = .ok (.putfield 59, 3) := by decide +kernel
theorem dX9_image_105 : decode cX9_image 105 = .ok (.aload_n 0, 1) := by decide +kernel
theorem dX9_image_106 : decode cX9_image 106 = .ok (.aload_n 0, 1) := by decide +kernel
theorem dX9_image_107 : decode cX9_image 107 = .ok (.getfield 256, 3) := by decide +kernel
theorem dX9_image_110 : decode cX9_image 110 = .ok (.putfield 339, 3) := by decide +kernel
theorem dX9_image_113 : decode cX9_image 113 = .ok (.aload_n 0, 1) := by decide +kernel
theorem dX9_image_114 : decode cX9_image 114 = .ok (.getfield 82, 3) := by decide +kernel
theorem dX9_image_117 : decode cX9_image 117 = .ok (.ireturn, 1) := by decide +kernel
theorem dX9_back_0 : decode cX9_back 0 = .ok (.aload_n 0, 1) := by decide +kernel
theorem dX9_back_1 : decode cX9_back 1 = .ok (.getfield 59, 3) := by decide +kernel
theorem dX9_back_4 : decode cX9_back 4 = .ok (.iconst (-1), 1) := by decide +kernel
theorem dX9_back_5 : decode cX9_back 5 = .ok (.if_icmp .ne 6, 3) := by decide +kernel
theorem dX9_back_8 : decode cX9_back 8 = .ok (.bipush (-3), 2) := by decide +kernel
theorem dX9_back_10 : decode cX9_back 10 = .ok (.ireturn, 1) := by decide +kernel
theorem dX9_back_11 : decode cX9_back 11 = .ok (.iconst 0, 1) := by decide +kernel
theorem dX9_back_12 : decode cX9_back 12 = .ok (.istore_n 1, 1) := by decide +kernel
theorem dX9_back_13 : decode cX9_back 13 = .ok (.iload_n 1, 1) := by decide +kernel
theorem dX9_back_14 : decode cX9_back 14 = .ok (.bipush 32, 2) := by decide +kernel
theorem dX9_back_16 : decode cX9_back 16 = .ok (.if_icmp .ge 21, 3) := by decide +kernel
theorem dX9_back_19 : decode cX9_back 19 = .ok (.aload_n 0, 1) := by decide +kernel
theorem dX9_back_20 : decode cX9_back 20 = .ok (.getfield 23, 3) := by decide +kernel
theorem dX9_back_23 : decode cX9_back 23 = .ok (.iload_n 1, 1) := by decide +kernel
theorem dX9_back_24 : decode cX9_back 24 = .ok (.aload_n 0, 1) := by decide +kernel
theorem dX9_back_25 : decode cX9_back 25 = .ok (.getfield 53, 3) := by decide +kernel
theorem dX9_back_28 : decode cX9_back 28 = .ok (.iload_n 1, 1) := by decide +kernel
theorem dX9_back_29 : decode cX9_back 29 = .ok (.iaload, 1) := by decide +kernel
theorem dX9_back_30 : decode cX9_back 30 = .ok (.iastore, 1) := by decide +kernel
theorem dX9_back_31 : decode cX9_back 31 = .ok (.iinc 1 1, 3) := by decide +kernel
theorem dX9_back_34 : decode cX9_back 34 = .ok (.goto (-21), 3) := by decide +kernel
theorem dX9_back_37 : decode cX9_back 37 = .ok (.iconst 0, 1) := by decide +kernel
theorem dX9_back_38 : decode cX9_back 38 = .ok (.istore_n 1, 1) := by decide +kernel
theorem dX9_back_39 : decode cX9_back 39 = .ok (.iload_n 1, 1) := by decide +kernel
theorem dX9_back_40 : decode cX9_back 40 = .ok (.bipush 8, 2) := by decide +kernel
theorem dX9_back_42 : decode cX9_back 42 = .ok (.if_icmp .ge 66, 3) := by decide +kernel
theorem dX9_back_45 : decode cX9_back 45 = .ok (.aload_n 0, 1) := by decide +kernel
theorem dX9_back_46 : decode cX9_back 46 = .ok (.getfield 29, 3) := by decide +kernel
theorem dX9_back_49 : decode cX9_back 49 = .ok (.iload_n 1, 1) := by decide +kernel
theorem dX9_back_50 : decode cX9_back 50 = .ok (.aload_n 0, 1) := by decide +kernel
theorem dX9_back_51 : decode cX9_back 51 = .ok (.getfield 56, 3) := by decide +kernel
theorem dX9_back_54 : decode cX9_back 54 = .ok (.iload_n 1, 1) := by decide +kernel
theorem dX9_back_55 : decode cX9_back 55 = .ok (.iaload, 1) := by decide +kernel
theorem dX9_back_56 : decode cX9_back 56 = .ok (.iastore, 1) := by decide +kernel
theorem dX9_back_57 : decode cX9_back 57 = .ok (.aload_n 0, 1) := by decide +kernel
theorem dX9_back_58 : decode cX9_back 58 = .ok (.getfield 32, 3) := by decide +kernel
theorem dX9_back_61 : decode cX9_back 61 = .ok (.iload_n 1, 1) := by decide +kernel
theorem dX9_back_62 : decode cX9_back 62 = .ok (.aload_n 0, 1) := by decide +kernel
theorem dX9_back_63 : decode cX9_back 63 = .ok (.getfield 56, 3) := by decide +kernel
theorem dX9_back_66 : decode cX9_back 66 = .ok (.bipush 8, 2) := by decide +kernel
theorem dX9_back_68 : decode cX9_back 68 = .ok (.iload_n 1, 1) := by decide +kernel
theorem dX9_back_69 : decode cX9_back 69 = .ok (.iadd, 1) := by decide +kernel
theorem dX9_back_70 : decode cX9_back 70 = .ok (.iaload, 1) := by decide +kernel
theorem dX9_back_71 : decode cX9_back 71 = .ok (.iastore, 1) := by decide +kernel
theorem dX9_back_72 : decode cX9_back 72 = .ok (.aload_n 0, 1) := by decide +kernel
theorem dX9_back_73 : decode cX9_back 73 = .ok (.getfield 35, 3) := by decide +kernel
theorem dX9_back_76 : decode cX9_back 76 = .ok (.iload_n 1, 1) := by decide +kernel
theorem dX9_back_77 : decode cX9_back 77 = .ok (.aload_n 0, 1) := by decide +kernel
theorem dX9_back_78 : decode cX9_back 78 = .ok (.getfield 56, 3) := by decide +kernel
theorem dX9_back_81 : decode cX9_back 81 = .ok (.bipush 16, 2) := by decide +kernel
theorem dX9_back_83 : decode cX9_back 83 = .ok (.iload_n 1, 1) := by decide +kernel
theorem dX9_back_84 : decode cX9_back 84 = .ok (.iadd, 1) := by decide +kernel
theorem dX9_back_85 : decode cX9_back 85 = .ok (.iaload, 1) := by decide +kernel
theorem dX9_back_86 : decode cX9_back 86 = .ok (.iastore, 1) := by decide +kernel
theorem dX9_back_87 : decode cX9_back 87 = .ok (.aload_n 0, 1) := by decide +kernel
theorem dX9_back_88 : decode cX9_back 88 = .ok (.getfield 38, 3) := by decide +kernel
theorem dX9_back_91 : decode cX9_back 91 = .ok (.iload_n 1, 1) := by decide +kernel
theorem dX9_back_92 : decode cX9_back 92 = .ok (.aload_n 0, 1) := by decide +kernel
theorem dX9_back_93 : decode cX9_back 93 = .ok (.getfield 56, 3) := by decide +kernel
theorem dX9_back_96 : decode cX9_back 96 = .ok (.bipush 24, 2) := by decide +kernel
theorem dX9_back_98 : decode cX9_back 98 = .ok (.iload_n 1, 1) := by decide +kernel
theorem dX9_back_99 : decode cX9_back 99 = .ok (.iadd, 1) := by decide +kernel
theorem dX9_back_100 : decode cX9_back 100 = .ok (.iaload, 1) := by decide +kernel
theorem dX9_back_101 : decode cX9_back 101 = .ok (.iastore, 1) := by decide +kernel
theorem dX9_back_102 : decode cX9_back 102 = .ok (.iinc 1 1, 3) := by decide +kernel
theorem dX9_back_105 : decode cX9_back 105 = .ok (.goto (-66), 3) := by decide +kernel
theorem dX9_back_108 : decode cX9_back 108 = .ok (.aload_n 0, 1) := by decide +kernel
theorem dX9_back_109 : decode cX9_back 109 = .ok (.aload_n 0, 1) := by decide +kernel
theorem dX9_back_110 : decode cX9_back 110 = .ok (.getfield 59, 3) := by decide +kernel
theorem dX9_back_113 : decode cX9_back 113 = .ok (.putfield 82, 3) := by decide +kernel
theorem dX9_back_116 : decode cX9_back 116 = .ok (.aload_n 0, 1) := by decide +kernel
theorem dX9_back_117 : decode cX9_back 117 = .ok (.aload_n 0, 1) := by decide +kernel
theorem dX9_back_118 : decode cX9_back 118 = .ok (.getfield 339, 3) := by decide +kernel
theorem dX9_back_121 : decode cX9_back 121 = .ok (.putfield 256, 3) := by decide +kernel
theorem dX9_back_124 : decode cX9_back 124 = .ok (.aload_n 0, 1) := by decide +kernel
theorem dX9_back_125 : decode cX9_back 125 = .ok (.getfield 82, 3) := by decide +kernel
theorem dX9_back_128 : decode cX9_back 128 = .ok (.ireturn, 1) := by decide +kernel
theorem dX9_count_0 : decode cX9_count 0 = .ok (.iload_n 1, 1) := by decide +kernel
theorem dX9_count_1 : decode cX9_count 1 = .ok (.i2l, 1) := by decide +kernel
theorem dX9_count_2 : decode cX9_count 2 = .ok (.lconst 0, 1) := by decide +kernel
theorem dX9_count_3 : decode cX9_count 3 = .ok (.ldc2_w 97, 3) := by decide +kernel
theorem dX9_count_6 : decode cX9_count 6 = .ok (.invokestatic 85, 3) := by decide +kernel
theorem dX9_count_9 : decode cX9_count 9 = .ok (.ifCond .ne 6, 3) := by decide +kernel
theorem dX9_count_12 : decode cX9_count 12 = .ok (.bipush (-2), 2) := by decide +kernel
theorem dX9_count_14 : decode cX9_count 14 = .ok (.ireturn, 1) := by decide +kernel
theorem dX9_count_15 : decode cX9_count 15 = .ok (.iload_n 1, 1) := by decide +kernel
theorem dX9_count_16 : decode cX9_count 16 = .ok (.iconst 4, 1) := by decide +kernel
theorem dX9_count_17 : decode cX9_count 17 = .ok (.if_icmp .ge 43, 3) := by decide +kernel
theorem dX9_count_20 : decode cX9_count 20 = .ok (.iload_n 1, 1) := by decide +kernel
theorem dX9_count_21 : decode cX9_count 21 = .ok (.ifCond .ne 10, 3) := by decide +kernel
theorem dX9_count_24 : decode cX9_count 24 = .ok (.aload_n 0, 1) := by decide +kernel
theorem dX9_count_25 : decode cX9_count 25 = .ok (.getfield 82, 3) := by decide +kernel
theorem dX9_count_28 : decode cX9_count 28 = .ok (.goto 31, 3) := by decide +kernel
theorem dX9_count_31 : decode cX9_count 31 = .ok (.iload_n 1, 1) := by decide +kernel
theorem dX9_count_32 : decode cX9_count 32 = .ok (.iconst 1, 1) := by decide +kernel
theorem dX9_count_33 : decode cX9_count 33 = .ok (.if_icmp .ne 10, 3) := by decide +kernel
theorem dX9_count_36 : decode cX9_count 36 = .ok (.aload_n 0, 1) := by decide +kernel
theorem dX9_count_37 : decode cX9_count 37 = .ok (.getfield 79, 3) := by decide +kernel
theorem dX9_count_40 : decode cX9_count 40 = .ok (.goto 19, 3) := by decide +kernel
theorem dX9_count_43 : decode cX9_count 43 = .ok (.iload_n 1, 1) := by decide +kernel
theorem dX9_count_44 : decode cX9_count 44 = .ok (.iconst 2, 1) := by decide +kernel
theorem dX9_count_45 : decode cX9_count 45 = .ok (.if_icmp .ne 10, 3) := by decide +kernel
theorem dX9_count_48 : decode cX9_count 48 = .ok (.aload_n 0, 1) := by decide +kernel
theorem dX9_count_49 : decode cX9_count 49 = .ok (.getfield 139, 3) := by decide +kernel
theorem dX9_count_52 : decode cX9_count 52 = .ok (.goto 7, 3) := by decide +kernel
theorem dX9_count_55 : decode cX9_count 55 = .ok (.aload_n 0, 1) := by decide +kernel
theorem dX9_count_56 : decode cX9_count 56 = .ok (.getfield 256, 3) := by decide +kernel
theorem dX9_count_59 : decode cX9_count 59 = .ok (.ireturn, 1) := by decide +kernel
theorem dX9_count_60 : decode cX9_count 60 = .ok (.iconst 0, 1) := by decide +kernel
theorem dX9_count_61 : decode cX9_count 61 = .ok (.istore_n 2, 1) := by decide +kernel
theorem dX9_count_62 : decode cX9_count 62 = .ok (.iconst 0, 1) := by decide +kernel
theorem dX9_count_63 : decode cX9_count 63 = .ok (.istore_n 3, 1) := by decide +kernel
theorem dX9_count_64 : decode cX9_count 64 = .ok (.iload_n 3, 1) := by decide +kernel
theorem dX9_count_65 : decode cX9_count 65 = .ok (.bipush 32, 2) := by decide +kernel
theorem dX9_count_67 : decode cX9_count 67 = .ok (.if_icmp .ge 18, 3) := by decide +kernel
theorem dX9_count_70 : decode cX9_count 70 = .ok (.iload_n 2, 1) := by decide +kernel
theorem dX9_count_71 : decode cX9_count 71 = .ok (.aload_n 0, 1) := by decide +kernel
theorem dX9_count_72 : decode cX9_count 72 = .ok (.getfield 23, 3) := by decide +kernel
theorem dX9_count_75 : decode cX9_count 75 = .ok (.iload_n 3, 1) := by decide +kernel
theorem dX9_count_76 : decode cX9_count 76 = .ok (.iaload, 1) := by decide +kernel
theorem dX9_count_77 : decode cX9_count 77 = .ok (.iadd, 1) := by decide +kernel
theorem dX9_count_78 : decode cX9_count 78 = .ok (.istore_n 2, 1) := by decide +kernel
theorem dX9_count_79 : decode cX9_count 79 = .ok (.iinc 3 1, 3) := by decide +kernel
theorem dX9_count_82 : decode cX9_count 82 = .ok (.goto (-18), 3) := by decide +kernel
theorem dX9_count_85 : decode cX9_count 85 = .ok (.iload_n 2, 1) := by decide +kernel
theorem dX9_count_86 : decode cX9_count 86 = .ok (.ireturn, 1) := by decide +kernel
theorem dX9_isSheet_0 : decode cX9_isSheet 0 = .ok (.iload_n 0, 1) := by decide +kernel
theorem dX9_isSheet_1 : decode cX9_isSheet 1 = .ok (.i2l, 1) := by decide +kernel
theorem dX9_isSheet_2 : decode cX9_isSheet 2 = .ok (.lconst 0, 1) := by decide +kernel
theorem dX9_isSheet_3 : decode cX9_isSheet 3 = .ok (.ldc2_w 342, 3) := by decide +kernel
theorem dX9_isSheet_6 : decode cX9_isSheet 6 = .ok (.invokestatic 85, 3) := by decide +kernel
theorem dX9_isSheet_9 : decode cX9_isSheet 9 = .ok (.ireturn, 1) := by decide +kernel
theorem dX9_sheet_0 : decode cX9_sheet 0 = .ok (.iload_n 1, 1) := by decide +kernel
theorem dX9_sheet_1 : decode cX9_sheet 1 = .ok (.invokestatic 294, 3) := by decide +kernel
theorem dX9_sheet_4 : decode cX9_sheet 4 = .ok (.ifCond .eq 27, 3) := by decide +kernel
theorem dX9_sheet_7 : decode cX9_sheet 7 = .ok (.iload_n 2, 1) := by decide +kernel
theorem dX9_sheet_8 : decode cX9_sheet 8 = .ok (.i2l, 1) := by decide +kernel
theorem dX9_sheet_9 : decode cX9_sheet 9 = .ok (.ldc2_w 344, 3) := by decide +kernel
theorem dX9_sheet_12 : decode cX9_sheet 12 = .ok (.ldc2_w 95, 3) := by decide +kernel
theorem dX9_sheet_15 : decode cX9_sheet 15 = .ok (.invokestatic 85, 3) := by decide +kernel
theorem dX9_sheet_18 : decode cX9_sheet 18 = .ok (.ifCond .eq 13, 3) := by decide +kernel
theorem dX9_sheet_21 : decode cX9_sheet 21 = .ok (.iload_n 2, 1) := by decide +kernel
theorem dX9_sheet_22 : decode cX9_sheet 22 = .ok (.ifCond .lt 12, 3) := by decide +kernel
theorem dX9_sheet_25 : decode cX9_sheet 25 = .ok (.iload_n 3, 1) := by decide +kernel
theorem dX9_sheet_26 : decode cX9_sheet 26 = .ok (.bipush 40, 2) := by decide +kernel
theorem dX9_sheet_28 : decode cX9_sheet 28 = .ok (.if_icmp .le 6, 3) := by decide +kernel
theorem dX9_sheet_31 : decode cX9_sheet 31 = .ok (.bipush (-2), 2) := by decide +kernel
theorem dX9_sheet_33 : decode cX9_sheet 33 = .ok (.ireturn, 1) := by decide +kernel
theorem dX9_sheet_34 : decode cX9_sheet 34 = .ok (.iload_n 2, 1) := by decide +kernel
theorem dX9_sheet_35 : decode cX9_sheet 35 = .ok (.ifCond .lt 10, 3) := by decide +kernel
theorem dX9_sheet_38 : decode cX9_sheet 38 = .ok (.iload_n 3, 1) := by decide +kernel
theorem dX9_sheet_39 : decode cX9_sheet 39 = .ok (.ifCond .ge 6, 3) := by decide +kernel
theorem dX9_sheet_42 : decode cX9_sheet 42 = .ok (.bipush (-14), 2) := by decide +kernel
theorem dX9_sheet_44 : decode cX9_sheet 44 = .ok (.ireturn, 1) := by decide +kernel
theorem dX9_sheet_45 : decode cX9_sheet 45 = .ok (.aload_n 0, 1) := by decide +kernel
theorem dX9_sheet_46 : decode cX9_sheet 46 = .ok (.getfield 62, 3) := by decide +kernel
theorem dX9_sheet_49 : decode cX9_sheet 49 = .ok (.iload_n 1, 1) := by decide +kernel
theorem dX9_sheet_50 : decode cX9_sheet 50 = .ok (.iload_n 2, 1) := by decide +kernel
theorem dX9_sheet_51 : decode cX9_sheet 51 = .ok (.ifCond .lt 7, 3) := by decide +kernel
theorem dX9_sheet_54 : decode cX9_sheet 54 = .ok (.iconst 1, 1) := by decide +kernel
theorem dX9_sheet_55 : decode cX9_sheet 55 = .ok (.goto 4, 3) := by decide +kernel
theorem dX9_sheet_58 : decode cX9_sheet 58 = .ok (.iconst 0, 1) := by decide +kernel
theorem dX9_sheet_59 : decode cX9_sheet 59 = .ok (.bastore, 1) := by decide +kernel
theorem dX9_sheet_60 : decode cX9_sheet 60 = .ok (.aload_n 0, 1) := by decide +kernel
theorem dX9_sheet_61 : decode cX9_sheet 61 = .ok (.getfield 66, 3) := by decide +kernel
theorem dX9_sheet_64 : decode cX9_sheet 64 = .ok (.iload_n 1, 1) := by decide +kernel
theorem dX9_sheet_65 : decode cX9_sheet 65 = .ok (.iload_n 2, 1) := by decide +kernel
theorem dX9_sheet_66 : decode cX9_sheet 66 = .ok (.iastore, 1) := by decide +kernel
theorem dX9_sheet_67 : decode cX9_sheet 67 = .ok (.aload_n 0, 1) := by decide +kernel
theorem dX9_sheet_68 : decode cX9_sheet 68 = .ok (.getfield 69, 3) := by decide +kernel
theorem dX9_sheet_71 : decode cX9_sheet 71 = .ok (.iload_n 1, 1) := by decide +kernel
theorem dX9_sheet_72 : decode cX9_sheet 72 = .ok (.iload_n 3, 1) := by decide +kernel
theorem dX9_sheet_73 : decode cX9_sheet 73 = .ok (.iastore, 1) := by decide +kernel
theorem dX9_sheet_74 : decode cX9_sheet 74 = .ok (.iconst 0, 1) := by decide +kernel
theorem dX9_sheet_75 : decode cX9_sheet 75 = .ok (.istore 4, 2) := by decide +kernel
theorem dX9_sheet_77 : decode cX9_sheet 77 = .ok (.iload 4, 2) := by decide +kernel
theorem dX9_sheet_79 : decode cX9_sheet 79 = .ok (.iload_n 3, 1) := by decide +kernel
theorem dX9_sheet_80 : decode cX9_sheet 80 = .ok (.if_icmp .ge 26, 3) := by decide +kernel
theorem dX9_sheet_83 : decode cX9_sheet 83 = .ok (.iload_n 2, 1) := by decide +kernel
theorem dX9_sheet_84 : decode cX9_sheet 84 = .ok (.ifCond .lt 22, 3) := by decide +kernel
theorem dX9_sheet_87 : decode cX9_sheet 87 = .ok (.aload_n 0, 1) := by decide +kernel
theorem dX9_sheet_88 : decode cX9_sheet 88 = .ok (.getfield 72, 3) := by decide +kernel
theorem dX9_sheet_91 : decode cX9_sheet 91 = .ok (.bipush 40, 2) := by decide +kernel
theorem dX9_sheet_93 : decode cX9_sheet 93 = .ok (.iload_n 1, 1) := by decide +kernel
theorem dX9_sheet_94 : decode cX9_sheet 94 = .ok (.imul, 1) := by decide +kernel
theorem dX9_sheet_95 : decode cX9_sheet 95 = .ok (.iload 4, 2) := by decide +kernel
theorem dX9_sheet_97 : decode cX9_sheet 97 = .ok (.iadd, 1) := by decide +kernel
theorem dX9_sheet_98 : decode cX9_sheet 98 = .ok (.iconst 0, 1) := by decide +kernel
theorem dX9_sheet_99 : decode cX9_sheet 99 = .ok (.iastore, 1) := by decide +kernel
theorem dX9_sheet_100 : decode cX9_sheet 100 = .ok (.iinc 4 1, 3) := by decide +kernel
theorem dX9_sheet_103 : decode cX9_sheet 103 = .ok (.goto (-26), 3) := by decide +kernel
theorem dX9_sheet_106 : decode cX9_sheet 106 = .ok (.iconst 1, 1) := by decide +kernel
theorem dX9_sheet_107 : decode cX9_sheet 107 = .ok (.ireturn, 1) := by decide +kernel
theorem dX9_cell_0 : decode cX9_cell 0 = .ok (.iload_n 1, 1) := by decide +kernel
theorem dX9_cell_1 : decode cX9_cell 1 = .ok (.invokestatic 294, 3) := by decide +kernel
theorem dX9_cell_4 : decode cX9_cell 4 = .ok (.ifCond .ne 6, 3) := by decide +kernel
theorem dX9_cell_7 : decode cX9_cell 7 = .ok (.bipush (-2), 2) := by decide +kernel
theorem dX9_cell_9 : decode cX9_cell 9 = .ok (.ireturn, 1) := by decide +kernel
theorem dX9_cell_10 : decode cX9_cell 10 = .ok (.aload_n 0, 1) := by decide +kernel
theorem dX9_cell_11 : decode cX9_cell 11 = .ok (.getfield 62, 3) := by decide +kernel
theorem dX9_cell_14 : decode cX9_cell 14 = .ok (.iload_n 1, 1) := by decide +kernel
theorem dX9_cell_15 : decode cX9_cell 15 = .ok (.baload, 1) := by decide +kernel
theorem dX9_cell_16 : decode cX9_cell 16 = .ok (.ifCond .ne 6, 3) := by decide +kernel
theorem dX9_cell_19 : decode cX9_cell 19 = .ok (.bipush (-11), 2) := by decide +kernel
theorem dX9_cell_21 : decode cX9_cell 21 = .ok (.ireturn, 1) := by decide +kernel
theorem dX9_cell_22 : decode cX9_cell 22 = .ok (.iload_n 2, 1) := by decide +kernel
theorem dX9_cell_23 : decode cX9_cell 23 = .ok (.i2l, 1) := by decide +kernel
theorem dX9_cell_24 : decode cX9_cell 24 = .ok (.lconst 0, 1) := by decide +kernel
theorem dX9_cell_25 : decode cX9_cell 25 = .ok (.aload_n 0, 1) := by decide +kernel
theorem dX9_cell_26 : decode cX9_cell 26 = .ok (.getfield 69, 3) := by decide +kernel
theorem dX9_cell_29 : decode cX9_cell 29 = .ok (.iload_n 1, 1) := by decide +kernel
theorem dX9_cell_30 : decode cX9_cell 30 = .ok (.iaload, 1) := by decide +kernel
theorem dX9_cell_31 : decode cX9_cell 31 = .ok (.iconst 1, 1) := by decide +kernel
theorem dX9_cell_32 : decode cX9_cell 32 = .ok (.isub, 1) := by decide +kernel
theorem dX9_cell_33 : decode cX9_cell 33 = .ok (.i2l, 1) := by decide +kernel
theorem dX9_cell_34 : decode cX9_cell 34 = .ok (.invokestatic 85, 3) := by decide +kernel
theorem dX9_cell_37 : decode cX9_cell 37 = .ok (.ifCond .ne 6, 3) := by decide +kernel
theorem dX9_cell_40 : decode cX9_cell 40 = .ok (.bipush (-12), 2) := by decide +kernel
theorem dX9_cell_42 : decode cX9_cell 42 = .ok (.ireturn, 1) := by decide +kernel
theorem dX9_cell_43 : decode cX9_cell 43 = .ok (.aload_n 0, 1) := by decide +kernel
theorem dX9_cell_44 : decode cX9_cell 44 = .ok (.getfield 72, 3) := by decide +kernel
theorem dX9_cell_47 : decode cX9_cell 47 = .ok (.bipush 40, 2) := by decide +kernel
theorem dX9_cell_49 : decode cX9_cell 49 = .ok (.iload_n 1, 1) := by decide +kernel
theorem dX9_cell_50 : decode cX9_cell 50 = .ok (.imul, 1) := by decide +kernel
theorem dX9_cell_51 : decode cX9_cell 51 = .ok (.iload_n 2, 1) := by decide +kernel
theorem dX9_cell_52 : decode cX9_cell 52 = .ok (.iadd, 1) := by decide +kernel
theorem dX9_cell_53 : decode cX9_cell 53 = .ok (.aload_n 0, 1) := by decide +kernel
theorem dX9_cell_54 : decode cX9_cell 54 = .ok (.getfield 66, 3) := by decide +kernel
theorem dX9_cell_57 : decode cX9_cell 57 = .ok (.iload_n 1, 1) := by decide +kernel
theorem dX9_cell_58 : decode cX9_cell 58 = .ok (.iaload, 1) := by decide +kernel
theorem dX9_cell_59 : decode cX9_cell 59 = .ok (.ifCond .ne 8, 3) := by decide +kernel
theorem dX9_cell_62 : decode cX9_cell 62 = .ok (.iload_n 3, 1) := by decide +kernel
theorem dX9_cell_63 : decode cX9_cell 63 = .ok (.i2b, 1) := by decide +kernel
theorem dX9_cell_64 : decode cX9_cell 64 = .ok (.goto 19, 3) := by decide +kernel
theorem dX9_cell_67 : decode cX9_cell 67 = .ok (.aload_n 0, 1) := by decide +kernel
theorem dX9_cell_68 : decode cX9_cell 68 = .ok (.getfield 66, 3) := by decide +kernel
theorem dX9_cell_71 : decode cX9_cell 71 = .ok (.iload_n 1, 1) := by decide +kernel
theorem dX9_cell_72 : decode cX9_cell 72 = .ok (.iaload, 1) := by decide +kernel
theorem dX9_cell_73 : decode cX9_cell 73 = .ok (.iconst 1, 1) := by decide +kernel
theorem dX9_cell_74 : decode cX9_cell 74 = .ok (.if_icmp .ne 8, 3) := by decide +kernel
theorem dX9_cell_77 : decode cX9_cell 77 = .ok (.iload_n 3, 1) := by decide +kernel
theorem dX9_cell_78 : decode cX9_cell 78 = .ok (.i2s, 1) := by decide +kernel
theorem dX9_cell_79 : decode cX9_cell 79 = .ok (.goto 4, 3) := by decide +kernel
theorem dX9_cell_82 : decode cX9_cell 82 = .ok (.iload_n 3, 1) := by decide +kernel
theorem dX9_cell_83 : decode cX9_cell 83 = .ok (.iastore, 1) := by decide +kernel
theorem dX9_cell_84 : decode cX9_cell 84 = .ok (.iconst 1, 1) := by decide +kernel
theorem dX9_cell_85 : decode cX9_cell 85 = .ok (.ireturn, 1) := by decide +kernel
theorem dX9_copy_0 : decode cX9_copy 0 = .ok (.iload_n 1, 1) := by decide +kernel
theorem dX9_copy_1 : decode cX9_copy 1 = .ok (.invokestatic 294, 3) := by decide +kernel
theorem dX9_copy_4 : decode cX9_copy 4 = .ok (.ifCond .eq 10, 3) := by decide +kernel
theorem dX9_copy_7 : decode cX9_copy 7 = .ok (.iload_n 3, 1) := by decide +kernel
theorem dX9_copy_8 : decode cX9_copy 8 = .ok (.invokestatic 294, 3) := by decide +kernel
theorem dX9_copy_11 : decode cX9_copy 11 = .ok (.ifCond .ne 6, 3) := by decide +kernel
theorem dX9_copy_14 : decode cX9_copy 14 = .ok (.bipush (-2), 2) := by decide +kernel
theorem dX9_copy_16 : decode cX9_copy 16 = .ok (.ireturn, 1) := by decide +kernel
theorem dX9_copy_17 : decode cX9_copy 17 = .ok (.aload_n 0, 1) := by decide +kernel
theorem dX9_copy_18 : decode cX9_copy 18 = .ok (.getfield 62, 3) := by decide +kernel
theorem dX9_copy_21 : decode cX9_copy 21 = .ok (.iload_n 1, 1) := by decide +kernel
theorem dX9_copy_22 : decode cX9_copy 22 = .ok (.baload, 1) := by decide +kernel
theorem dX9_copy_23 : decode cX9_copy 23 = .ok (.ifCond .eq 12, 3) := by decide +kernel
theorem dX9_copy_26 : decode cX9_copy 26 = .ok (.aload_n 0, 1) := by decide +kernel
theorem dX9_copy_27 : decode cX9_copy 27 = .ok (.getfield 62, 3) := by decide +kernel
theorem dX9_copy_30 : decode cX9_copy 30 = .ok (.iload_n 3, 1) := by decide +kernel
theorem dX9_copy_31 : decode cX9_copy 31 = .ok (.baload, 1) := by decide +kernel
theorem dX9_copy_32 : decode cX9_copy 32 = .ok (.ifCond .ne 6, 3) := by decide +kernel
theorem dX9_copy_35 : decode cX9_copy 35 = .ok (.bipush (-11), 2) := by decide +kernel
theorem dX9_copy_37 : decode cX9_copy 37 = .ok (.ireturn, 1) := by decide +kernel
theorem dX9_copy_38 : decode cX9_copy 38 = .ok (.aload_n 0, 1) := by decide +kernel
theorem dX9_copy_39 : decode cX9_copy 39 = .ok (.getfield 66, 3) := by decide +kernel
theorem dX9_copy_42 : decode cX9_copy 42 = .ok (.iload_n 1, 1) := by decide +kernel
theorem dX9_copy_43 : decode cX9_copy 43 = .ok (.iaload, 1) := by decide +kernel
theorem dX9_copy_44 : decode cX9_copy 44 = .ok (.aload_n 0, 1) := by decide +kernel
theorem dX9_copy_45 : decode cX9_copy 45 = .ok (.getfield 66, 3) := by decide +kernel
theorem dX9_copy_48 : decode cX9_copy 48 = .ok (.iload_n 3, 1) := by decide +kernel
theorem dX9_copy_49 : decode cX9_copy 49 = .ok (.iaload, 1) := by decide +kernel
theorem dX9_copy_50 : decode cX9_copy 50 = .ok (.if_icmp .eq 6, 3) := by decide +kernel
theorem dX9_copy_53 : decode cX9_copy 53 = .ok (.bipush (-13), 2) := by decide +kernel
theorem dX9_copy_55 : decode cX9_copy 55 = .ok (.ireturn, 1) := by decide +kernel
theorem dX9_copy_56 : decode cX9_copy 56 = .ok (.iload 5, 2) := by decide +kernel
theorem dX9_copy_58 : decode cX9_copy 58 = .ok (.ifCond .lt 39, 3) := by decide +kernel
theorem dX9_copy_61 : decode cX9_copy 61 = .ok (.iload_n 2, 1) := by decide +kernel
theorem dX9_copy_62 : decode cX9_copy 62 = .ok (.ifCond .lt 35, 3) := by decide +kernel
theorem dX9_copy_65 : decode cX9_copy 65 = .ok (.iload 4, 2) := by decide +kernel
theorem dX9_copy_67 : decode cX9_copy 67 = .ok (.ifCond .lt 30, 3) := by decide +kernel
theorem dX9_copy_70 : decode cX9_copy 70 = .ok (.iload_n 2, 1) := by decide +kernel
theorem dX9_copy_71 : decode cX9_copy 71 = .ok (.aload_n 0, 1) := by decide +kernel
theorem dX9_copy_72 : decode cX9_copy 72 = .ok (.getfield 69, 3) := by decide +kernel
theorem dX9_copy_75 : decode cX9_copy 75 = .ok (.iload_n 1, 1) := by decide +kernel
theorem dX9_copy_76 : decode cX9_copy 76 = .ok (.iaload, 1) := by decide +kernel
theorem dX9_copy_77 : decode cX9_copy 77 = .ok (.iload 5, 2) := by decide +kernel
theorem dX9_copy_79 : decode cX9_copy 79 = .ok (.isub, 1) := by decide +kernel
theorem dX9_copy_80 : decode cX9_copy 80 = .ok (.if_icmp .gt 17, 3) := by decide +kernel
theorem dX9_copy_83 : decode cX9_copy 83 = .ok (.iload 4, 2) := by decide +kernel
theorem dX9_copy_85 : decode cX9_copy 85 = .ok (.aload_n 0, 1) := by decide +kernel
theorem dX9_copy_86 : decode cX9_copy 86 = .ok (.getfield 69, 3) := by decide +kernel
theorem dX9_copy_89 : decode cX9_copy 89 = .ok (.iload_n 3, 1) := by decide +kernel
theorem dX9_copy_90 : decode cX9_copy 90 = .ok (.iaload, 1) := by decide +kernel
theorem dX9_copy_91 : decode cX9_copy 91 = .ok (.iload 5, 2) := by decide +kernel
theorem dX9_copy_93 : decode cX9_copy 93 = .ok (.isub, 1) := by decide +kernel
theorem dX9_copy_94 : decode cX9_copy 94 = .ok (.if_icmp .le 6, 3) := by decide +kernel
theorem dX9_copy_97 : decode cX9_copy 97 = .ok (.bipush (-12), 2) := by decide +kernel
theorem dX9_copy_99 : decode cX9_copy 99 = .ok (.ireturn, 1) := by decide +kernel
theorem dX9_copy_100 : decode cX9_copy 100 = .ok (.iload_n 1, 1) := by decide +kernel
theorem dX9_copy_101 : decode cX9_copy 101 = .ok (.iload_n 3, 1) := by decide +kernel
theorem dX9_copy_102 : decode cX9_copy 102 = .ok (.if_icmp .ne 13, 3) := by decide +kernel
theorem dX9_copy_105 : decode cX9_copy 105 = .ok (.iload_n 2, 1) := by decide +kernel
theorem dX9_copy_106 : decode cX9_copy 106 = .ok (.iload 4, 2) := by decide +kernel
theorem dX9_copy_108 : decode cX9_copy 108 = .ok (.if_icmp .ge 7, 3) := by decide +kernel
theorem dX9_copy_111 : decode cX9_copy 111 = .ok (.iconst 1, 1) := by decide +kernel
theorem dX9_copy_112 : decode cX9_copy 112 = .ok (.goto 4, 3) := by decide +kernel
theorem dX9_copy_115 : decode cX9_copy 115 = .ok (.iconst 0, 1) := by decide +kernel
theorem dX9_copy_116 : decode cX9_copy 116 = .ok (.istore 6, 2) := by decide +kernel
theorem dX9_copy_118 : decode cX9_copy 118 = .ok (.iconst 0, 1) := by decide +kernel
theorem dX9_copy_119 : decode cX9_copy 119 = .ok (.istore 7, 2) := by decide +kernel
theorem dX9_copy_121 : decode cX9_copy 121 = .ok (.iload 7, 2) := by decide +kernel
theorem dX9_copy_123 : decode cX9_copy 123 = .ok (.iload 5, 2) := by decide +kernel
theorem dX9_copy_125 : decode cX9_copy 125 = .ok (.if_icmp .ge 57, 3) := by decide +kernel
theorem dX9_copy_128 : decode cX9_copy 128 = .ok (.iload 6, 2) := by decide +kernel
theorem dX9_copy_130 : decode cX9_copy 130 = .ok (.ifCond .eq 13, 3) := by decide +kernel
theorem dX9_copy_133 : decode cX9_copy 133 = .ok (.iload 5, 2) := by decide +kernel
theorem dX9_copy_135 : decode cX9_copy 135 = .ok (.iconst 1, 1) := by decide +kernel
theorem dX9_copy_136 : decode cX9_copy 136 = .ok (.isub, 1) := by decide +kernel
theorem dX9_copy_137 : decode cX9_copy 137 = .ok (.iload 7, 2) := by decide +kernel
theorem dX9_copy_139 : decode cX9_copy 139 = .ok (.isub, 1) := by decide +kernel
theorem dX9_copy_140 : decode cX9_copy 140 = .ok (.goto 5, 3) := by decide +kernel
theorem dX9_copy_143 : decode cX9_copy 143 = .ok (.iload 7, 2) := by decide +kernel
theorem dX9_copy_145 : decode cX9_copy 145 = .ok (.istore 8, 2) := by decide +kernel
theorem dX9_copy_147 : decode cX9_copy 147 = .ok (.aload_n 0, 1) := by decide +kernel
theorem dX9_copy_148 : decode cX9_copy 148 = .ok (.getfield 72, 3) := by decide +kernel
theorem dX9_copy_151 : decode cX9_copy 151 = .ok (.bipush 40, 2) := by decide +kernel
theorem dX9_copy_153 : decode cX9_copy 153 = .ok (.iload_n 3, 1) := by decide +kernel
theorem dX9_copy_154 : decode cX9_copy 154 = .ok (.imul, 1) := by decide +kernel
theorem dX9_copy_155 : decode cX9_copy 155 = .ok (.iload 4, 2) := by decide +kernel
theorem dX9_copy_157 : decode cX9_copy 157 = .ok (.iadd, 1) := by decide +kernel
theorem dX9_copy_158 : decode cX9_copy 158 = .ok (.iload 8, 2) := by decide +kernel
theorem dX9_copy_160 : decode cX9_copy 160 = .ok (.iadd, 1) := by decide +kernel
theorem dX9_copy_161 : decode cX9_copy 161 = .ok (.aload_n 0, 1) := by decide +kernel
theorem dX9_copy_162 : decode cX9_copy 162 = .ok (.getfield 72, 3) := by decide +kernel
theorem dX9_copy_165 : decode cX9_copy 165 = .ok (.bipush 40, 2) := by decide +kernel
theorem dX9_copy_167 : decode cX9_copy 167 = .ok (.iload_n 1, 1) := by decide +kernel
theorem dX9_copy_168 : decode cX9_copy 168 = .ok (.imul, 1) := by decide +kernel
theorem dX9_copy_169 : decode cX9_copy 169 = .ok (.iload_n 2, 1) := by decide +kernel
theorem dX9_copy_170 : decode cX9_copy 170 = .ok (.iadd, 1) := by decide +kernel
theorem dX9_copy_171 : decode cX9_copy 171 = .ok (.iload 8, 2) := by decide +kernel
theorem dX9_copy_173 : decode cX9_copy 173 = .ok (.iadd, 1) := by decide +kernel
theorem dX9_copy_174 : decode cX9_copy 174 = .ok (.iaload, 1) := by decide +kernel
theorem dX9_copy_175 : decode cX9_copy 175 = .ok (.iastore, 1) := by decide +kernel
theorem dX9_copy_176 : decode cX9_copy 176 = .ok (.iinc 7 1, 3) := by decide +kernel
theorem dX9_copy_179 : decode cX9_copy 179 = .ok (.goto (-58), 3) := by decide +kernel
theorem dX9_copy_182 : decode cX9_copy 182 = .ok (.iload 5, 2) := by decide +kernel
theorem dX9_copy_184 : decode cX9_copy 184 = .ok (.ireturn, 1) := by decide +kernel
theorem dX9_weathers_0 : decode cX9_weathers 0 = .ok (.iload_n 1, 1) := by decide +kernel
theorem dX9_weathers_1 : decode cX9_weathers 1 = .ok (.invokestatic 294, 3) := by decide +kernel
theorem dX9_weathers_4 : decode cX9_weathers 4 = .ok (.ifCond .eq 28, 3) := by decide +kernel
theorem dX9_weathers_7 : decode cX9_weathers 7 = .ok (.iload_n 2, 1) := by decide +kernel
theorem dX9_weathers_8 : decode cX9_weathers 8 = .ok (.i2l, 1) := by decide +kernel
theorem dX9_weathers_9 : decode cX9_weathers 9 = .ok (.lconst 0, 1) := by decide +kernel
theorem dX9_weathers_10 : decode cX9_weathers 10 = .ok (.ldc2_w 95, 3) := by decide +kernel
theorem dX9_weathers_13 : decode cX9_weathers 13 = .ok (.invokestatic 85, 3) := by decide +kernel
theorem dX9_weathers_16 : decode cX9_weathers 16 = .ok (.ifCond .eq 16, 3) := by decide +kernel
theorem dX9_weathers_19 : decode cX9_weathers 19 = .ok (.iload 4, 2) := by decide +kernel
theorem dX9_weathers_21 : decode cX9_weathers 21 = .ok (.i2l, 1) := by decide +kernel
theorem dX9_weathers_22 : decode cX9_weathers 22 = .ok (.lconst 0, 1) := by decide +kernel
theorem dX9_weathers_23 : decode cX9_weathers 23 = .ok (.ldc2_w 333, 3) := by decide +kernel
theorem dX9_weathers_26 : decode cX9_weathers 26 = .ok (.invokestatic 85, 3) := by decide +kernel
theorem dX9_weathers_29 : decode cX9_weathers 29 = .ok (.ifCond .ne 6, 3) := by decide +kernel
theorem dX9_weathers_32 : decode cX9_weathers 32 = .ok (.bipush (-2), 2) := by decide +kernel
theorem dX9_weathers_34 : decode cX9_weathers 34 = .ok (.ireturn, 1) := by decide +kernel
theorem dX9_weathers_35 : decode cX9_weathers 35 = .ok (.aload_n 0, 1) := by decide +kernel
theorem dX9_weathers_36 : decode cX9_weathers 36 = .ok (.getfield 62, 3) := by decide +kernel
theorem dX9_weathers_39 : decode cX9_weathers 39 = .ok (.iload_n 1, 1) := by decide +kernel
theorem dX9_weathers_40 : decode cX9_weathers 40 = .ok (.baload, 1) := by decide +kernel
theorem dX9_weathers_41 : decode cX9_weathers 41 = .ok (.ifCond .eq 16, 3) := by decide +kernel
theorem dX9_weathers_44 : decode cX9_weathers 44 = .ok (.aload_n 0, 1) := by decide +kernel
theorem dX9_weathers_45 : decode cX9_weathers 45 = .ok (.getfield 66, 3) := by decide +kernel
theorem dX9_weathers_48 : decode cX9_weathers 48 = .ok (.iload_n 1, 1) := by decide +kernel
theorem dX9_weathers_49 : decode cX9_weathers 49 = .ok (.iaload, 1) := by decide +kernel
theorem dX9_weathers_50 : decode cX9_weathers 50 = .ok (.iload_n 2, 1) := by decide +kernel
theorem dX9_weathers_51 : decode cX9_weathers 51 = .ok (.if_icmp .eq 6, 3) := by decide +kernel
theorem dX9_weathers_54 : decode cX9_weathers 54 = .ok (.bipush (-13), 2) := by decide +kernel
theorem dX9_weathers_56 : decode cX9_weathers 56 = .ok (.ireturn, 1) := by decide +kernel
theorem dX9_weathers_57 : decode cX9_weathers 57 = .ok (.aload_n 0, 1) := by decide +kernel
theorem dX9_weathers_58 : decode cX9_weathers 58 = .ok (.getfield 62, 3) := by decide +kernel
theorem dX9_weathers_61 : decode cX9_weathers 61 = .ok (.iload_n 1, 1) := by decide +kernel
theorem dX9_weathers_62 : decode cX9_weathers 62 = .ok (.baload, 1) := by decide +kernel
theorem dX9_weathers_63 : decode cX9_weathers 63 = .ok (.ifCond .ne 6, 3) := by decide +kernel
theorem dX9_weathers_66 : decode cX9_weathers 66 = .ok (.bipush (-11), 2) := by decide +kernel
theorem dX9_weathers_68 : decode cX9_weathers 68 = .ok (.ireturn, 1) := by decide +kernel
theorem dX9_weathers_69 : decode cX9_weathers 69 = .ok (.iconst 0, 1) := by decide +kernel
theorem dX9_weathers_70 : decode cX9_weathers 70 = .ok (.istore 5, 2) := by decide +kernel
theorem dX9_weathers_72 : decode cX9_weathers 72 = .ok (.iconst 0, 1) := by decide +kernel
theorem dX9_weathers_73 : decode cX9_weathers 73 = .ok (.istore 6, 2) := by decide +kernel
theorem dX9_weathers_75 : decode cX9_weathers 75 = .ok (.iload 6, 2) := by decide +kernel
theorem dX9_weathers_77 : decode cX9_weathers 77 = .ok (.iload 4, 2) := by decide +kernel
theorem dX9_weathers_79 : decode cX9_weathers 79 = .ok (.if_icmp .ge 80, 3) := by decide +kernel
theorem dX9_weathers_82 : decode cX9_weathers 82 = .ok (.iload_n 3, 1) := by decide +kernel
theorem dX9_weathers_83 : decode cX9_weathers 83 = .ok (.ifCond .lt 20, 3) := by decide +kernel
theorem dX9_weathers_86 : decode cX9_weathers 86 = .ok (.iload_n 3, 1) := by decide +kernel
theorem dX9_weathers_87 : decode cX9_weathers 87 = .ok (.aload_n 0, 1) := by decide +kernel
theorem dX9_weathers_88 : decode cX9_weathers 88 = .ok (.getfield 69, 3) := by decide +kernel
theorem dX9_weathers_91 : decode cX9_weathers 91 = .ok (.iload_n 1, 1) := by decide +kernel
theorem dX9_weathers_92 : decode cX9_weathers 92 = .ok (.iaload, 1) := by decide +kernel
theorem dX9_weathers_93 : decode cX9_weathers 93 = .ok (.iconst 2, 1) := by decide +kernel
theorem dX9_weathers_94 : decode cX9_weathers 94 = .ok (.iload 6, 2) := by decide +kernel
theorem dX9_weathers_96 : decode cX9_weathers 96 = .ok (.imul, 1) := by decide +kernel
theorem dX9_weathers_97 : decode cX9_weathers 97 = .ok (.isub, 1) := by decide +kernel
theorem dX9_weathers_98 : decode cX9_weathers 98 = .ok (.iconst 2, 1) := by decide +kernel
theorem dX9_weathers_99 : decode cX9_weathers 99 = .ok (.isub, 1) := by decide +kernel
theorem dX9_weathers_100 : decode cX9_weathers 100 = .ok (.if_icmp .le 6, 3) := by decide +kernel
theorem dX9_weathers_103 : decode cX9_weathers 103 = .ok (.bipush (-12), 2) := by decide +kernel
theorem dX9_weathers_105 : decode cX9_weathers 105 = .ok (.ireturn, 1) := by decide +kernel
theorem dX9_weathers_106 : decode cX9_weathers 106 = .ok (.bipush 40, 2) := by decide +kernel
theorem dX9_weathers_108 : decode cX9_weathers 108 = .ok (.iload_n 1, 1) := by decide +kernel
theorem dX9_weathers_109 : decode cX9_weathers 109 = .ok (.imul, 1) := by decide +kernel
theorem dX9_weathers_110 : decode cX9_weathers 110 = .ok (.iload_n 3, 1) := by decide +kernel
theorem dX9_weathers_111 : decode cX9_weathers 111 = .ok (.iadd, 1) := by decide +kernel
theorem dX9_weathers_112 : decode cX9_weathers 112 = .ok (.iconst 2, 1) := by decide +kernel
theorem dX9_weathers_113 : decode cX9_weathers 113 = .ok (.iload 6, 2) := by decide +kernel
theorem dX9_weathers_115 : decode cX9_weathers 115 = .ok (.imul, 1) := by decide +kernel
theorem dX9_weathers_116 : decode cX9_weathers 116 = .ok (.iadd, 1) := by decide +kernel
theorem dX9_weathers_117 : decode cX9_weathers 117 = .ok (.istore 7, 2) := by decide +kernel
theorem dX9_weathers_119 : decode cX9_weathers 119 = .ok (.iload 5, 2) := by decide +kernel
theorem dX9_weathers_121 : decode cX9_weathers 121 = .ok (.aload_n 0, 1) := by decide +kernel
theorem dX9_weathers_122 : decode cX9_weathers 122 = .ok (.iconst 0, 1) := by decide +kernel
theorem dX9_weathers_123 : decode cX9_weathers 123 = .ok (.aload_n 0, 1) := by decide +kernel
theorem dX9_weathers_124 : decode cX9_weathers 124 = .ok (.getfield 72, 3) := by decide +kernel
theorem dX9_weathers_127 : decode cX9_weathers 127 = .ok (.iload 7, 2) := by decide +kernel
theorem dX9_weathers_129 : decode cX9_weathers 129 = .ok (.iaload, 1) := by decide +kernel
theorem dX9_weathers_130 : decode cX9_weathers 130 = .ok (.aload_n 0, 1) := by decide +kernel
theorem dX9_weathers_131 : decode cX9_weathers 131 = .ok (.getfield 72, 3) := by decide +kernel
theorem dX9_weathers_134 : decode cX9_weathers 134 = .ok (.iload 7, 2) := by decide +kernel
theorem dX9_weathers_136 : decode cX9_weathers 136 = .ok (.iconst 1, 1) := by decide +kernel
theorem dX9_weathers_137 : decode cX9_weathers 137 = .ok (.iadd, 1) := by decide +kernel
theorem dX9_weathers_138 : decode cX9_weathers 138 = .ok (.iaload, 1) := by decide +kernel
theorem dX9_weathers_139 : decode cX9_weathers 139 = .ok (.invokevirtual 346, 3) := by decide +kernel
theorem dX9_weathers_142 : decode cX9_weathers 142 = .ok (.ifCond .lt 7, 3) := by decide +kernel
theorem dX9_weathers_145 : decode cX9_weathers 145 = .ok (.iconst 1, 1) := by decide +kernel
theorem dX9_weathers_146 : decode cX9_weathers 146 = .ok (.goto 4, 3) := by decide +kernel
theorem dX9_weathers_149 : decode cX9_weathers 149 = .ok (.iconst 0, 1) := by decide +kernel
theorem dX9_weathers_150 : decode cX9_weathers 150 = .ok (.iadd, 1) := by decide +kernel
theorem dX9_weathers_151 : decode cX9_weathers 151 = .ok (.istore 5, 2) := by decide +kernel
theorem dX9_weathers_153 : decode cX9_weathers 153 = .ok (.iinc 6 1, 3) := by decide +kernel
theorem dX9_weathers_156 : decode cX9_weathers 156 = .ok (.goto (-81), 3) := by decide +kernel
theorem dX9_weathers_159 : decode cX9_weathers 159 = .ok (.iload 5, 2) := by decide +kernel
theorem dX9_weathers_161 : decode cX9_weathers 161 = .ok (.ireturn, 1) := by decide +kernel
theorem dX9_over_0 : decode cX9_over 0 = .ok (.iload_n 0, 1) := by decide +kernel
theorem dX9_over_1 : decode cX9_over 1 = .ok (.ifCond .ne 7, 3) := by decide +kernel
theorem dX9_over_4 : decode cX9_over 4 = .ok (.iconst (-1), 1) := by decide +kernel
theorem dX9_over_5 : decode cX9_over 5 = .ok (.goto 22, 3) := by decide +kernel
theorem dX9_over_8 : decode cX9_over 8 = .ok (.iload_n 0, 1) := by decide +kernel
theorem dX9_over_9 : decode cX9_over 9 = .ok (.iconst 3, 1) := by decide +kernel
theorem dX9_over_10 : decode cX9_over 10 = .ok (.if_icmp .ne 7, 3) := by decide +kernel
theorem dX9_over_13 : decode cX9_over 13 = .ok (.iconst 1, 1) := by decide +kernel
theorem dX9_over_14 : decode cX9_over 14 = .ok (.goto 13, 3) := by decide +kernel
theorem dX9_over_17 : decode cX9_over 17 = .ok (.iload_n 0, 1) := by decide +kernel
theorem dX9_over_18 : decode cX9_over 18 = .ok (.iconst 4, 1) := by decide +kernel
theorem dX9_over_19 : decode cX9_over 19 = .ok (.if_icmp .ne 7, 3) := by decide +kernel
theorem dX9_over_22 : decode cX9_over 22 = .ok (.iconst 2, 1) := by decide +kernel
theorem dX9_over_23 : decode cX9_over 23 = .ok (.goto 4, 3) := by decide +kernel
theorem dX9_over_26 : decode cX9_over 26 = .ok (.iconst 0, 1) := by decide +kernel
theorem dX9_over_27 : decode cX9_over 27 = .ok (.ireturn, 1) := by decide +kernel
theorem dX9_taken_0 : decode cX9_taken 0 = .ok (.iload_n 2, 1) := by decide +kernel
theorem dX9_taken_1 : decode cX9_taken 1 = .ok (.i2l, 1) := by decide +kernel
theorem dX9_taken_2 : decode cX9_taken 2 = .ok (.lconst 0, 1) := by decide +kernel
theorem dX9_taken_3 : decode cX9_taken 3 = .ok (.ldc2_w 91, 3) := by decide +kernel
theorem dX9_taken_6 : decode cX9_taken 6 = .ok (.invokestatic 85, 3) := by decide +kernel
theorem dX9_taken_9 : decode cX9_taken 9 = .ok (.ifCond .ne 6, 3) := by decide +kernel
theorem dX9_taken_12 : decode cX9_taken 12 = .ok (.bipush (-2), 2) := by decide +kernel
theorem dX9_taken_14 : decode cX9_taken 14 = .ok (.ireturn, 1) := by decide +kernel
theorem dX9_taken_15 : decode cX9_taken 15 = .ok (.aload_n 0, 1) := by decide +kernel
theorem dX9_taken_16 : decode cX9_taken 16 = .ok (.iload_n 1, 1) := by decide +kernel
theorem dX9_taken_17 : decode cX9_taken 17 = .ok (.invokevirtual 103, 3) := by decide +kernel
theorem dX9_taken_20 : decode cX9_taken 20 = .ok (.ifCond .ne 6, 3) := by decide +kernel
theorem dX9_taken_23 : decode cX9_taken 23 = .ok (.bipush (-11), 2) := by decide +kernel
theorem dX9_taken_25 : decode cX9_taken 25 = .ok (.ireturn, 1) := by decide +kernel
theorem dX9_taken_26 : decode cX9_taken 26 = .ok (.aload_n 0, 1) := by decide +kernel
theorem dX9_taken_27 : decode cX9_taken 27 = .ok (.getfield 26, 3) := by decide +kernel
theorem dX9_taken_30 : decode cX9_taken 30 = .ok (.iload_n 1, 1) := by decide +kernel
theorem dX9_taken_31 : decode cX9_taken 31 = .ok (.iaload, 1) := by decide +kernel
theorem dX9_taken_32 : decode cX9_taken 32 = .ok (.istore_n 3, 1) := by decide +kernel
theorem dX9_taken_33 : decode cX9_taken 33 = .ok (.iload_n 3, 1) := by decide +kernel
theorem dX9_taken_34 : decode cX9_taken 34 = .ok (.iconst (-1), 1) := by decide +kernel
theorem dX9_taken_35 : decode cX9_taken 35 = .ok (.if_icmp .eq 16, 3) := by decide +kernel
theorem dX9_taken_38 : decode cX9_taken 38 = .ok (.iload_n 3, 1) := by decide +kernel
theorem dX9_taken_39 : decode cX9_taken 39 = .ok (.iload_n 2, 1) := by decide +kernel
theorem dX9_taken_40 : decode cX9_taken 40 = .ok (.if_icmp .eq 11, 3) := by decide +kernel
theorem dX9_taken_43 : decode cX9_taken 43 = .ok (.iload_n 3, 1) := by decide +kernel
theorem dX9_taken_44 : decode cX9_taken 44 = .ok (.invokestatic 349, 3) := by decide +kernel
theorem dX9_taken_47 : decode cX9_taken 47 = .ok (.istore_n 3, 1) := by decide +kernel
theorem dX9_taken_48 : decode cX9_taken 48 = .ok (.goto (-15), 3) := by decide +kernel
theorem dX9_taken_51 : decode cX9_taken 51 = .ok (.iload_n 3, 1) := by decide +kernel
theorem dX9_taken_52 : decode cX9_taken 52 = .ok (.iload_n 2, 1) := by decide +kernel
theorem dX9_taken_53 : decode cX9_taken 53 = .ok (.if_icmp .ne 12, 3) := by decide +kernel
theorem dX9_taken_56 : decode cX9_taken 56 = .ok (.aload_n 0, 1) := by decide +kernel
theorem dX9_taken_57 : decode cX9_taken 57 = .ok (.getfield 29, 3) := by decide +kernel
theorem dX9_taken_60 : decode cX9_taken 60 = .ok (.iload_n 1, 1) := by decide +kernel
theorem dX9_taken_61 : decode cX9_taken 61 = .ok (.iaload, 1) := by decide +kernel
theorem dX9_taken_62 : decode cX9_taken 62 = .ok (.goto 5, 3) := by decide +kernel
theorem dX9_taken_65 : decode cX9_taken 65 = .ok (.bipush (-13), 2) := by decide +kernel
theorem dX9_taken_67 : decode cX9_taken 67 = .ok (.ireturn, 1) := by decide +kernel

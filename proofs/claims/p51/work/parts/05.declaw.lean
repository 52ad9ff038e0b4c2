theorem dL_next_0 : decode cL_next 0 = .ok (.aload_n 0, 1) := by decide +kernel
theorem dL_next_1 : decode cL_next 1 = .ok (.iconst 0, 1) := by decide +kernel
theorem dL_next_2 : decode cL_next 2 = .ok (.aload_n 0, 1) := by decide +kernel
theorem dL_next_3 : decode cL_next 3 = .ok (.iconst 0, 1) := by decide +kernel
theorem dL_next_4 : decode cL_next 4 = .ok (.iaload, 1) := by decide +kernel
theorem dL_next_5 : decode cL_next 5 = .ok (.ldc 7, 2) := by decide +kernel
theorem dL_next_7 : decode cL_next 7 = .ok (.imul, 1) := by decide +kernel
theorem dL_next_8 : decode cL_next 8 = .ok (.sipush 12345, 3) := by decide +kernel
theorem dL_next_11 : decode cL_next 11 = .ok (.iadd, 1) := by decide +kernel
theorem dL_next_12 : decode cL_next 12 = .ok (.iastore, 1) := by decide +kernel
theorem dL_next_13 : decode cL_next 13 = .ok (.aload_n 0, 1) := by decide +kernel
theorem dL_next_14 : decode cL_next 14 = .ok (.iconst 0, 1) := by decide +kernel
theorem dL_next_15 : decode cL_next 15 = .ok (.dup2, 1) := by decide +kernel
theorem dL_next_16 : decode cL_next 16 = .ok (.iaload, 1) := by decide +kernel
theorem dL_next_17 : decode cL_next 17 = .ok (.aload_n 0, 1) := by decide +kernel
theorem dL_next_18 : decode cL_next 18 = .ok (.iconst 0, 1) := by decide +kernel
theorem dL_next_19 : decode cL_next 19 = .ok (.iaload, 1) := by decide +kernel
theorem dL_next_20 : decode cL_next 20 = .ok (.bipush 15, 2) := by decide +kernel
theorem dL_next_22 : decode cL_next 22 = .ok (.iushr, 1) := by decide +kernel
theorem dL_next_23 : decode cL_next 23 = .ok (.ixor, 1) := by decide +kernel
theorem dL_next_24 : decode cL_next 24 = .ok (.iastore, 1) := by decide +kernel
theorem dL_next_25 : decode cL_next 25 = .ok (.aload_n 0, 1) := by decide +kernel
theorem dL_next_26 : decode cL_next 26 = .ok (.iconst 0, 1) := by decide +kernel
theorem dL_next_27 : decode cL_next 27 = .ok (.iaload, 1) := by decide +kernel
theorem dL_next_28 : decode cL_next 28 = .ok (.bipush 9, 2) := by decide +kernel
theorem dL_next_30 : decode cL_next 30 = .ok (.iushr, 1) := by decide +kernel
theorem dL_next_31 : decode cL_next 31 = .ok (.ireturn, 1) := by decide +kernel
theorem dL_from_0 : decode cL_from 0 = .ok (.iload_n 1, 1) := by decide +kernel
theorem dL_from_1 : decode cL_from 1 = .ok (.aload_n 0, 1) := by decide +kernel
theorem dL_from_2 : decode cL_from 2 = .ok (.invokestatic 8, 3) := by decide +kernel
theorem dL_from_5 : decode cL_from 5 = .ok (.iload_n 2, 1) := by decide +kernel
theorem dL_from_6 : decode cL_from 6 = .ok (.iload_n 1, 1) := by decide +kernel
theorem dL_from_7 : decode cL_from 7 = .ok (.isub, 1) := by decide +kernel
theorem dL_from_8 : decode cL_from 8 = .ok (.iconst 1, 1) := by decide +kernel
theorem dL_from_9 : decode cL_from 9 = .ok (.iadd, 1) := by decide +kernel
theorem dL_from_10 : decode cL_from 10 = .ok (.irem, 1) := by decide +kernel
theorem dL_from_11 : decode cL_from 11 = .ok (.iadd, 1) := by decide +kernel
theorem dL_from_12 : decode cL_from 12 = .ok (.ireturn, 1) := by decide +kernel
theorem dL_one_0 : decode cL_one 0 = .ok (.iload_n 0, 1) := by decide +kernel
theorem dL_one_1 : decode cL_one 1 = .ok (.ifCond .eq 7, 3) := by decide +kernel
theorem dL_one_4 : decode cL_one 4 = .ok (.iconst 1, 1) := by decide +kernel
theorem dL_one_5 : decode cL_one 5 = .ok (.goto 4, 3) := by decide +kernel
theorem dL_one_8 : decode cL_one 8 = .ok (.iconst 0, 1) := by decide +kernel
theorem dL_one_9 : decode cL_one 9 = .ok (.ireturn, 1) := by decide +kernel
theorem dL_done_0 : decode cL_done 0 = .ok (.iload_n 1, 1) := by decide +kernel
theorem dL_done_1 : decode cL_done 1 = .ok (.tableswitch 343 0 26 #[123, 128, 134, 141, 148, 153, 162, 169, 176, 181, 186, 192, 198, 204, 222, 228, 234, 241, 259, 265, 272, 278, 285, 300, 316, 322, 337], 123) := by decide +kernel
theorem dL_done_124 : decode cL_done 124 = .ok (.aload_n 0, 1) := by decide +kernel
theorem dL_done_125 : decode cL_done 125 = .ok (.invokevirtual 14, 3) := by decide +kernel
theorem dL_done_128 : decode cL_done 128 = .ok (.ireturn, 1) := by decide +kernel
theorem dL_done_129 : decode cL_done 129 = .ok (.aload_n 0, 1) := by decide +kernel
theorem dL_done_130 : decode cL_done 130 = .ok (.iload_n 2, 1) := by decide +kernel
theorem dL_done_131 : decode cL_done 131 = .ok (.invokevirtual 20, 3) := by decide +kernel
theorem dL_done_134 : decode cL_done 134 = .ok (.ireturn, 1) := by decide +kernel
theorem dL_done_135 : decode cL_done 135 = .ok (.aload_n 0, 1) := by decide +kernel
theorem dL_done_136 : decode cL_done 136 = .ok (.iload_n 2, 1) := by decide +kernel
theorem dL_done_137 : decode cL_done 137 = .ok (.iload_n 3, 1) := by decide +kernel
theorem dL_done_138 : decode cL_done 138 = .ok (.invokevirtual 24, 3) := by decide +kernel
theorem dL_done_141 : decode cL_done 141 = .ok (.ireturn, 1) := by decide +kernel
theorem dL_done_142 : decode cL_done 142 = .ok (.aload_n 0, 1) := by decide +kernel
theorem dL_done_143 : decode cL_done 143 = .ok (.iload_n 2, 1) := by decide +kernel
theorem dL_done_144 : decode cL_done 144 = .ok (.iload_n 3, 1) := by decide +kernel
theorem dL_done_145 : decode cL_done 145 = .ok (.invokevirtual 28, 3) := by decide +kernel
theorem dL_done_148 : decode cL_done 148 = .ok (.ireturn, 1) := by decide +kernel
theorem dL_done_149 : decode cL_done 149 = .ok (.aload_n 0, 1) := by decide +kernel
theorem dL_done_150 : decode cL_done 150 = .ok (.invokevirtual 31, 3) := by decide +kernel
theorem dL_done_153 : decode cL_done 153 = .ok (.ireturn, 1) := by decide +kernel
theorem dL_done_154 : decode cL_done 154 = .ok (.aload_n 0, 1) := by decide +kernel
theorem dL_done_155 : decode cL_done 155 = .ok (.iload_n 2, 1) := by decide +kernel
theorem dL_done_156 : decode cL_done 156 = .ok (.iload_n 3, 1) := by decide +kernel
theorem dL_done_157 : decode cL_done 157 = .ok (.iload 4, 2) := by decide +kernel
theorem dL_done_159 : decode cL_done 159 = .ok (.invokevirtual 34, 3) := by decide +kernel
theorem dL_done_162 : decode cL_done 162 = .ok (.ireturn, 1) := by decide +kernel
theorem dL_done_163 : decode cL_done 163 = .ok (.aload_n 0, 1) := by decide +kernel
theorem dL_done_164 : decode cL_done 164 = .ok (.iload_n 2, 1) := by decide +kernel
theorem dL_done_165 : decode cL_done 165 = .ok (.iload_n 3, 1) := by decide +kernel
theorem dL_done_166 : decode cL_done 166 = .ok (.invokevirtual 38, 3) := by decide +kernel
theorem dL_done_169 : decode cL_done 169 = .ok (.ireturn, 1) := by decide +kernel
theorem dL_done_170 : decode cL_done 170 = .ok (.aload_n 0, 1) := by decide +kernel
theorem dL_done_171 : decode cL_done 171 = .ok (.iload_n 2, 1) := by decide +kernel
theorem dL_done_172 : decode cL_done 172 = .ok (.iload_n 3, 1) := by decide +kernel
theorem dL_done_173 : decode cL_done 173 = .ok (.invokevirtual 41, 3) := by decide +kernel
theorem dL_done_176 : decode cL_done 176 = .ok (.ireturn, 1) := by decide +kernel
theorem dL_done_177 : decode cL_done 177 = .ok (.aload_n 0, 1) := by decide +kernel
theorem dL_done_178 : decode cL_done 178 = .ok (.invokevirtual 44, 3) := by decide +kernel
theorem dL_done_181 : decode cL_done 181 = .ok (.ireturn, 1) := by decide +kernel
theorem dL_done_182 : decode cL_done 182 = .ok (.aload_n 0, 1) := by decide +kernel
theorem dL_done_183 : decode cL_done 183 = .ok (.invokevirtual 47, 3) := by decide +kernel
theorem dL_done_186 : decode cL_done 186 = .ok (.ireturn, 1) := by decide +kernel
theorem dL_done_187 : decode cL_done 187 = .ok (.aload_n 0, 1) := by decide +kernel
theorem dL_done_188 : decode cL_done 188 = .ok (.iload_n 2, 1) := by decide +kernel
theorem dL_done_189 : decode cL_done 189 = .ok (.invokevirtual 50, 3) := by decide +kernel
theorem dL_done_192 : decode cL_done 192 = .ok (.ireturn, 1) := by decide +kernel
theorem dL_done_193 : decode cL_done 193 = .ok (.aload_n 0, 1) := by decide +kernel
theorem dL_done_194 : decode cL_done 194 = .ok (.iload_n 2, 1) := by decide +kernel
theorem dL_done_195 : decode cL_done 195 = .ok (.invokevirtual 53, 3) := by decide +kernel
theorem dL_done_198 : decode cL_done 198 = .ok (.ireturn, 1) := by decide +kernel
theorem dL_done_199 : decode cL_done 199 = .ok (.aload_n 0, 1) := by decide +kernel
theorem dL_done_200 : decode cL_done 200 = .ok (.iload_n 2, 1) := by decide +kernel
theorem dL_done_201 : decode cL_done 201 = .ok (.invokevirtual 56, 3) := by decide +kernel
theorem dL_done_204 : decode cL_done 204 = .ok (.ireturn, 1) := by decide +kernel
theorem dL_done_205 : decode cL_done 205 = .ok (.aload_n 0, 1) := by decide +kernel
theorem dL_done_206 : decode cL_done 206 = .ok (.iload_n 2, 1) := by decide +kernel
theorem dL_done_207 : decode cL_done 207 = .ok (.iconst 1, 1) := by decide +kernel
theorem dL_done_208 : decode cL_done 208 = .ok (.if_icmp .ne 7, 3) := by decide +kernel
theorem dL_done_211 : decode cL_done 211 = .ok (.iconst 1, 1) := by decide +kernel
theorem dL_done_212 : decode cL_done 212 = .ok (.goto 4, 3) := by decide +kernel
theorem dL_done_215 : decode cL_done 215 = .ok (.iconst 0, 1) := by decide +kernel
theorem dL_done_216 : decode cL_done 216 = .ok (.invokevirtual 59, 3) := by decide +kernel
theorem dL_done_219 : decode cL_done 219 = .ok (.invokestatic 63, 3) := by decide +kernel
theorem dL_done_222 : decode cL_done 222 = .ok (.ireturn, 1) := by decide +kernel
theorem dL_done_223 : decode cL_done 223 = .ok (.aload_n 0, 1) := by decide +kernel
theorem dL_done_224 : decode cL_done 224 = .ok (.iload_n 2, 1) := by decide +kernel
theorem dL_done_225 : decode cL_done 225 = .ok (.invokevirtual 67, 3) := by decide +kernel
theorem dL_done_228 : decode cL_done 228 = .ok (.ireturn, 1) := by decide +kernel
theorem dL_done_229 : decode cL_done 229 = .ok (.aload_n 0, 1) := by decide +kernel
theorem dL_done_230 : decode cL_done 230 = .ok (.iload_n 2, 1) := by decide +kernel
theorem dL_done_231 : decode cL_done 231 = .ok (.invokevirtual 70, 3) := by decide +kernel
theorem dL_done_234 : decode cL_done 234 = .ok (.ireturn, 1) := by decide +kernel
theorem dL_done_235 : decode cL_done 235 = .ok (.aload_n 0, 1) := by decide +kernel
theorem dL_done_236 : decode cL_done 236 = .ok (.iload_n 2, 1) := by decide +kernel
theorem dL_done_237 : decode cL_done 237 = .ok (.iload_n 3, 1) := by decide +kernel
theorem dL_done_238 : decode cL_done 238 = .ok (.invokevirtual 73, 3) := by decide +kernel
theorem dL_done_241 : decode cL_done 241 = .ok (.ireturn, 1) := by decide +kernel
theorem dL_done_242 : decode cL_done 242 = .ok (.aload_n 0, 1) := by decide +kernel
theorem dL_done_243 : decode cL_done 243 = .ok (.iload_n 2, 1) := by decide +kernel
theorem dL_done_244 : decode cL_done 244 = .ok (.iload_n 3, 1) := by decide +kernel
theorem dL_done_245 : decode cL_done 245 = .ok (.iload 4, 2) := by decide +kernel
theorem dL_done_247 : decode cL_done 247 = .ok (.iconst 1, 1) := by decide +kernel
theorem dL_done_248 : decode cL_done 248 = .ok (.if_icmp .ne 7, 3) := by decide +kernel
theorem dL_done_251 : decode cL_done 251 = .ok (.iconst 1, 1) := by decide +kernel
theorem dL_done_252 : decode cL_done 252 = .ok (.goto 4, 3) := by decide +kernel
theorem dL_done_255 : decode cL_done 255 = .ok (.iconst 0, 1) := by decide +kernel
theorem dL_done_256 : decode cL_done 256 = .ok (.invokevirtual 76, 3) := by decide +kernel
theorem dL_done_259 : decode cL_done 259 = .ok (.ireturn, 1) := by decide +kernel
theorem dL_done_260 : decode cL_done 260 = .ok (.aload_n 0, 1) := by decide +kernel
theorem dL_done_261 : decode cL_done 261 = .ok (.iload_n 2, 1) := by decide +kernel
theorem dL_done_262 : decode cL_done 262 = .ok (.invokevirtual 80, 3) := by decide +kernel
theorem dL_done_265 : decode cL_done 265 = .ok (.ireturn, 1) := by decide +kernel
theorem dL_done_266 : decode cL_done 266 = .ok (.aload_n 0, 1) := by decide +kernel
theorem dL_done_267 : decode cL_done 267 = .ok (.iload_n 2, 1) := by decide +kernel
theorem dL_done_268 : decode cL_done 268 = .ok (.iload_n 3, 1) := by decide +kernel
theorem dL_done_269 : decode cL_done 269 = .ok (.invokevirtual 83, 3) := by decide +kernel
theorem dL_done_272 : decode cL_done 272 = .ok (.ireturn, 1) := by decide +kernel
theorem dL_done_273 : decode cL_done 273 = .ok (.aload_n 0, 1) := by decide +kernel
theorem dL_done_274 : decode cL_done 274 = .ok (.iload_n 2, 1) := by decide +kernel
theorem dL_done_275 : decode cL_done 275 = .ok (.invokevirtual 86, 3) := by decide +kernel
theorem dL_done_278 : decode cL_done 278 = .ok (.ireturn, 1) := by decide +kernel
theorem dL_done_279 : decode cL_done 279 = .ok (.aload_n 0, 1) := by decide +kernel
theorem dL_done_280 : decode cL_done 280 = .ok (.iload_n 2, 1) := by decide +kernel
theorem dL_done_281 : decode cL_done 281 = .ok (.iload_n 3, 1) := by decide +kernel
theorem dL_done_282 : decode cL_done 282 = .ok (.invokevirtual 89, 3) := by decide +kernel
theorem dL_done_285 : decode cL_done 285 = .ok (.ireturn, 1) := by decide +kernel
theorem dL_done_286 : decode cL_done 286 = .ok (.aload_n 0, 1) := by decide +kernel
theorem dL_done_287 : decode cL_done 287 = .ok (.iload_n 2, 1) := by decide +kernel
theorem dL_done_288 : decode cL_done 288 = .ok (.iconst 1, 1) := by decide +kernel
theorem dL_done_289 : decode cL_done 289 = .ok (.if_icmp .ne 7, 3) := by decide +kernel
theorem dL_done_292 : decode cL_done 292 = .ok (.iconst 1, 1) := by decide +kernel
theorem dL_done_293 : decode cL_done 293 = .ok (.goto 4, 3) := by decide +kernel
theorem dL_done_296 : decode cL_done 296 = .ok (.iconst 0, 1) := by decide +kernel
theorem dL_done_297 : decode cL_done 297 = .ok (.invokevirtual 92, 3) := by decide +kernel
theorem dL_done_300 : decode cL_done 300 = .ok (.ireturn, 1) := by decide +kernel
theorem dL_done_301 : decode cL_done 301 = .ok (.aload_n 0, 1) := by decide +kernel
theorem dL_done_302 : decode cL_done 302 = .ok (.iload_n 2, 1) := by decide +kernel
theorem dL_done_303 : decode cL_done 303 = .ok (.iload_n 3, 1) := by decide +kernel
theorem dL_done_304 : decode cL_done 304 = .ok (.iconst 1, 1) := by decide +kernel
theorem dL_done_305 : decode cL_done 305 = .ok (.if_icmp .ne 7, 3) := by decide +kernel
theorem dL_done_308 : decode cL_done 308 = .ok (.iconst 1, 1) := by decide +kernel
theorem dL_done_309 : decode cL_done 309 = .ok (.goto 4, 3) := by decide +kernel
theorem dL_done_312 : decode cL_done 312 = .ok (.iconst 0, 1) := by decide +kernel
theorem dL_done_313 : decode cL_done 313 = .ok (.invokevirtual 95, 3) := by decide +kernel
theorem dL_done_316 : decode cL_done 316 = .ok (.ireturn, 1) := by decide +kernel
theorem dL_done_317 : decode cL_done 317 = .ok (.aload_n 0, 1) := by decide +kernel
theorem dL_done_318 : decode cL_done 318 = .ok (.iload_n 2, 1) := by decide +kernel
theorem dL_done_319 : decode cL_done 319 = .ok (.invokevirtual 99, 3) := by decide +kernel
theorem dL_done_322 : decode cL_done 322 = .ok (.ireturn, 1) := by decide +kernel
theorem dL_done_323 : decode cL_done 323 = .ok (.aload_n 0, 1) := by decide +kernel
theorem dL_done_324 : decode cL_done 324 = .ok (.iload_n 2, 1) := by decide +kernel
theorem dL_done_325 : decode cL_done 325 = .ok (.iload_n 3, 1) := by decide +kernel
theorem dL_done_326 : decode cL_done 326 = .ok (.iload 4, 2) := by decide +kernel
theorem dL_done_328 : decode cL_done 328 = .ok (.iconst 1, 1) := by decide +kernel
theorem dL_done_329 : decode cL_done 329 = .ok (.iload 4, 2) := by decide +kernel
theorem dL_done_331 : decode cL_done 331 = .ok (.iconst 5, 1) := by decide +kernel
theorem dL_done_332 : decode cL_done 332 = .ok (.irem, 1) := by decide +kernel
theorem dL_done_333 : decode cL_done 333 = .ok (.iadd, 1) := by decide +kernel
theorem dL_done_334 : decode cL_done 334 = .ok (.invokevirtual 102, 3) := by decide +kernel
theorem dL_done_337 : decode cL_done 337 = .ok (.ireturn, 1) := by decide +kernel
theorem dL_done_338 : decode cL_done 338 = .ok (.aload_n 0, 1) := by decide +kernel
theorem dL_done_339 : decode cL_done 339 = .ok (.iload_n 2, 1) := by decide +kernel
theorem dL_done_340 : decode cL_done 340 = .ok (.invokevirtual 106, 3) := by decide +kernel
theorem dL_done_343 : decode cL_done 343 = .ok (.ireturn, 1) := by decide +kernel
theorem dL_done_344 : decode cL_done 344 = .ok (.aload_n 0, 1) := by decide +kernel
theorem dL_done_345 : decode cL_done 345 = .ok (.iload_n 2, 1) := by decide +kernel
theorem dL_done_346 : decode cL_done 346 = .ok (.invokevirtual 109, 3) := by decide +kernel
theorem dL_done_349 : decode cL_done 349 = .ok (.ireturn, 1) := by decide +kernel
theorem dL_done_350 : decode cL_done 350 = .ok (.astore 5, 2) := by decide +kernel
theorem dL_done_352 : decode cL_done 352 = .ok (.ldc 114, 2) := by decide +kernel
theorem dL_done_354 : decode cL_done 354 = .ok (.ireturn, 1) := by decide +kernel
theorem dL_done_355 : decode cL_done 355 = .ok (.astore 5, 2) := by decide +kernel
theorem dL_done_357 : decode cL_done 357 = .ok (.ldc 117, 2) := by decide +kernel
theorem dL_done_359 : decode cL_done 359 = .ok (.ireturn, 1) := by decide +kernel
theorem dL_done_360 : decode cL_done 360 = .ok (.astore 5, 2) := by decide +kernel
theorem dL_done_362 : decode cL_done 362 = .ok (.ldc 120, 2) := by decide +kernel
theorem dL_done_364 : decode cL_done 364 = .ok (.ireturn, 1) := by decide +kernel
theorem dL_done_365 : decode cL_done 365 = .ok (.astore 5, 2) := by decide +kernel
theorem dL_done_367 : decode cL_done 367 = .ok (.ldc 123, 2) := by decide +kernel
theorem dL_done_369 : decode cL_done 369 = .ok (.ireturn, 1) := by decide +kernel
theorem dL_done_370 : decode cL_done 370 = .ok (.astore 5, 2) := by decide +kernel
theorem dL_done_372 : decode cL_done 372 = .ok (.ldc 126, 2) := by decide +kernel
theorem dL_done_374 : decode cL_done 374 = .ok (.ireturn, 1) := by decide +kernel
theorem dL_feeds_0 : decode cL_feeds 0 = .ok (.aload_n 0, 1) := by decide +kernel
theorem dL_feeds_1 : decode cL_feeds 1 = .ok (.invokevirtual 127, 3) := by decide +kernel
theorem dL_feeds_4 : decode cL_feeds 4 = .ok (.istore_n 3, 1) := by decide +kernel
theorem dL_feeds_5 : decode cL_feeds 5 = .ok (.iconst 0, 1) := by decide +kernel
theorem dL_feeds_6 : decode cL_feeds 6 = .ok (.istore_n 3, 1) := by decide +kernel
theorem dL_feeds_7 : decode cL_feeds 7 = .ok (.iconst 0, 1) := by decide +kernel
theorem dL_feeds_8 : decode cL_feeds 8 = .ok (.istore 4, 2) := by decide +kernel
theorem dL_feeds_10 : decode cL_feeds 10 = .ok (.iload 4, 2) := by decide +kernel
theorem dL_feeds_12 : decode cL_feeds 12 = .ok (.iload_n 2, 1) := by decide +kernel
theorem dL_feeds_13 : decode cL_feeds 13 = .ok (.if_icmp .ge 58, 3) := by decide +kernel
theorem dL_feeds_16 : decode cL_feeds 16 = .ok (.lconst 0, 1) := by decide +kernel
theorem dL_feeds_17 : decode cL_feeds 17 = .ok (.lstore 5, 2) := by decide +kernel
theorem dL_feeds_19 : decode cL_feeds 19 = .ok (.iload 4, 2) := by decide +kernel
theorem dL_feeds_21 : decode cL_feeds 21 = .ok (.istore 7, 2) := by decide +kernel
theorem dL_feeds_23 : decode cL_feeds 23 = .ok (.iload 7, 2) := by decide +kernel
theorem dL_feeds_25 : decode cL_feeds 25 = .ok (.iload 4, 2) := by decide +kernel
theorem dL_feeds_27 : decode cL_feeds 27 = .ok (.bipush 8, 2) := by decide +kernel
theorem dL_feeds_29 : decode cL_feeds 29 = .ok (.iadd, 1) := by decide +kernel
theorem dL_feeds_30 : decode cL_feeds 30 = .ok (.if_icmp .ge 28, 3) := by decide +kernel
theorem dL_feeds_33 : decode cL_feeds 33 = .ok (.iload 7, 2) := by decide +kernel
theorem dL_feeds_35 : decode cL_feeds 35 = .ok (.iload_n 2, 1) := by decide +kernel
theorem dL_feeds_36 : decode cL_feeds 36 = .ok (.if_icmp .ge 22, 3) := by decide +kernel
theorem dL_feeds_39 : decode cL_feeds 39 = .ok (.lload 5, 2) := by decide +kernel
theorem dL_feeds_41 : decode cL_feeds 41 = .ok (.bipush 8, 2) := by decide +kernel
theorem dL_feeds_43 : decode cL_feeds 43 = .ok (.lshl, 1) := by decide +kernel
theorem dL_feeds_44 : decode cL_feeds 44 = .ok (.aload_n 1, 1) := by decide +kernel
theorem dL_feeds_45 : decode cL_feeds 45 = .ok (.iload 7, 2) := by decide +kernel
theorem dL_feeds_47 : decode cL_feeds 47 = .ok (.iaload, 1) := by decide +kernel
theorem dL_feeds_48 : decode cL_feeds 48 = .ok (.i2l, 1) := by decide +kernel
theorem dL_feeds_49 : decode cL_feeds 49 = .ok (.lor, 1) := by decide +kernel
theorem dL_feeds_50 : decode cL_feeds 50 = .ok (.lstore 5, 2) := by decide +kernel
theorem dL_feeds_52 : decode cL_feeds 52 = .ok (.iinc 7 1, 3) := by decide +kernel
theorem dL_feeds_55 : decode cL_feeds 55 = .ok (.goto (-32), 3) := by decide +kernel
theorem dL_feeds_58 : decode cL_feeds 58 = .ok (.aload_n 0, 1) := by decide +kernel
theorem dL_feeds_59 : decode cL_feeds 59 = .ok (.lload 5, 2) := by decide +kernel
theorem dL_feeds_61 : decode cL_feeds 61 = .ok (.invokevirtual 130, 3) := by decide +kernel
theorem dL_feeds_64 : decode cL_feeds 64 = .ok (.istore_n 3, 1) := by decide +kernel
theorem dL_feeds_65 : decode cL_feeds 65 = .ok (.iinc 4 8, 3) := by decide +kernel
theorem dL_feeds_68 : decode cL_feeds 68 = .ok (.goto (-58), 3) := by decide +kernel
theorem dL_feeds_71 : decode cL_feeds 71 = .ok (.iload_n 3, 1) := by decide +kernel
theorem dL_feeds_72 : decode cL_feeds 72 = .ok (.iload_n 2, 1) := by decide +kernel
theorem dL_feeds_73 : decode cL_feeds 73 = .ok (.if_icmp .ne 16, 3) := by decide +kernel
theorem dL_feeds_76 : decode cL_feeds 76 = .ok (.aload_n 0, 1) := by decide +kernel
theorem dL_feeds_77 : decode cL_feeds 77 = .ok (.iconst 5, 1) := by decide +kernel
theorem dL_feeds_78 : decode cL_feeds 78 = .ok (.invokevirtual 134, 3) := by decide +kernel
theorem dL_feeds_81 : decode cL_feeds 81 = .ok (.iload_n 2, 1) := by decide +kernel
theorem dL_feeds_82 : decode cL_feeds 82 = .ok (.if_icmp .ne 7, 3) := by decide +kernel
theorem dL_feeds_85 : decode cL_feeds 85 = .ok (.iconst 1, 1) := by decide +kernel
theorem dL_feeds_86 : decode cL_feeds 86 = .ok (.goto 4, 3) := by decide +kernel
theorem dL_feeds_89 : decode cL_feeds 89 = .ok (.iconst 0, 1) := by decide +kernel
theorem dL_feeds_90 : decode cL_feeds 90 = .ok (.ireturn, 1) := by decide +kernel
theorem dL_draws_0 : decode cL_draws 0 = .ok (.aload_n 0, 1) := by decide +kernel
theorem dL_draws_1 : decode cL_draws 1 = .ok (.invokestatic 8, 3) := by decide +kernel
theorem dL_draws_4 : decode cL_draws 4 = .ok (.iconst 4, 1) := by decide +kernel
theorem dL_draws_5 : decode cL_draws 5 = .ok (.irem, 1) := by decide +kernel
theorem dL_draws_6 : decode cL_draws 6 = .ok (.ifCond .ne 12, 3) := by decide +kernel
theorem dL_draws_9 : decode cL_draws 9 = .ok (.aload_n 0, 1) := by decide +kernel
theorem dL_draws_10 : decode cL_draws 10 = .ok (.invokestatic 8, 3) := by decide +kernel
theorem dL_draws_13 : decode cL_draws 13 = .ok (.iconst 3, 1) := by decide +kernel
theorem dL_draws_14 : decode cL_draws 14 = .ok (.irem, 1) := by decide +kernel
theorem dL_draws_15 : decode cL_draws 15 = .ok (.goto 10, 3) := by decide +kernel
theorem dL_draws_18 : decode cL_draws 18 = .ok (.aload_n 0, 1) := by decide +kernel
theorem dL_draws_19 : decode cL_draws 19 = .ok (.iconst 1, 1) := by decide +kernel
theorem dL_draws_20 : decode cL_draws 20 = .ok (.bipush 12, 2) := by decide +kernel
theorem dL_draws_22 : decode cL_draws 22 = .ok (.invokestatic 137, 3) := by decide +kernel
theorem dL_draws_25 : decode cL_draws 25 = .ok (.istore_n 2, 1) := by decide +kernel
theorem dL_draws_26 : decode cL_draws 26 = .ok (.iconst 0, 1) := by decide +kernel
theorem dL_draws_27 : decode cL_draws 27 = .ok (.istore_n 3, 1) := by decide +kernel
theorem dL_draws_28 : decode cL_draws 28 = .ok (.iload_n 3, 1) := by decide +kernel
theorem dL_draws_29 : decode cL_draws 29 = .ok (.iload_n 2, 1) := by decide +kernel
theorem dL_draws_30 : decode cL_draws 30 = .ok (.if_icmp .ge 92, 3) := by decide +kernel
theorem dL_draws_33 : decode cL_draws 33 = .ok (.aload_n 0, 1) := by decide +kernel
theorem dL_draws_34 : decode cL_draws 34 = .ok (.invokestatic 8, 3) := by decide +kernel
theorem dL_draws_37 : decode cL_draws 37 = .ok (.bipush 11, 2) := by decide +kernel
theorem dL_draws_39 : decode cL_draws 39 = .ok (.irem, 1) := by decide +kernel
theorem dL_draws_40 : decode cL_draws 40 = .ok (.istore 4, 2) := by decide +kernel
theorem dL_draws_42 : decode cL_draws 42 = .ok (.aload_n 1, 1) := by decide +kernel
theorem dL_draws_43 : decode cL_draws 43 = .ok (.iload_n 3, 1) := by decide +kernel
theorem dL_draws_44 : decode cL_draws 44 = .ok (.iload 4, 2) := by decide +kernel
theorem dL_draws_46 : decode cL_draws 46 = .ok (.iconst 4, 1) := by decide +kernel
theorem dL_draws_47 : decode cL_draws 47 = .ok (.if_icmp .ge 13, 3) := by decide +kernel
theorem dL_draws_50 : decode cL_draws 50 = .ok (.bipush 97, 2) := by decide +kernel
theorem dL_draws_52 : decode cL_draws 52 = .ok (.iload 4, 2) := by decide +kernel
theorem dL_draws_54 : decode cL_draws 54 = .ok (.iconst 2, 1) := by decide +kernel
theorem dL_draws_55 : decode cL_draws 55 = .ok (.irem, 1) := by decide +kernel
theorem dL_draws_56 : decode cL_draws 56 = .ok (.iadd, 1) := by decide +kernel
theorem dL_draws_57 : decode cL_draws 57 = .ok (.goto 58, 3) := by decide +kernel
theorem dL_draws_60 : decode cL_draws 60 = .ok (.iload 4, 2) := by decide +kernel
theorem dL_draws_62 : decode cL_draws 62 = .ok (.bipush 6, 2) := by decide +kernel
theorem dL_draws_64 : decode cL_draws 64 = .ok (.if_icmp .ge 8, 3) := by decide +kernel
theorem dL_draws_67 : decode cL_draws 67 = .ok (.bipush 32, 2) := by decide +kernel
theorem dL_draws_69 : decode cL_draws 69 = .ok (.goto 46, 3) := by decide +kernel
theorem dL_draws_72 : decode cL_draws 72 = .ok (.iload 4, 2) := by decide +kernel
theorem dL_draws_74 : decode cL_draws 74 = .ok (.bipush 6, 2) := by decide +kernel
theorem dL_draws_76 : decode cL_draws 76 = .ok (.if_icmp .ne 8, 3) := by decide +kernel
theorem dL_draws_79 : decode cL_draws 79 = .ok (.bipush 10, 2) := by decide +kernel
theorem dL_draws_81 : decode cL_draws 81 = .ok (.goto 34, 3) := by decide +kernel
theorem dL_draws_84 : decode cL_draws 84 = .ok (.iload 4, 2) := by decide +kernel
theorem dL_draws_86 : decode cL_draws 86 = .ok (.bipush 7, 2) := by decide +kernel
theorem dL_draws_88 : decode cL_draws 88 = .ok (.if_icmp .ne 8, 3) := by decide +kernel
theorem dL_draws_91 : decode cL_draws 91 = .ok (.bipush 9, 2) := by decide +kernel
theorem dL_draws_93 : decode cL_draws 93 = .ok (.goto 22, 3) := by decide +kernel
theorem dL_draws_96 : decode cL_draws 96 = .ok (.iload 4, 2) := by decide +kernel
theorem dL_draws_98 : decode cL_draws 98 = .ok (.bipush 8, 2) := by decide +kernel
theorem dL_draws_100 : decode cL_draws 100 = .ok (.if_icmp .ne 8, 3) := by decide +kernel
theorem dL_draws_103 : decode cL_draws 103 = .ok (.bipush 45, 2) := by decide +kernel
theorem dL_draws_105 : decode cL_draws 105 = .ok (.goto 10, 3) := by decide +kernel
theorem dL_draws_108 : decode cL_draws 108 = .ok (.bipush 97, 2) := by decide +kernel
theorem dL_draws_110 : decode cL_draws 110 = .ok (.iload 4, 2) := by decide +kernel
theorem dL_draws_112 : decode cL_draws 112 = .ok (.iconst 3, 1) := by decide +kernel
theorem dL_draws_113 : decode cL_draws 113 = .ok (.irem, 1) := by decide +kernel
theorem dL_draws_114 : decode cL_draws 114 = .ok (.iadd, 1) := by decide +kernel
theorem dL_draws_115 : decode cL_draws 115 = .ok (.iastore, 1) := by decide +kernel
theorem dL_draws_116 : decode cL_draws 116 = .ok (.iinc 3 1, 3) := by decide +kernel
theorem dL_draws_119 : decode cL_draws 119 = .ok (.goto (-91), 3) := by decide +kernel
theorem dL_draws_122 : decode cL_draws 122 = .ok (.iload_n 2, 1) := by decide +kernel
theorem dL_draws_123 : decode cL_draws 123 = .ok (.ireturn, 1) := by decide +kernel
theorem dL_sees_0 : decode cL_sees 0 = .ok (.aload_n 0, 1) := by decide +kernel
theorem dL_sees_1 : decode cL_sees 1 = .ok (.iconst 0, 1) := by decide +kernel
theorem dL_sees_2 : decode cL_sees 2 = .ok (.invokevirtual 134, 3) := by decide +kernel
theorem dL_sees_5 : decode cL_sees 5 = .ok (.istore_n 2, 1) := by decide +kernel
theorem dL_sees_6 : decode cL_sees 6 = .ok (.aload_n 1, 1) := by decide +kernel
theorem dL_sees_7 : decode cL_sees 7 = .ok (.iconst 0, 1) := by decide +kernel
theorem dL_sees_8 : decode cL_sees 8 = .ok (.iload_n 2, 1) := by decide +kernel
theorem dL_sees_9 : decode cL_sees 9 = .ok (.iastore, 1) := by decide +kernel
theorem dL_sees_10 : decode cL_sees 10 = .ok (.aload_n 1, 1) := by decide +kernel
theorem dL_sees_11 : decode cL_sees 11 = .ok (.iconst 1, 1) := by decide +kernel
theorem dL_sees_12 : decode cL_sees 12 = .ok (.aload_n 0, 1) := by decide +kernel
theorem dL_sees_13 : decode cL_sees 13 = .ok (.iconst 2, 1) := by decide +kernel
theorem dL_sees_14 : decode cL_sees 14 = .ok (.invokevirtual 134, 3) := by decide +kernel
theorem dL_sees_17 : decode cL_sees 17 = .ok (.iastore, 1) := by decide +kernel
theorem dL_sees_18 : decode cL_sees 18 = .ok (.iconst 0, 1) := by decide +kernel
theorem dL_sees_19 : decode cL_sees 19 = .ok (.istore_n 3, 1) := by decide +kernel
theorem dL_sees_20 : decode cL_sees 20 = .ok (.iload_n 3, 1) := by decide +kernel
theorem dL_sees_21 : decode cL_sees 21 = .ok (.aload_n 1, 1) := by decide +kernel
theorem dL_sees_22 : decode cL_sees 22 = .ok (.iconst 1, 1) := by decide +kernel
theorem dL_sees_23 : decode cL_sees 23 = .ok (.iaload, 1) := by decide +kernel
theorem dL_sees_24 : decode cL_sees 24 = .ok (.if_icmp .ge 19, 3) := by decide +kernel
theorem dL_sees_27 : decode cL_sees 27 = .ok (.aload_n 1, 1) := by decide +kernel
theorem dL_sees_28 : decode cL_sees 28 = .ok (.iconst 2, 1) := by decide +kernel
theorem dL_sees_29 : decode cL_sees 29 = .ok (.iload_n 3, 1) := by decide +kernel
theorem dL_sees_30 : decode cL_sees 30 = .ok (.iadd, 1) := by decide +kernel
theorem dL_sees_31 : decode cL_sees 31 = .ok (.aload_n 0, 1) := by decide +kernel
theorem dL_sees_32 : decode cL_sees 32 = .ok (.iload_n 3, 1) := by decide +kernel
theorem dL_sees_33 : decode cL_sees 33 = .ok (.invokevirtual 141, 3) := by decide +kernel
theorem dL_sees_36 : decode cL_sees 36 = .ok (.iastore, 1) := by decide +kernel
theorem dL_sees_37 : decode cL_sees 37 = .ok (.iinc 3 1, 3) := by decide +kernel
theorem dL_sees_40 : decode cL_sees 40 = .ok (.goto (-20), 3) := by decide +kernel
theorem dL_sees_43 : decode cL_sees 43 = .ok (.iconst 0, 1) := by decide +kernel
theorem dL_sees_44 : decode cL_sees 44 = .ok (.istore_n 3, 1) := by decide +kernel
theorem dL_sees_45 : decode cL_sees 45 = .ok (.iload_n 3, 1) := by decide +kernel
theorem dL_sees_46 : decode cL_sees 46 = .ok (.bipush 16, 2) := by decide +kernel
theorem dL_sees_48 : decode cL_sees 48 = .ok (.if_icmp .ge 20, 3) := by decide +kernel
theorem dL_sees_51 : decode cL_sees 51 = .ok (.aload_n 1, 1) := by decide +kernel
theorem dL_sees_52 : decode cL_sees 52 = .ok (.bipush 10, 2) := by decide +kernel
theorem dL_sees_54 : decode cL_sees 54 = .ok (.iload_n 3, 1) := by decide +kernel
theorem dL_sees_55 : decode cL_sees 55 = .ok (.iadd, 1) := by decide +kernel
theorem dL_sees_56 : decode cL_sees 56 = .ok (.aload_n 0, 1) := by decide +kernel
theorem dL_sees_57 : decode cL_sees 57 = .ok (.iload_n 3, 1) := by decide +kernel
theorem dL_sees_58 : decode cL_sees 58 = .ok (.invokevirtual 144, 3) := by decide +kernel
theorem dL_sees_61 : decode cL_sees 61 = .ok (.iastore, 1) := by decide +kernel
theorem dL_sees_62 : decode cL_sees 62 = .ok (.iinc 3 1, 3) := by decide +kernel
theorem dL_sees_65 : decode cL_sees 65 = .ok (.goto (-20), 3) := by decide +kernel
theorem dL_sees_68 : decode cL_sees 68 = .ok (.aload_n 0, 1) := by decide +kernel
theorem dL_sees_69 : decode cL_sees 69 = .ok (.iconst 1, 1) := by decide +kernel
theorem dL_sees_70 : decode cL_sees 70 = .ok (.invokevirtual 134, 3) := by decide +kernel
theorem dL_sees_73 : decode cL_sees 73 = .ok (.istore_n 3, 1) := by decide +kernel
theorem dL_sees_74 : decode cL_sees 74 = .ok (.aload_n 1, 1) := by decide +kernel
theorem dL_sees_75 : decode cL_sees 75 = .ok (.bipush 26, 2) := by decide +kernel
theorem dL_sees_77 : decode cL_sees 77 = .ok (.iload_n 3, 1) := by decide +kernel
theorem dL_sees_78 : decode cL_sees 78 = .ok (.iastore, 1) := by decide +kernel
theorem dL_sees_79 : decode cL_sees 79 = .ok (.iconst 0, 1) := by decide +kernel
theorem dL_sees_80 : decode cL_sees 80 = .ok (.istore 4, 2) := by decide +kernel
theorem dL_sees_82 : decode cL_sees 82 = .ok (.iload 4, 2) := by decide +kernel
theorem dL_sees_84 : decode cL_sees 84 = .ok (.iload_n 3, 1) := by decide +kernel
theorem dL_sees_85 : decode cL_sees 85 = .ok (.if_icmp .ge 25, 3) := by decide +kernel
theorem dL_sees_88 : decode cL_sees 88 = .ok (.aload_n 1, 1) := by decide +kernel
theorem dL_sees_89 : decode cL_sees 89 = .ok (.bipush 30, 2) := by decide +kernel
theorem dL_sees_91 : decode cL_sees 91 = .ok (.iload 4, 2) := by decide +kernel
theorem dL_sees_93 : decode cL_sees 93 = .ok (.iadd, 1) := by decide +kernel
theorem dL_sees_94 : decode cL_sees 94 = .ok (.aload_n 0, 1) := by decide +kernel
theorem dL_sees_95 : decode cL_sees 95 = .ok (.iload 4, 2) := by decide +kernel
theorem dL_sees_97 : decode cL_sees 97 = .ok (.invokevirtual 147, 3) := by decide +kernel
theorem dL_sees_100 : decode cL_sees 100 = .ok (.invokestatic 63, 3) := by decide +kernel
theorem dL_sees_103 : decode cL_sees 103 = .ok (.iastore, 1) := by decide +kernel
theorem dL_sees_104 : decode cL_sees 104 = .ok (.iinc 4 1, 3) := by decide +kernel
theorem dL_sees_107 : decode cL_sees 107 = .ok (.goto (-25), 3) := by decide +kernel
theorem dL_sees_110 : decode cL_sees 110 = .ok (.iconst 0, 1) := by decide +kernel
theorem dL_sees_111 : decode cL_sees 111 = .ok (.istore 4, 2) := by decide +kernel
theorem dL_sees_113 : decode cL_sees 113 = .ok (.iload 4, 2) := by decide +kernel
theorem dL_sees_115 : decode cL_sees 115 = .ok (.iload_n 2, 1) := by decide +kernel
theorem dL_sees_116 : decode cL_sees 116 = .ok (.if_icmp .ge 23, 3) := by decide +kernel
theorem dL_sees_119 : decode cL_sees 119 = .ok (.aload_n 1, 1) := by decide +kernel
theorem dL_sees_120 : decode cL_sees 120 = .ok (.sipush 400, 3) := by decide +kernel
theorem dL_sees_123 : decode cL_sees 123 = .ok (.iload 4, 2) := by decide +kernel
theorem dL_sees_125 : decode cL_sees 125 = .ok (.iadd, 1) := by decide +kernel
theorem dL_sees_126 : decode cL_sees 126 = .ok (.aload_n 0, 1) := by decide +kernel
theorem dL_sees_127 : decode cL_sees 127 = .ok (.iload 4, 2) := by decide +kernel
theorem dL_sees_129 : decode cL_sees 129 = .ok (.invokevirtual 106, 3) := by decide +kernel
theorem dL_sees_132 : decode cL_sees 132 = .ok (.iastore, 1) := by decide +kernel
theorem dL_sees_133 : decode cL_sees 133 = .ok (.iinc 4 1, 3) := by decide +kernel
theorem dL_sees_136 : decode cL_sees 136 = .ok (.goto (-23), 3) := by decide +kernel
theorem dL_sees_139 : decode cL_sees 139 = .ok (.return_, 1) := by decide +kernel
theorem dL_isLike_0 : decode cL_isLike 0 = .ok (.aload_n 0, 1) := by decide +kernel
theorem dL_isLike_1 : decode cL_isLike 1 = .ok (.aload_n 2, 1) := by decide +kernel
theorem dL_isLike_2 : decode cL_isLike 2 = .ok (.invokestatic 151, 3) := by decide +kernel
theorem dL_isLike_5 : decode cL_isLike 5 = .ok (.aload_n 2, 1) := by decide +kernel
theorem dL_isLike_6 : decode cL_isLike 6 = .ok (.iconst 0, 1) := by decide +kernel
theorem dL_isLike_7 : decode cL_isLike 7 = .ok (.iaload, 1) := by decide +kernel
theorem dL_isLike_8 : decode cL_isLike 8 = .ok (.aload_n 1, 1) := by decide +kernel
theorem dL_isLike_9 : decode cL_isLike 9 = .ok (.iconst 0, 1) := by decide +kernel
theorem dL_isLike_10 : decode cL_isLike 10 = .ok (.iaload, 1) := by decide +kernel
theorem dL_isLike_11 : decode cL_isLike 11 = .ok (.if_icmp .ne 23, 3) := by decide +kernel
theorem dL_isLike_14 : decode cL_isLike 14 = .ok (.aload_n 2, 1) := by decide +kernel
theorem dL_isLike_15 : decode cL_isLike 15 = .ok (.iconst 1, 1) := by decide +kernel
theorem dL_isLike_16 : decode cL_isLike 16 = .ok (.iaload, 1) := by decide +kernel
theorem dL_isLike_17 : decode cL_isLike 17 = .ok (.aload_n 1, 1) := by decide +kernel
theorem dL_isLike_18 : decode cL_isLike 18 = .ok (.iconst 1, 1) := by decide +kernel
theorem dL_isLike_19 : decode cL_isLike 19 = .ok (.iaload, 1) := by decide +kernel
theorem dL_isLike_20 : decode cL_isLike 20 = .ok (.if_icmp .ne 14, 3) := by decide +kernel
theorem dL_isLike_23 : decode cL_isLike 23 = .ok (.aload_n 2, 1) := by decide +kernel
theorem dL_isLike_24 : decode cL_isLike 24 = .ok (.bipush 26, 2) := by decide +kernel
theorem dL_isLike_26 : decode cL_isLike 26 = .ok (.iaload, 1) := by decide +kernel
theorem dL_isLike_27 : decode cL_isLike 27 = .ok (.aload_n 1, 1) := by decide +kernel
theorem dL_isLike_28 : decode cL_isLike 28 = .ok (.bipush 26, 2) := by decide +kernel
theorem dL_isLike_30 : decode cL_isLike 30 = .ok (.iaload, 1) := by decide +kernel
theorem dL_isLike_31 : decode cL_isLike 31 = .ok (.if_icmp .eq 5, 3) := by decide +kernel
theorem dL_isLike_34 : decode cL_isLike 34 = .ok (.iconst 0, 1) := by decide +kernel
theorem dL_isLike_35 : decode cL_isLike 35 = .ok (.ireturn, 1) := by decide +kernel
theorem dL_isLike_36 : decode cL_isLike 36 = .ok (.iconst 0, 1) := by decide +kernel
theorem dL_isLike_37 : decode cL_isLike 37 = .ok (.istore_n 3, 1) := by decide +kernel
theorem dL_isLike_38 : decode cL_isLike 38 = .ok (.iload_n 3, 1) := by decide +kernel
theorem dL_isLike_39 : decode cL_isLike 39 = .ok (.iconst 2, 1) := by decide +kernel
theorem dL_isLike_40 : decode cL_isLike 40 = .ok (.aload_n 1, 1) := by decide +kernel
theorem dL_isLike_41 : decode cL_isLike 41 = .ok (.iconst 1, 1) := by decide +kernel
theorem dL_isLike_42 : decode cL_isLike 42 = .ok (.iaload, 1) := by decide +kernel
theorem dL_isLike_43 : decode cL_isLike 43 = .ok (.iadd, 1) := by decide +kernel
theorem dL_isLike_44 : decode cL_isLike 44 = .ok (.if_icmp .ge 20, 3) := by decide +kernel
theorem dL_isLike_47 : decode cL_isLike 47 = .ok (.aload_n 2, 1) := by decide +kernel
theorem dL_isLike_48 : decode cL_isLike 48 = .ok (.iload_n 3, 1) := by decide +kernel
theorem dL_isLike_49 : decode cL_isLike 49 = .ok (.iaload, 1) := by decide +kernel
theorem dL_isLike_50 : decode cL_isLike 50 = .ok (.aload_n 1, 1) := by decide +kernel
theorem dL_isLike_51 : decode cL_isLike 51 = .ok (.iload_n 3, 1) := by decide +kernel
theorem dL_isLike_52 : decode cL_isLike 52 = .ok (.iaload, 1) := by decide +kernel
theorem dL_isLike_53 : decode cL_isLike 53 = .ok (.if_icmp .eq 5, 3) := by decide +kernel
theorem dL_isLike_56 : decode cL_isLike 56 = .ok (.iconst 0, 1) := by decide +kernel
theorem dL_isLike_57 : decode cL_isLike 57 = .ok (.ireturn, 1) := by decide +kernel
theorem dL_isLike_58 : decode cL_isLike 58 = .ok (.iinc 3 1, 3) := by decide +kernel
theorem dL_isLike_61 : decode cL_isLike 61 = .ok (.goto (-23), 3) := by decide +kernel
theorem dL_isLike_64 : decode cL_isLike 64 = .ok (.bipush 10, 2) := by decide +kernel
theorem dL_isLike_66 : decode cL_isLike 66 = .ok (.istore_n 3, 1) := by decide +kernel
theorem dL_isLike_67 : decode cL_isLike 67 = .ok (.iload_n 3, 1) := by decide +kernel
theorem dL_isLike_68 : decode cL_isLike 68 = .ok (.bipush 30, 2) := by decide +kernel
theorem dL_isLike_70 : decode cL_isLike 70 = .ok (.aload_n 1, 1) := by decide +kernel
theorem dL_isLike_71 : decode cL_isLike 71 = .ok (.bipush 26, 2) := by decide +kernel
theorem dL_isLike_73 : decode cL_isLike 73 = .ok (.iaload, 1) := by decide +kernel
theorem dL_isLike_74 : decode cL_isLike 74 = .ok (.iadd, 1) := by decide +kernel
theorem dL_isLike_75 : decode cL_isLike 75 = .ok (.if_icmp .ge 38, 3) := by decide +kernel
theorem dL_isLike_78 : decode cL_isLike 78 = .ok (.iload_n 3, 1) := by decide +kernel
theorem dL_isLike_79 : decode cL_isLike 79 = .ok (.bipush 27, 2) := by decide +kernel
theorem dL_isLike_81 : decode cL_isLike 81 = .ok (.if_icmp .eq 26, 3) := by decide +kernel
theorem dL_isLike_84 : decode cL_isLike 84 = .ok (.iload_n 3, 1) := by decide +kernel
theorem dL_isLike_85 : decode cL_isLike 85 = .ok (.bipush 28, 2) := by decide +kernel
theorem dL_isLike_87 : decode cL_isLike 87 = .ok (.if_icmp .eq 20, 3) := by decide +kernel
theorem dL_isLike_90 : decode cL_isLike 90 = .ok (.iload_n 3, 1) := by decide +kernel
theorem dL_isLike_91 : decode cL_isLike 91 = .ok (.bipush 29, 2) := by decide +kernel
theorem dL_isLike_93 : decode cL_isLike 93 = .ok (.if_icmp .eq 14, 3) := by decide +kernel
theorem dL_isLike_96 : decode cL_isLike 96 = .ok (.aload_n 2, 1) := by decide +kernel
theorem dL_isLike_97 : decode cL_isLike 97 = .ok (.iload_n 3, 1) := by decide +kernel
theorem dL_isLike_98 : decode cL_isLike 98 = .ok (.iaload, 1) := by decide +kernel
theorem dL_isLike_99 : decode cL_isLike 99 = .ok (.aload_n 1, 1) := by decide +kernel
theorem dL_isLike_100 : decode cL_isLike 100 = .ok (.iload_n 3, 1) := by decide +kernel
theorem dL_isLike_101 : decode cL_isLike 101 = .ok (.iaload, 1) := by decide +kernel
theorem dL_isLike_102 : decode cL_isLike 102 = .ok (.if_icmp .eq 5, 3) := by decide +kernel
theorem dL_isLike_105 : decode cL_isLike 105 = .ok (.iconst 0, 1) := by decide +kernel
theorem dL_isLike_106 : decode cL_isLike 106 = .ok (.ireturn, 1) := by decide +kernel
theorem dL_isLike_107 : decode cL_isLike 107 = .ok (.iinc 3 1, 3) := by decide +kernel
theorem dL_isLike_110 : decode cL_isLike 110 = .ok (.goto (-43), 3) := by decide +kernel
theorem dL_isLike_113 : decode cL_isLike 113 = .ok (.iconst 0, 1) := by decide +kernel
theorem dL_isLike_114 : decode cL_isLike 114 = .ok (.istore_n 3, 1) := by decide +kernel
theorem dL_isLike_115 : decode cL_isLike 115 = .ok (.iload_n 3, 1) := by decide +kernel
theorem dL_isLike_116 : decode cL_isLike 116 = .ok (.aload_n 1, 1) := by decide +kernel
theorem dL_isLike_117 : decode cL_isLike 117 = .ok (.iconst 0, 1) := by decide +kernel
theorem dL_isLike_118 : decode cL_isLike 118 = .ok (.iaload, 1) := by decide +kernel
theorem dL_isLike_119 : decode cL_isLike 119 = .ok (.if_icmp .ge 28, 3) := by decide +kernel
theorem dL_isLike_122 : decode cL_isLike 122 = .ok (.aload_n 2, 1) := by decide +kernel
theorem dL_isLike_123 : decode cL_isLike 123 = .ok (.sipush 400, 3) := by decide +kernel
theorem dL_isLike_126 : decode cL_isLike 126 = .ok (.iload_n 3, 1) := by decide +kernel
theorem dL_isLike_127 : decode cL_isLike 127 = .ok (.iadd, 1) := by decide +kernel
theorem dL_isLike_128 : decode cL_isLike 128 = .ok (.iaload, 1) := by decide +kernel
theorem dL_isLike_129 : decode cL_isLike 129 = .ok (.aload_n 1, 1) := by decide +kernel
theorem dL_isLike_130 : decode cL_isLike 130 = .ok (.sipush 400, 3) := by decide +kernel
theorem dL_isLike_133 : decode cL_isLike 133 = .ok (.iload_n 3, 1) := by decide +kernel
theorem dL_isLike_134 : decode cL_isLike 134 = .ok (.iadd, 1) := by decide +kernel
theorem dL_isLike_135 : decode cL_isLike 135 = .ok (.iaload, 1) := by decide +kernel
theorem dL_isLike_136 : decode cL_isLike 136 = .ok (.if_icmp .eq 5, 3) := by decide +kernel
theorem dL_isLike_139 : decode cL_isLike 139 = .ok (.iconst 0, 1) := by decide +kernel
theorem dL_isLike_140 : decode cL_isLike 140 = .ok (.ireturn, 1) := by decide +kernel
theorem dL_isLike_141 : decode cL_isLike 141 = .ok (.iinc 3 1, 3) := by decide +kernel
theorem dL_isLike_144 : decode cL_isLike 144 = .ok (.goto (-29), 3) := by decide +kernel
theorem dL_isLike_147 : decode cL_isLike 147 = .ok (.iconst 1, 1) := by decide +kernel
theorem dL_isLike_148 : decode cL_isLike 148 = .ok (.ireturn, 1) := by decide +kernel
theorem dL_holds_0 : decode cL_holds 0 = .ok (.aload_n 0, 1) := by decide +kernel
theorem dL_holds_1 : decode cL_holds 1 = .ok (.aload_n 2, 1) := by decide +kernel
theorem dL_holds_2 : decode cL_holds 2 = .ok (.invokestatic 151, 3) := by decide +kernel
theorem dL_holds_5 : decode cL_holds 5 = .ok (.aload_n 2, 1) := by decide +kernel
theorem dL_holds_6 : decode cL_holds 6 = .ok (.iconst 0, 1) := by decide +kernel
theorem dL_holds_7 : decode cL_holds 7 = .ok (.iaload, 1) := by decide +kernel
theorem dL_holds_8 : decode cL_holds 8 = .ok (.istore_n 3, 1) := by decide +kernel
theorem dL_holds_9 : decode cL_holds 9 = .ok (.iconst 0, 1) := by decide +kernel
theorem dL_holds_10 : decode cL_holds 10 = .ok (.istore 4, 2) := by decide +kernel
theorem dL_holds_12 : decode cL_holds 12 = .ok (.iconst 0, 1) := by decide +kernel
theorem dL_holds_13 : decode cL_holds 13 = .ok (.istore 5, 2) := by decide +kernel
theorem dL_holds_15 : decode cL_holds 15 = .ok (.iload_n 3, 1) := by decide +kernel
theorem dL_holds_16 : decode cL_holds 16 = .ok (.sipush 3000, 3) := by decide +kernel
theorem dL_holds_19 : decode cL_holds 19 = .ok (.if_icmp .gt 30, 3) := by decide +kernel
theorem dL_holds_22 : decode cL_holds 22 = .ok (.aload_n 0, 1) := by decide +kernel
theorem dL_holds_23 : decode cL_holds 23 = .ok (.iconst 0, 1) := by decide +kernel
theorem dL_holds_24 : decode cL_holds 24 = .ok (.invokevirtual 147, 3) := by decide +kernel
theorem dL_holds_27 : decode cL_holds 27 = .ok (.ifCond .ne 22, 3) := by decide +kernel
theorem dL_holds_30 : decode cL_holds 30 = .ok (.aload_n 2, 1) := by decide +kernel
theorem dL_holds_31 : decode cL_holds 31 = .ok (.iconst 1, 1) := by decide +kernel
theorem dL_holds_32 : decode cL_holds 32 = .ok (.iaload, 1) := by decide +kernel
theorem dL_holds_33 : decode cL_holds 33 = .ok (.iconst 1, 1) := by decide +kernel
theorem dL_holds_34 : decode cL_holds 34 = .ok (.if_icmp .lt 15, 3) := by decide +kernel
theorem dL_holds_37 : decode cL_holds 37 = .ok (.aload_n 2, 1) := by decide +kernel
theorem dL_holds_38 : decode cL_holds 38 = .ok (.iconst 1, 1) := by decide +kernel
theorem dL_holds_39 : decode cL_holds 39 = .ok (.iaload, 1) := by decide +kernel
theorem dL_holds_40 : decode cL_holds 40 = .ok (.bipush 8, 2) := by decide +kernel
theorem dL_holds_42 : decode cL_holds 42 = .ok (.if_icmp .gt 7, 3) := by decide +kernel
theorem dL_holds_45 : decode cL_holds 45 = .ok (.iconst 1, 1) := by decide +kernel
theorem dL_holds_46 : decode cL_holds 46 = .ok (.goto 4, 3) := by decide +kernel
theorem dL_holds_49 : decode cL_holds 49 = .ok (.iconst 0, 1) := by decide +kernel
theorem dL_holds_50 : decode cL_holds 50 = .ok (.istore 6, 2) := by decide +kernel
theorem dL_holds_52 : decode cL_holds 52 = .ok (.iconst 0, 1) := by decide +kernel
theorem dL_holds_53 : decode cL_holds 53 = .ok (.istore 7, 2) := by decide +kernel
theorem dL_holds_55 : decode cL_holds 55 = .ok (.iload 7, 2) := by decide +kernel
theorem dL_holds_57 : decode cL_holds 57 = .ok (.iload_n 3, 1) := by decide +kernel
theorem dL_holds_58 : decode cL_holds 58 = .ok (.if_icmp .gt 101, 3) := by decide +kernel
theorem dL_holds_61 : decode cL_holds 61 = .ok (.iload 6, 2) := by decide +kernel
theorem dL_holds_63 : decode cL_holds 63 = .ok (.ifCond .eq 96, 3) := by decide +kernel
theorem dL_holds_66 : decode cL_holds 66 = .ok (.iload 7, 2) := by decide +kernel
theorem dL_holds_68 : decode cL_holds 68 = .ok (.bipush 7, 2) := by decide +kernel
theorem dL_holds_70 : decode cL_holds 70 = .ok (.irem, 1) := by decide +kernel
theorem dL_holds_71 : decode cL_holds 71 = .ok (.ifCond .gt 46, 3) := by decide +kernel
theorem dL_holds_74 : decode cL_holds 74 = .ok (.aload_n 0, 1) := by decide +kernel
theorem dL_holds_75 : decode cL_holds 75 = .ok (.iload 7, 2) := by decide +kernel
theorem dL_holds_77 : decode cL_holds 77 = .ok (.invokevirtual 109, 3) := by decide +kernel
theorem dL_holds_80 : decode cL_holds 80 = .ok (.iload 4, 2) := by decide +kernel
theorem dL_holds_82 : decode cL_holds 82 = .ok (.if_icmp .ne 39, 3) := by decide +kernel
theorem dL_holds_85 : decode cL_holds 85 = .ok (.iload 7, 2) := by decide +kernel
theorem dL_holds_87 : decode cL_holds 87 = .ok (.ifCond .le 18, 3) := by decide +kernel
theorem dL_holds_90 : decode cL_holds 90 = .ok (.aload_n 2, 1) := by decide +kernel
theorem dL_holds_91 : decode cL_holds 91 = .ok (.sipush 400, 3) := by decide +kernel
theorem dL_holds_94 : decode cL_holds 94 = .ok (.iload 7, 2) := by decide +kernel
theorem dL_holds_96 : decode cL_holds 96 = .ok (.iadd, 1) := by decide +kernel
theorem dL_holds_97 : decode cL_holds 97 = .ok (.iconst 1, 1) := by decide +kernel
theorem dL_holds_98 : decode cL_holds 98 = .ok (.isub, 1) := by decide +kernel
theorem dL_holds_99 : decode cL_holds 99 = .ok (.iaload, 1) := by decide +kernel
theorem dL_holds_100 : decode cL_holds 100 = .ok (.bipush 10, 2) := by decide +kernel
theorem dL_holds_102 : decode cL_holds 102 = .ok (.if_icmp .ne 15, 3) := by decide +kernel
theorem dL_holds_105 : decode cL_holds 105 = .ok (.aload_n 0, 1) := by decide +kernel
theorem dL_holds_106 : decode cL_holds 106 = .ok (.iload 4, 2) := by decide +kernel
theorem dL_holds_108 : decode cL_holds 108 = .ok (.iconst 0, 1) := by decide +kernel
theorem dL_holds_109 : decode cL_holds 109 = .ok (.invokevirtual 155, 3) := by decide +kernel
theorem dL_holds_112 : decode cL_holds 112 = .ok (.iload 7, 2) := by decide +kernel
theorem dL_holds_114 : decode cL_holds 114 = .ok (.if_icmp .ne 7, 3) := by decide +kernel
theorem dL_holds_117 : decode cL_holds 117 = .ok (.iconst 1, 1) := by decide +kernel
theorem dL_holds_118 : decode cL_holds 118 = .ok (.goto 4, 3) := by decide +kernel
theorem dL_holds_121 : decode cL_holds 121 = .ok (.iconst 0, 1) := by decide +kernel
theorem dL_holds_122 : decode cL_holds 122 = .ok (.istore 6, 2) := by decide +kernel
theorem dL_holds_124 : decode cL_holds 124 = .ok (.iload 4, 2) := by decide +kernel
theorem dL_holds_126 : decode cL_holds 126 = .ok (.iload 7, 2) := by decide +kernel
theorem dL_holds_128 : decode cL_holds 128 = .ok (.iload_n 3, 1) := by decide +kernel
theorem dL_holds_129 : decode cL_holds 129 = .ok (.if_icmp .ge 20, 3) := by decide +kernel
theorem dL_holds_132 : decode cL_holds 132 = .ok (.aload_n 2, 1) := by decide +kernel
theorem dL_holds_133 : decode cL_holds 133 = .ok (.sipush 400, 3) := by decide +kernel
theorem dL_holds_136 : decode cL_holds 136 = .ok (.iload 7, 2) := by decide +kernel
theorem dL_holds_138 : decode cL_holds 138 = .ok (.iadd, 1) := by decide +kernel
theorem dL_holds_139 : decode cL_holds 139 = .ok (.iaload, 1) := by decide +kernel
theorem dL_holds_140 : decode cL_holds 140 = .ok (.bipush 10, 2) := by decide +kernel
theorem dL_holds_142 : decode cL_holds 142 = .ok (.if_icmp .ne 7, 3) := by decide +kernel
theorem dL_holds_145 : decode cL_holds 145 = .ok (.iconst 1, 1) := by decide +kernel
theorem dL_holds_146 : decode cL_holds 146 = .ok (.goto 4, 3) := by decide +kernel
theorem dL_holds_149 : decode cL_holds 149 = .ok (.iconst 0, 1) := by decide +kernel
theorem dL_holds_150 : decode cL_holds 150 = .ok (.iadd, 1) := by decide +kernel
theorem dL_holds_151 : decode cL_holds 151 = .ok (.istore 4, 2) := by decide +kernel
theorem dL_holds_153 : decode cL_holds 153 = .ok (.iinc 7 1, 3) := by decide +kernel
theorem dL_holds_156 : decode cL_holds 156 = .ok (.goto (-101), 3) := by decide +kernel
theorem dL_holds_159 : decode cL_holds 159 = .ok (.iload 6, 2) := by decide +kernel
theorem dL_holds_161 : decode cL_holds 161 = .ok (.ifCond .eq 18, 3) := by decide +kernel
theorem dL_holds_164 : decode cL_holds 164 = .ok (.iload 4, 2) := by decide +kernel
theorem dL_holds_166 : decode cL_holds 166 = .ok (.iconst 1, 1) := by decide +kernel
theorem dL_holds_167 : decode cL_holds 167 = .ok (.iadd, 1) := by decide +kernel
theorem dL_holds_168 : decode cL_holds 168 = .ok (.aload_n 2, 1) := by decide +kernel
theorem dL_holds_169 : decode cL_holds 169 = .ok (.bipush 26, 2) := by decide +kernel
theorem dL_holds_171 : decode cL_holds 171 = .ok (.iaload, 1) := by decide +kernel
theorem dL_holds_172 : decode cL_holds 172 = .ok (.if_icmp .ne 7, 3) := by decide +kernel
theorem dL_holds_175 : decode cL_holds 175 = .ok (.iconst 1, 1) := by decide +kernel
theorem dL_holds_176 : decode cL_holds 176 = .ok (.goto 4, 3) := by decide +kernel
theorem dL_holds_179 : decode cL_holds 179 = .ok (.iconst 0, 1) := by decide +kernel
theorem dL_holds_180 : decode cL_holds 180 = .ok (.istore 6, 2) := by decide +kernel
theorem dL_holds_182 : decode cL_holds 182 = .ok (.iconst 0, 1) := by decide +kernel
theorem dL_holds_183 : decode cL_holds 183 = .ok (.istore 7, 2) := by decide +kernel
theorem dL_holds_185 : decode cL_holds 185 = .ok (.iload 7, 2) := by decide +kernel
theorem dL_holds_187 : decode cL_holds 187 = .ok (.aload_n 2, 1) := by decide +kernel
theorem dL_holds_188 : decode cL_holds 188 = .ok (.bipush 26, 2) := by decide +kernel
theorem dL_holds_190 : decode cL_holds 190 = .ok (.iaload, 1) := by decide +kernel
theorem dL_holds_191 : decode cL_holds 191 = .ok (.if_icmp .ge 21, 3) := by decide +kernel
theorem dL_holds_194 : decode cL_holds 194 = .ok (.iload 5, 2) := by decide +kernel
theorem dL_holds_196 : decode cL_holds 196 = .ok (.aload_n 2, 1) := by decide +kernel
theorem dL_holds_197 : decode cL_holds 197 = .ok (.bipush 30, 2) := by decide +kernel
theorem dL_holds_199 : decode cL_holds 199 = .ok (.iload 7, 2) := by decide +kernel
theorem dL_holds_201 : decode cL_holds 201 = .ok (.iadd, 1) := by decide +kernel
theorem dL_holds_202 : decode cL_holds 202 = .ok (.iaload, 1) := by decide +kernel
theorem dL_holds_203 : decode cL_holds 203 = .ok (.iadd, 1) := by decide +kernel
theorem dL_holds_204 : decode cL_holds 204 = .ok (.istore 5, 2) := by decide +kernel
theorem dL_holds_206 : decode cL_holds 206 = .ok (.iinc 7 1, 3) := by decide +kernel
theorem dL_holds_209 : decode cL_holds 209 = .ok (.goto (-24), 3) := by decide +kernel
theorem dL_holds_212 : decode cL_holds 212 = .ok (.iload 6, 2) := by decide +kernel
theorem dL_holds_214 : decode cL_holds 214 = .ok (.ifCond .eq 17, 3) := by decide +kernel
theorem dL_holds_217 : decode cL_holds 217 = .ok (.aload_n 0, 1) := by decide +kernel
theorem dL_holds_218 : decode cL_holds 218 = .ok (.iconst 4, 1) := by decide +kernel
theorem dL_holds_219 : decode cL_holds 219 = .ok (.invokevirtual 134, 3) := by decide +kernel
theorem dL_holds_222 : decode cL_holds 222 = .ok (.iload 5, 2) := by decide +kernel
theorem dL_holds_224 : decode cL_holds 224 = .ok (.if_icmp .ne 7, 3) := by decide +kernel
theorem dL_holds_227 : decode cL_holds 227 = .ok (.iconst 1, 1) := by decide +kernel
theorem dL_holds_228 : decode cL_holds 228 = .ok (.goto 4, 3) := by decide +kernel
theorem dL_holds_231 : decode cL_holds 231 = .ok (.iconst 0, 1) := by decide +kernel
theorem dL_holds_232 : decode cL_holds 232 = .ok (.istore 6, 2) := by decide +kernel
theorem dL_holds_234 : decode cL_holds 234 = .ok (.iconst 0, 1) := by decide +kernel
theorem dL_holds_235 : decode cL_holds 235 = .ok (.istore 7, 2) := by decide +kernel
theorem dL_holds_237 : decode cL_holds 237 = .ok (.iload 7, 2) := by decide +kernel
theorem dL_holds_239 : decode cL_holds 239 = .ok (.aload_n 2, 1) := by decide +kernel
theorem dL_holds_240 : decode cL_holds 240 = .ok (.iconst 1, 1) := by decide +kernel
theorem dL_holds_241 : decode cL_holds 241 = .ok (.iaload, 1) := by decide +kernel
theorem dL_holds_242 : decode cL_holds 242 = .ok (.if_icmp .ge 78, 3) := by decide +kernel
theorem dL_holds_245 : decode cL_holds 245 = .ok (.iload 6, 2) := by decide +kernel
theorem dL_holds_247 : decode cL_holds 247 = .ok (.ifCond .eq 73, 3) := by decide +kernel
theorem dL_holds_250 : decode cL_holds 250 = .ok (.aload_n 2, 1) := by decide +kernel
theorem dL_holds_251 : decode cL_holds 251 = .ok (.iconst 2, 1) := by decide +kernel
theorem dL_holds_252 : decode cL_holds 252 = .ok (.iload 7, 2) := by decide +kernel
theorem dL_holds_254 : decode cL_holds 254 = .ok (.iadd, 1) := by decide +kernel
theorem dL_holds_255 : decode cL_holds 255 = .ok (.iaload, 1) := by decide +kernel
theorem dL_holds_256 : decode cL_holds 256 = .ok (.ifCond .lt 55, 3) := by decide +kernel
theorem dL_holds_259 : decode cL_holds 259 = .ok (.aload_n 2, 1) := by decide +kernel
theorem dL_holds_260 : decode cL_holds 260 = .ok (.iconst 2, 1) := by decide +kernel
theorem dL_holds_261 : decode cL_holds 261 = .ok (.iload 7, 2) := by decide +kernel
theorem dL_holds_263 : decode cL_holds 263 = .ok (.iadd, 1) := by decide +kernel
theorem dL_holds_264 : decode cL_holds 264 = .ok (.iaload, 1) := by decide +kernel
theorem dL_holds_265 : decode cL_holds 265 = .ok (.iload_n 3, 1) := by decide +kernel
theorem dL_holds_266 : decode cL_holds 266 = .ok (.if_icmp .gt 45, 3) := by decide +kernel
theorem dL_holds_269 : decode cL_holds 269 = .ok (.iload 7, 2) := by decide +kernel
theorem dL_holds_271 : decode cL_holds 271 = .ok (.ifCond .eq 18, 3) := by decide +kernel
theorem dL_holds_274 : decode cL_holds 274 = .ok (.aload_n 2, 1) := by decide +kernel
theorem dL_holds_275 : decode cL_holds 275 = .ok (.iconst 2, 1) := by decide +kernel
theorem dL_holds_276 : decode cL_holds 276 = .ok (.iload 7, 2) := by decide +kernel
theorem dL_holds_278 : decode cL_holds 278 = .ok (.iadd, 1) := by decide +kernel
theorem dL_holds_279 : decode cL_holds 279 = .ok (.iaload, 1) := by decide +kernel
theorem dL_holds_280 : decode cL_holds 280 = .ok (.aload_n 2, 1) := by decide +kernel
theorem dL_holds_281 : decode cL_holds 281 = .ok (.iconst 1, 1) := by decide +kernel
theorem dL_holds_282 : decode cL_holds 282 = .ok (.iload 7, 2) := by decide +kernel
theorem dL_holds_284 : decode cL_holds 284 = .ok (.iadd, 1) := by decide +kernel
theorem dL_holds_285 : decode cL_holds 285 = .ok (.iaload, 1) := by decide +kernel
theorem dL_holds_286 : decode cL_holds 286 = .ok (.if_icmp .le 25, 3) := by decide +kernel
theorem dL_holds_289 : decode cL_holds 289 = .ok (.aload_n 2, 1) := by decide +kernel
theorem dL_holds_290 : decode cL_holds 290 = .ok (.bipush 30, 2) := by decide +kernel
theorem dL_holds_292 : decode cL_holds 292 = .ok (.aload_n 0, 1) := by decide +kernel
theorem dL_holds_293 : decode cL_holds 293 = .ok (.aload_n 2, 1) := by decide +kernel
theorem dL_holds_294 : decode cL_holds 294 = .ok (.iconst 2, 1) := by decide +kernel
theorem dL_holds_295 : decode cL_holds 295 = .ok (.iload 7, 2) := by decide +kernel
theorem dL_holds_297 : decode cL_holds 297 = .ok (.iadd, 1) := by decide +kernel
theorem dL_holds_298 : decode cL_holds 298 = .ok (.iaload, 1) := by decide +kernel
theorem dL_holds_299 : decode cL_holds 299 = .ok (.invokevirtual 109, 3) := by decide +kernel
theorem dL_holds_302 : decode cL_holds 302 = .ok (.iadd, 1) := by decide +kernel
theorem dL_holds_303 : decode cL_holds 303 = .ok (.iaload, 1) := by decide +kernel
theorem dL_holds_304 : decode cL_holds 304 = .ok (.ifCond .ne 7, 3) := by decide +kernel
theorem dL_holds_307 : decode cL_holds 307 = .ok (.iconst 1, 1) := by decide +kernel
theorem dL_holds_308 : decode cL_holds 308 = .ok (.goto 4, 3) := by decide +kernel
theorem dL_holds_311 : decode cL_holds 311 = .ok (.iconst 0, 1) := by decide +kernel
theorem dL_holds_312 : decode cL_holds 312 = .ok (.istore 6, 2) := by decide +kernel
theorem dL_holds_314 : decode cL_holds 314 = .ok (.iinc 7 1, 3) := by decide +kernel
theorem dL_holds_317 : decode cL_holds 317 = .ok (.goto (-80), 3) := by decide +kernel
theorem dL_holds_320 : decode cL_holds 320 = .ok (.iconst 0, 1) := by decide +kernel
theorem dL_holds_321 : decode cL_holds 321 = .ok (.istore 7, 2) := by decide +kernel
theorem dL_holds_323 : decode cL_holds 323 = .ok (.iload 7, 2) := by decide +kernel
theorem dL_holds_325 : decode cL_holds 325 = .ok (.bipush 16, 2) := by decide +kernel
theorem dL_holds_327 : decode cL_holds 327 = .ok (.if_icmp .ge 43, 3) := by decide +kernel
theorem dL_holds_330 : decode cL_holds 330 = .ok (.iload 6, 2) := by decide +kernel
theorem dL_holds_332 : decode cL_holds 332 = .ok (.ifCond .eq 38, 3) := by decide +kernel
theorem dL_holds_335 : decode cL_holds 335 = .ok (.aload_n 2, 1) := by decide +kernel
theorem dL_holds_336 : decode cL_holds 336 = .ok (.bipush 10, 2) := by decide +kernel
theorem dL_holds_338 : decode cL_holds 338 = .ok (.iload 7, 2) := by decide +kernel
theorem dL_holds_340 : decode cL_holds 340 = .ok (.iadd, 1) := by decide +kernel
theorem dL_holds_341 : decode cL_holds 341 = .ok (.iaload, 1) := by decide +kernel
theorem dL_holds_342 : decode cL_holds 342 = .ok (.iconst (-1), 1) := by decide +kernel
theorem dL_holds_343 : decode cL_holds 343 = .ok (.if_icmp .lt 18, 3) := by decide +kernel
theorem dL_holds_346 : decode cL_holds 346 = .ok (.aload_n 2, 1) := by decide +kernel
theorem dL_holds_347 : decode cL_holds 347 = .ok (.bipush 10, 2) := by decide +kernel
theorem dL_holds_349 : decode cL_holds 349 = .ok (.iload 7, 2) := by decide +kernel
theorem dL_holds_351 : decode cL_holds 351 = .ok (.iadd, 1) := by decide +kernel
theorem dL_holds_352 : decode cL_holds 352 = .ok (.iaload, 1) := by decide +kernel
theorem dL_holds_353 : decode cL_holds 353 = .ok (.iload_n 3, 1) := by decide +kernel
theorem dL_holds_354 : decode cL_holds 354 = .ok (.if_icmp .gt 7, 3) := by decide +kernel
theorem dL_holds_357 : decode cL_holds 357 = .ok (.iconst 1, 1) := by decide +kernel
theorem dL_holds_358 : decode cL_holds 358 = .ok (.goto 4, 3) := by decide +kernel
theorem dL_holds_361 : decode cL_holds 361 = .ok (.iconst 0, 1) := by decide +kernel
theorem dL_holds_362 : decode cL_holds 362 = .ok (.istore 6, 2) := by decide +kernel
theorem dL_holds_364 : decode cL_holds 364 = .ok (.iinc 7 1, 3) := by decide +kernel
theorem dL_holds_367 : decode cL_holds 367 = .ok (.goto (-44), 3) := by decide +kernel
theorem dL_holds_370 : decode cL_holds 370 = .ok (.aload_n 1, 1) := by decide +kernel
theorem dL_holds_371 : decode cL_holds 371 = .ok (.invokestatic 8, 3) := by decide +kernel
theorem dL_holds_374 : decode cL_holds 374 = .ok (.iload_n 3, 1) := by decide +kernel
theorem dL_holds_375 : decode cL_holds 375 = .ok (.iconst 1, 1) := by decide +kernel
theorem dL_holds_376 : decode cL_holds 376 = .ok (.iadd, 1) := by decide +kernel
theorem dL_holds_377 : decode cL_holds 377 = .ok (.irem, 1) := by decide +kernel
theorem dL_holds_378 : decode cL_holds 378 = .ok (.istore 7, 2) := by decide +kernel
theorem dL_holds_380 : decode cL_holds 380 = .ok (.iload 6, 2) := by decide +kernel
theorem dL_holds_382 : decode cL_holds 382 = .ok (.ifCond .eq 28, 3) := by decide +kernel
theorem dL_holds_385 : decode cL_holds 385 = .ok (.aload_n 0, 1) := by decide +kernel
theorem dL_holds_386 : decode cL_holds 386 = .ok (.aload_n 0, 1) := by decide +kernel
theorem dL_holds_387 : decode cL_holds 387 = .ok (.iload 7, 2) := by decide +kernel
theorem dL_holds_389 : decode cL_holds 389 = .ok (.invokevirtual 109, 3) := by decide +kernel
theorem dL_holds_392 : decode cL_holds 392 = .ok (.aload_n 0, 1) := by decide +kernel
theorem dL_holds_393 : decode cL_holds 393 = .ok (.iload 7, 2) := by decide +kernel
theorem dL_holds_395 : decode cL_holds 395 = .ok (.invokevirtual 158, 3) := by decide +kernel
theorem dL_holds_398 : decode cL_holds 398 = .ok (.invokevirtual 155, 3) := by decide +kernel
theorem dL_holds_401 : decode cL_holds 401 = .ok (.iload 7, 2) := by decide +kernel
theorem dL_holds_403 : decode cL_holds 403 = .ok (.if_icmp .ne 7, 3) := by decide +kernel
theorem dL_holds_406 : decode cL_holds 406 = .ok (.iconst 1, 1) := by decide +kernel
theorem dL_holds_407 : decode cL_holds 407 = .ok (.goto 4, 3) := by decide +kernel
theorem dL_holds_410 : decode cL_holds 410 = .ok (.iconst 0, 1) := by decide +kernel
theorem dL_holds_411 : decode cL_holds 411 = .ok (.ireturn, 1) := by decide +kernel
theorem dL_replaces_0 : decode cL_replaces 0 = .ok (.aload_n 0, 1) := by decide +kernel
theorem dL_replaces_1 : decode cL_replaces 1 = .ok (.aload_n 2, 1) := by decide +kernel
theorem dL_replaces_2 : decode cL_replaces 2 = .ok (.invokestatic 151, 3) := by decide +kernel
theorem dL_replaces_5 : decode cL_replaces 5 = .ok (.aload_n 1, 1) := by decide +kernel
theorem dL_replaces_6 : decode cL_replaces 6 = .ok (.aload 4, 2) := by decide +kernel
theorem dL_replaces_8 : decode cL_replaces 8 = .ok (.invokestatic 161, 3) := by decide +kernel
theorem dL_replaces_11 : decode cL_replaces 11 = .ok (.istore 6, 2) := by decide +kernel
theorem dL_replaces_13 : decode cL_replaces 13 = .ok (.aload_n 0, 1) := by decide +kernel
theorem dL_replaces_14 : decode cL_replaces 14 = .ok (.aload 4, 2) := by decide +kernel
theorem dL_replaces_16 : decode cL_replaces 16 = .ok (.iload 6, 2) := by decide +kernel
theorem dL_replaces_18 : decode cL_replaces 18 = .ok (.invokestatic 165, 3) := by decide +kernel
theorem dL_replaces_21 : decode cL_replaces 21 = .ok (.ifCond .ne 5, 3) := by decide +kernel
theorem dL_replaces_24 : decode cL_replaces 24 = .ok (.iconst 0, 1) := by decide +kernel
theorem dL_replaces_25 : decode cL_replaces 25 = .ok (.ireturn, 1) := by decide +kernel
theorem dL_replaces_26 : decode cL_replaces 26 = .ok (.aload_n 1, 1) := by decide +kernel
theorem dL_replaces_27 : decode cL_replaces 27 = .ok (.invokestatic 8, 3) := by decide +kernel
theorem dL_replaces_30 : decode cL_replaces 30 = .ok (.aload_n 2, 1) := by decide +kernel
theorem dL_replaces_31 : decode cL_replaces 31 = .ok (.iconst 0, 1) := by decide +kernel
theorem dL_replaces_32 : decode cL_replaces 32 = .ok (.iaload, 1) := by decide +kernel
theorem dL_replaces_33 : decode cL_replaces 33 = .ok (.iconst 1, 1) := by decide +kernel
theorem dL_replaces_34 : decode cL_replaces 34 = .ok (.iadd, 1) := by decide +kernel
theorem dL_replaces_35 : decode cL_replaces 35 = .ok (.irem, 1) := by decide +kernel
theorem dL_replaces_36 : decode cL_replaces 36 = .ok (.istore 7, 2) := by decide +kernel
theorem dL_replaces_38 : decode cL_replaces 38 = .ok (.aload_n 2, 1) := by decide +kernel
theorem dL_replaces_39 : decode cL_replaces 39 = .ok (.iconst 0, 1) := by decide +kernel
theorem dL_replaces_40 : decode cL_replaces 40 = .ok (.iaload, 1) := by decide +kernel
theorem dL_replaces_41 : decode cL_replaces 41 = .ok (.iload 7, 2) := by decide +kernel
theorem dL_replaces_43 : decode cL_replaces 43 = .ok (.aload_n 1, 1) := by decide +kernel
theorem dL_replaces_44 : decode cL_replaces 44 = .ok (.invokestatic 8, 3) := by decide +kernel
theorem dL_replaces_47 : decode cL_replaces 47 = .ok (.bipush 6, 2) := by decide +kernel
theorem dL_replaces_49 : decode cL_replaces 49 = .ok (.irem, 1) := by decide +kernel
theorem dL_replaces_50 : decode cL_replaces 50 = .ok (.iadd, 1) := by decide +kernel
theorem dL_replaces_51 : decode cL_replaces 51 = .ok (.invokestatic 169, 3) := by decide +kernel
theorem dL_replaces_54 : decode cL_replaces 54 = .ok (.istore 8, 2) := by decide +kernel
theorem dL_replaces_56 : decode cL_replaces 56 = .ok (.aload_n 0, 1) := by decide +kernel
theorem dL_replaces_57 : decode cL_replaces 57 = .ok (.iconst 2, 1) := by decide +kernel
theorem dL_replaces_58 : decode cL_replaces 58 = .ok (.iload 7, 2) := by decide +kernel
theorem dL_replaces_60 : decode cL_replaces 60 = .ok (.iload 8, 2) := by decide +kernel
theorem dL_replaces_62 : decode cL_replaces 62 = .ok (.iconst 0, 1) := by decide +kernel
theorem dL_replaces_63 : decode cL_replaces 63 = .ok (.invokestatic 174, 3) := by decide +kernel
theorem dL_replaces_66 : decode cL_replaces 66 = .ok (.istore 9, 2) := by decide +kernel
theorem dL_replaces_68 : decode cL_replaces 68 = .ok (.iload 9, 2) := by decide +kernel
theorem dL_replaces_70 : decode cL_replaces 70 = .ok (.ldc 123, 2) := by decide +kernel
theorem dL_replaces_72 : decode cL_replaces 72 = .ok (.if_icmp .ne 10, 3) := by decide +kernel
theorem dL_replaces_75 : decode cL_replaces 75 = .ok (.aload_n 0, 1) := by decide +kernel
theorem dL_replaces_76 : decode cL_replaces 76 = .ok (.aload_n 2, 1) := by decide +kernel
theorem dL_replaces_77 : decode cL_replaces 77 = .ok (.aload_n 3, 1) := by decide +kernel
theorem dL_replaces_78 : decode cL_replaces 78 = .ok (.invokestatic 178, 3) := by decide +kernel
theorem dL_replaces_81 : decode cL_replaces 81 = .ok (.ireturn, 1) := by decide +kernel
theorem dL_replaces_82 : decode cL_replaces 82 = .ok (.iload 9, 2) := by decide +kernel
theorem dL_replaces_84 : decode cL_replaces 84 = .ok (.aload_n 2, 1) := by decide +kernel
theorem dL_replaces_85 : decode cL_replaces 85 = .ok (.iconst 0, 1) := by decide +kernel
theorem dL_replaces_86 : decode cL_replaces 86 = .ok (.iaload, 1) := by decide +kernel
theorem dL_replaces_87 : decode cL_replaces 87 = .ok (.iload 6, 2) := by decide +kernel
theorem dL_replaces_89 : decode cL_replaces 89 = .ok (.iadd, 1) := by decide +kernel
theorem dL_replaces_90 : decode cL_replaces 90 = .ok (.iload 8, 2) := by decide +kernel
theorem dL_replaces_92 : decode cL_replaces 92 = .ok (.iload 7, 2) := by decide +kernel
theorem dL_replaces_94 : decode cL_replaces 94 = .ok (.isub, 1) := by decide +kernel
theorem dL_replaces_95 : decode cL_replaces 95 = .ok (.isub, 1) := by decide +kernel
theorem dL_replaces_96 : decode cL_replaces 96 = .ok (.if_icmp .eq 5, 3) := by decide +kernel
theorem dL_replaces_99 : decode cL_replaces 99 = .ok (.iconst 0, 1) := by decide +kernel
theorem dL_replaces_100 : decode cL_replaces 100 = .ok (.ireturn, 1) := by decide +kernel
theorem dL_replaces_101 : decode cL_replaces 101 = .ok (.aload_n 0, 1) := by decide +kernel
theorem dL_replaces_102 : decode cL_replaces 102 = .ok (.aload_n 3, 1) := by decide +kernel
theorem dL_replaces_103 : decode cL_replaces 103 = .ok (.invokestatic 151, 3) := by decide +kernel
theorem dL_replaces_106 : decode cL_replaces 106 = .ok (.iconst 0, 1) := by decide +kernel
theorem dL_replaces_107 : decode cL_replaces 107 = .ok (.istore 10, 2) := by decide +kernel
theorem dL_replaces_109 : decode cL_replaces 109 = .ok (.iload 10, 2) := by decide +kernel
theorem dL_replaces_111 : decode cL_replaces 111 = .ok (.aload_n 3, 1) := by decide +kernel
theorem dL_replaces_112 : decode cL_replaces 112 = .ok (.iconst 0, 1) := by decide +kernel
theorem dL_replaces_113 : decode cL_replaces 113 = .ok (.iaload, 1) := by decide +kernel
theorem dL_replaces_114 : decode cL_replaces 114 = .ok (.if_icmp .ge 78, 3) := by decide +kernel
theorem dL_replaces_117 : decode cL_replaces 117 = .ok (.aload_n 3, 1) := by decide +kernel
theorem dL_replaces_118 : decode cL_replaces 118 = .ok (.sipush 400, 3) := by decide +kernel
theorem dL_replaces_121 : decode cL_replaces 121 = .ok (.iload 10, 2) := by decide +kernel
theorem dL_replaces_123 : decode cL_replaces 123 = .ok (.iadd, 1) := by decide +kernel
theorem dL_replaces_124 : decode cL_replaces 124 = .ok (.iaload, 1) := by decide +kernel
theorem dL_replaces_125 : decode cL_replaces 125 = .ok (.iload 10, 2) := by decide +kernel
theorem dL_replaces_127 : decode cL_replaces 127 = .ok (.iload 7, 2) := by decide +kernel
theorem dL_replaces_129 : decode cL_replaces 129 = .ok (.if_icmp .ge 14, 3) := by decide +kernel
theorem dL_replaces_132 : decode cL_replaces 132 = .ok (.aload_n 2, 1) := by decide +kernel
theorem dL_replaces_133 : decode cL_replaces 133 = .ok (.sipush 400, 3) := by decide +kernel
theorem dL_replaces_136 : decode cL_replaces 136 = .ok (.iload 10, 2) := by decide +kernel
theorem dL_replaces_138 : decode cL_replaces 138 = .ok (.iadd, 1) := by decide +kernel
theorem dL_replaces_139 : decode cL_replaces 139 = .ok (.iaload, 1) := by decide +kernel
theorem dL_replaces_140 : decode cL_replaces 140 = .ok (.goto 41, 3) := by decide +kernel
theorem dL_replaces_143 : decode cL_replaces 143 = .ok (.iload 10, 2) := by decide +kernel
theorem dL_replaces_145 : decode cL_replaces 145 = .ok (.iload 7, 2) := by decide +kernel
theorem dL_replaces_147 : decode cL_replaces 147 = .ok (.iload 6, 2) := by decide +kernel
theorem dL_replaces_149 : decode cL_replaces 149 = .ok (.iadd, 1) := by decide +kernel
theorem dL_replaces_150 : decode cL_replaces 150 = .ok (.if_icmp .ge 14, 3) := by decide +kernel
theorem dL_replaces_153 : decode cL_replaces 153 = .ok (.aload 4, 2) := by decide +kernel
theorem dL_replaces_155 : decode cL_replaces 155 = .ok (.iload 10, 2) := by decide +kernel
theorem dL_replaces_157 : decode cL_replaces 157 = .ok (.iload 7, 2) := by decide +kernel
theorem dL_replaces_159 : decode cL_replaces 159 = .ok (.isub, 1) := by decide +kernel
theorem dL_replaces_160 : decode cL_replaces 160 = .ok (.iaload, 1) := by decide +kernel
theorem dL_replaces_161 : decode cL_replaces 161 = .ok (.goto 20, 3) := by decide +kernel
theorem dL_replaces_164 : decode cL_replaces 164 = .ok (.aload_n 2, 1) := by decide +kernel
theorem dL_replaces_165 : decode cL_replaces 165 = .ok (.sipush 400, 3) := by decide +kernel
theorem dL_replaces_168 : decode cL_replaces 168 = .ok (.iload 10, 2) := by decide +kernel
theorem dL_replaces_170 : decode cL_replaces 170 = .ok (.iadd, 1) := by decide +kernel
theorem dL_replaces_171 : decode cL_replaces 171 = .ok (.iload 6, 2) := by decide +kernel
theorem dL_replaces_173 : decode cL_replaces 173 = .ok (.isub, 1) := by decide +kernel
theorem dL_replaces_174 : decode cL_replaces 174 = .ok (.iload 8, 2) := by decide +kernel
theorem dL_replaces_176 : decode cL_replaces 176 = .ok (.iadd, 1) := by decide +kernel
theorem dL_replaces_177 : decode cL_replaces 177 = .ok (.iload 7, 2) := by decide +kernel
theorem dL_replaces_179 : decode cL_replaces 179 = .ok (.isub, 1) := by decide +kernel
theorem dL_replaces_180 : decode cL_replaces 180 = .ok (.iaload, 1) := by decide +kernel
theorem dL_replaces_181 : decode cL_replaces 181 = .ok (.if_icmp .eq 5, 3) := by decide +kernel
theorem dL_replaces_184 : decode cL_replaces 184 = .ok (.iconst 0, 1) := by decide +kernel
theorem dL_replaces_185 : decode cL_replaces 185 = .ok (.ireturn, 1) := by decide +kernel
theorem dL_replaces_186 : decode cL_replaces 186 = .ok (.iinc 10 1, 3) := by decide +kernel
theorem dL_replaces_189 : decode cL_replaces 189 = .ok (.goto (-80), 3) := by decide +kernel
theorem dL_replaces_192 : decode cL_replaces 192 = .ok (.iconst 0, 1) := by decide +kernel
theorem dL_replaces_193 : decode cL_replaces 193 = .ok (.istore 10, 2) := by decide +kernel
theorem dL_replaces_195 : decode cL_replaces 195 = .ok (.iload 10, 2) := by decide +kernel
theorem dL_replaces_197 : decode cL_replaces 197 = .ok (.bipush 16, 2) := by decide +kernel
theorem dL_replaces_199 : decode cL_replaces 199 = .ok (.if_icmp .ge 217, 3) := by decide +kernel
theorem dL_replaces_202 : decode cL_replaces 202 = .ok (.aload_n 2, 1) := by decide +kernel
theorem dL_replaces_203 : decode cL_replaces 203 = .ok (.bipush 10, 2) := by decide +kernel
theorem dL_replaces_205 : decode cL_replaces 205 = .ok (.iload 10, 2) := by decide +kernel
theorem dL_replaces_207 : decode cL_replaces 207 = .ok (.iadd, 1) := by decide +kernel
theorem dL_replaces_208 : decode cL_replaces 208 = .ok (.iaload, 1) := by decide +kernel
theorem dL_replaces_209 : decode cL_replaces 209 = .ok (.istore 11, 2) := by decide +kernel
theorem dL_replaces_211 : decode cL_replaces 211 = .ok (.iload 11, 2) := by decide +kernel
theorem dL_replaces_213 : decode cL_replaces 213 = .ok (.ifCond .ge 15, 3) := by decide +kernel
theorem dL_replaces_216 : decode cL_replaces 216 = .ok (.aload_n 3, 1) := by decide +kernel
theorem dL_replaces_217 : decode cL_replaces 217 = .ok (.bipush 10, 2) := by decide +kernel
theorem dL_replaces_219 : decode cL_replaces 219 = .ok (.iload 10, 2) := by decide +kernel
theorem dL_replaces_221 : decode cL_replaces 221 = .ok (.iadd, 1) := by decide +kernel
theorem dL_replaces_222 : decode cL_replaces 222 = .ok (.iaload, 1) := by decide +kernel
theorem dL_replaces_223 : decode cL_replaces 223 = .ok (.ifCond .lt 187, 3) := by decide +kernel
theorem dL_replaces_226 : decode cL_replaces 226 = .ok (.iconst 0, 1) := by decide +kernel
theorem dL_replaces_227 : decode cL_replaces 227 = .ok (.ireturn, 1) := by decide +kernel
theorem dL_replaces_228 : decode cL_replaces 228 = .ok (.aload 5, 2) := by decide +kernel
theorem dL_replaces_230 : decode cL_replaces 230 = .ok (.iload 10, 2) := by decide +kernel
theorem dL_replaces_232 : decode cL_replaces 232 = .ok (.baload, 1) := by decide +kernel
theorem dL_replaces_233 : decode cL_replaces 233 = .ok (.ifCond .eq 20, 3) := by decide +kernel
theorem dL_replaces_236 : decode cL_replaces 236 = .ok (.iload 11, 2) := by decide +kernel
theorem dL_replaces_238 : decode cL_replaces 238 = .ok (.iconst 1, 1) := by decide +kernel
theorem dL_replaces_239 : decode cL_replaces 239 = .ok (.isub, 1) := by decide +kernel
theorem dL_replaces_240 : decode cL_replaces 240 = .ok (.iload 8, 2) := by decide +kernel
theorem dL_replaces_242 : decode cL_replaces 242 = .ok (.if_icmp .lt 7, 3) := by decide +kernel
theorem dL_replaces_245 : decode cL_replaces 245 = .ok (.iconst 1, 1) := by decide +kernel
theorem dL_replaces_246 : decode cL_replaces 246 = .ok (.goto 19, 3) := by decide +kernel
theorem dL_replaces_249 : decode cL_replaces 249 = .ok (.iconst 0, 1) := by decide +kernel
theorem dL_replaces_250 : decode cL_replaces 250 = .ok (.goto 15, 3) := by decide +kernel
theorem dL_replaces_253 : decode cL_replaces 253 = .ok (.iload 11, 2) := by decide +kernel
theorem dL_replaces_255 : decode cL_replaces 255 = .ok (.iload 8, 2) := by decide +kernel
theorem dL_replaces_257 : decode cL_replaces 257 = .ok (.if_icmp .lt 7, 3) := by decide +kernel
theorem dL_replaces_260 : decode cL_replaces 260 = .ok (.iconst 1, 1) := by decide +kernel
theorem dL_replaces_261 : decode cL_replaces 261 = .ok (.goto 4, 3) := by decide +kernel
theorem dL_replaces_264 : decode cL_replaces 264 = .ok (.iconst 0, 1) := by decide +kernel
theorem dL_replaces_265 : decode cL_replaces 265 = .ok (.istore 12, 2) := by decide +kernel
theorem dL_replaces_267 : decode cL_replaces 267 = .ok (.aload 5, 2) := by decide +kernel
theorem dL_replaces_269 : decode cL_replaces 269 = .ok (.iload 10, 2) := by decide +kernel
theorem dL_replaces_271 : decode cL_replaces 271 = .ok (.baload, 1) := by decide +kernel
theorem dL_replaces_272 : decode cL_replaces 272 = .ok (.ifCond .eq 25, 3) := by decide +kernel
theorem dL_replaces_275 : decode cL_replaces 275 = .ok (.iload 11, 2) := by decide +kernel
theorem dL_replaces_277 : decode cL_replaces 277 = .ok (.iconst 1, 1) := by decide +kernel
theorem dL_replaces_278 : decode cL_replaces 278 = .ok (.isub, 1) := by decide +kernel
theorem dL_replaces_279 : decode cL_replaces 279 = .ok (.iload 7, 2) := by decide +kernel
theorem dL_replaces_281 : decode cL_replaces 281 = .ok (.if_icmp .lt 8, 3) := by decide +kernel
theorem dL_replaces_284 : decode cL_replaces 284 = .ok (.iload 12, 2) := by decide +kernel
theorem dL_replaces_286 : decode cL_replaces 286 = .ok (.ifCond .eq 7, 3) := by decide +kernel
theorem dL_replaces_289 : decode cL_replaces 289 = .ok (.iconst 1, 1) := by decide +kernel
theorem dL_replaces_290 : decode cL_replaces 290 = .ok (.goto 24, 3) := by decide +kernel
theorem dL_replaces_293 : decode cL_replaces 293 = .ok (.iconst 0, 1) := by decide +kernel
theorem dL_replaces_294 : decode cL_replaces 294 = .ok (.goto 20, 3) := by decide +kernel
theorem dL_replaces_297 : decode cL_replaces 297 = .ok (.iload 11, 2) := by decide +kernel
theorem dL_replaces_299 : decode cL_replaces 299 = .ok (.iload 7, 2) := by decide +kernel
theorem dL_replaces_301 : decode cL_replaces 301 = .ok (.if_icmp .lt 8, 3) := by decide +kernel
theorem dL_replaces_304 : decode cL_replaces 304 = .ok (.iload 12, 2) := by decide +kernel
theorem dL_replaces_306 : decode cL_replaces 306 = .ok (.ifCond .eq 7, 3) := by decide +kernel
theorem dL_replaces_309 : decode cL_replaces 309 = .ok (.iconst 1, 1) := by decide +kernel
theorem dL_replaces_310 : decode cL_replaces 310 = .ok (.goto 4, 3) := by decide +kernel
theorem dL_replaces_313 : decode cL_replaces 313 = .ok (.iconst 0, 1) := by decide +kernel
theorem dL_replaces_314 : decode cL_replaces 314 = .ok (.istore 13, 2) := by decide +kernel
theorem dL_replaces_316 : decode cL_replaces 316 = .ok (.iload 13, 2) := by decide +kernel
theorem dL_replaces_318 : decode cL_replaces 318 = .ok (.ifCond .eq 35, 3) := by decide +kernel
theorem dL_replaces_321 : decode cL_replaces 321 = .ok (.aload_n 3, 1) := by decide +kernel
theorem dL_replaces_322 : decode cL_replaces 322 = .ok (.bipush 10, 2) := by decide +kernel
theorem dL_replaces_324 : decode cL_replaces 324 = .ok (.iload 10, 2) := by decide +kernel
theorem dL_replaces_326 : decode cL_replaces 326 = .ok (.iadd, 1) := by decide +kernel
theorem dL_replaces_327 : decode cL_replaces 327 = .ok (.iaload, 1) := by decide +kernel
theorem dL_replaces_328 : decode cL_replaces 328 = .ok (.iload 11, 2) := by decide +kernel
theorem dL_replaces_330 : decode cL_replaces 330 = .ok (.iload 12, 2) := by decide +kernel
theorem dL_replaces_332 : decode cL_replaces 332 = .ok (.ifCond .eq 14, 3) := by decide +kernel
theorem dL_replaces_335 : decode cL_replaces 335 = .ok (.iload 6, 2) := by decide +kernel
theorem dL_replaces_337 : decode cL_replaces 337 = .ok (.iload 8, 2) := by decide +kernel
theorem dL_replaces_339 : decode cL_replaces 339 = .ok (.iload 7, 2) := by decide +kernel
theorem dL_replaces_341 : decode cL_replaces 341 = .ok (.isub, 1) := by decide +kernel
theorem dL_replaces_342 : decode cL_replaces 342 = .ok (.isub, 1) := by decide +kernel
theorem dL_replaces_343 : decode cL_replaces 343 = .ok (.goto 4, 3) := by decide +kernel
theorem dL_replaces_346 : decode cL_replaces 346 = .ok (.iconst 0, 1) := by decide +kernel
theorem dL_replaces_347 : decode cL_replaces 347 = .ok (.iadd, 1) := by decide +kernel
theorem dL_replaces_348 : decode cL_replaces 348 = .ok (.if_icmp .eq 5, 3) := by decide +kernel
theorem dL_replaces_351 : decode cL_replaces 351 = .ok (.iconst 0, 1) := by decide +kernel
theorem dL_replaces_352 : decode cL_replaces 352 = .ok (.ireturn, 1) := by decide +kernel
theorem dL_replaces_353 : decode cL_replaces 353 = .ok (.iconst 0, 1) := by decide +kernel
theorem dL_replaces_354 : decode cL_replaces 354 = .ok (.istore 14, 2) := by decide +kernel
theorem dL_replaces_356 : decode cL_replaces 356 = .ok (.iload 14, 2) := by decide +kernel
theorem dL_replaces_358 : decode cL_replaces 358 = .ok (.bipush 16, 2) := by decide +kernel
theorem dL_replaces_360 : decode cL_replaces 360 = .ok (.if_icmp .ge 50, 3) := by decide +kernel
theorem dL_replaces_363 : decode cL_replaces 363 = .ok (.aload_n 2, 1) := by decide +kernel
theorem dL_replaces_364 : decode cL_replaces 364 = .ok (.bipush 10, 2) := by decide +kernel
theorem dL_replaces_366 : decode cL_replaces 366 = .ok (.iload 14, 2) := by decide +kernel
theorem dL_replaces_368 : decode cL_replaces 368 = .ok (.iadd, 1) := by decide +kernel
theorem dL_replaces_369 : decode cL_replaces 369 = .ok (.iaload, 1) := by decide +kernel
theorem dL_replaces_370 : decode cL_replaces 370 = .ok (.ifCond .lt 34, 3) := by decide +kernel
theorem dL_replaces_373 : decode cL_replaces 373 = .ok (.aload_n 2, 1) := by decide +kernel
theorem dL_replaces_374 : decode cL_replaces 374 = .ok (.bipush 10, 2) := by decide +kernel
theorem dL_replaces_376 : decode cL_replaces 376 = .ok (.iload 14, 2) := by decide +kernel
theorem dL_replaces_378 : decode cL_replaces 378 = .ok (.iadd, 1) := by decide +kernel
theorem dL_replaces_379 : decode cL_replaces 379 = .ok (.iaload, 1) := by decide +kernel
theorem dL_replaces_380 : decode cL_replaces 380 = .ok (.iload 11, 2) := by decide +kernel
theorem dL_replaces_382 : decode cL_replaces 382 = .ok (.if_icmp .ge 22, 3) := by decide +kernel
theorem dL_replaces_385 : decode cL_replaces 385 = .ok (.aload_n 3, 1) := by decide +kernel
theorem dL_replaces_386 : decode cL_replaces 386 = .ok (.bipush 10, 2) := by decide +kernel
theorem dL_replaces_388 : decode cL_replaces 388 = .ok (.iload 14, 2) := by decide +kernel
theorem dL_replaces_390 : decode cL_replaces 390 = .ok (.iadd, 1) := by decide +kernel
theorem dL_replaces_391 : decode cL_replaces 391 = .ok (.iaload, 1) := by decide +kernel
theorem dL_replaces_392 : decode cL_replaces 392 = .ok (.aload_n 3, 1) := by decide +kernel
theorem dL_replaces_393 : decode cL_replaces 393 = .ok (.bipush 10, 2) := by decide +kernel
theorem dL_replaces_395 : decode cL_replaces 395 = .ok (.iload 10, 2) := by decide +kernel
theorem dL_replaces_397 : decode cL_replaces 397 = .ok (.iadd, 1) := by decide +kernel
theorem dL_replaces_398 : decode cL_replaces 398 = .ok (.iaload, 1) := by decide +kernel
theorem dL_replaces_399 : decode cL_replaces 399 = .ok (.if_icmp .le 5, 3) := by decide +kernel
theorem dL_replaces_402 : decode cL_replaces 402 = .ok (.iconst 0, 1) := by decide +kernel
theorem dL_replaces_403 : decode cL_replaces 403 = .ok (.ireturn, 1) := by decide +kernel
theorem dL_replaces_404 : decode cL_replaces 404 = .ok (.iinc 14 1, 3) := by decide +kernel
theorem dL_replaces_407 : decode cL_replaces 407 = .ok (.goto (-51), 3) := by decide +kernel
theorem dL_replaces_410 : decode cL_replaces 410 = .ok (.iinc 10 1, 3) := by decide +kernel
theorem dL_replaces_413 : decode cL_replaces 413 = .ok (.goto (-218), 3) := by decide +kernel
theorem dL_replaces_416 : decode cL_replaces 416 = .ok (.iconst 1, 1) := by decide +kernel
theorem dL_replaces_417 : decode cL_replaces 417 = .ok (.ireturn, 1) := by decide +kernel
theorem dL_isWord_0 : decode cL_isWord 0 = .ok (.iload_n 0, 1) := by decide +kernel
theorem dL_isWord_1 : decode cL_isWord 1 = .ok (.bipush 97, 2) := by decide +kernel
theorem dL_isWord_3 : decode cL_isWord 3 = .ok (.if_icmp .lt 9, 3) := by decide +kernel
theorem dL_isWord_6 : decode cL_isWord 6 = .ok (.iload_n 0, 1) := by decide +kernel
theorem dL_isWord_7 : decode cL_isWord 7 = .ok (.bipush 122, 2) := by decide +kernel
theorem dL_isWord_9 : decode cL_isWord 9 = .ok (.if_icmp .le 33, 3) := by decide +kernel
theorem dL_isWord_12 : decode cL_isWord 12 = .ok (.iload_n 0, 1) := by decide +kernel
theorem dL_isWord_13 : decode cL_isWord 13 = .ok (.bipush 65, 2) := by decide +kernel
theorem dL_isWord_15 : decode cL_isWord 15 = .ok (.if_icmp .lt 9, 3) := by decide +kernel
theorem dL_isWord_18 : decode cL_isWord 18 = .ok (.iload_n 0, 1) := by decide +kernel
theorem dL_isWord_19 : decode cL_isWord 19 = .ok (.bipush 90, 2) := by decide +kernel
theorem dL_isWord_21 : decode cL_isWord 21 = .ok (.if_icmp .le 21, 3) := by decide +kernel
theorem dL_isWord_24 : decode cL_isWord 24 = .ok (.iload_n 0, 1) := by decide +kernel
theorem dL_isWord_25 : decode cL_isWord 25 = .ok (.bipush 48, 2) := by decide +kernel
theorem dL_isWord_27 : decode cL_isWord 27 = .ok (.if_icmp .lt 9, 3) := by decide +kernel
theorem dL_isWord_30 : decode cL_isWord 30 = .ok (.iload_n 0, 1) := by decide +kernel
theorem dL_isWord_31 : decode cL_isWord 31 = .ok (.bipush 57, 2) := by decide +kernel
theorem dL_isWord_33 : decode cL_isWord 33 = .ok (.if_icmp .le 9, 3) := by decide +kernel
theorem dL_isWord_36 : decode cL_isWord 36 = .ok (.iload_n 0, 1) := by decide +kernel
theorem dL_isWord_37 : decode cL_isWord 37 = .ok (.bipush 95, 2) := by decide +kernel
theorem dL_isWord_39 : decode cL_isWord 39 = .ok (.if_icmp .ne 7, 3) := by decide +kernel
theorem dL_isWord_42 : decode cL_isWord 42 = .ok (.iconst 1, 1) := by decide +kernel
theorem dL_isWord_43 : decode cL_isWord 43 = .ok (.goto 4, 3) := by decide +kernel
theorem dL_isWord_46 : decode cL_isWord 46 = .ok (.iconst 0, 1) := by decide +kernel
theorem dL_isWord_47 : decode cL_isWord 47 = .ok (.ireturn, 1) := by decide +kernel
theorem dL_isFind_0 : decode cL_isFind 0 = .ok (.iload_n 1, 1) := by decide +kernel
theorem dL_isFind_1 : decode cL_isFind 1 = .ok (.iload_n 3, 1) := by decide +kernel
theorem dL_isFind_2 : decode cL_isFind 2 = .ok (.iadd, 1) := by decide +kernel
theorem dL_isFind_3 : decode cL_isFind 3 = .ok (.aload_n 0, 1) := by decide +kernel
theorem dL_isFind_4 : decode cL_isFind 4 = .ok (.iconst 0, 1) := by decide +kernel
theorem dL_isFind_5 : decode cL_isFind 5 = .ok (.iaload, 1) := by decide +kernel
theorem dL_isFind_6 : decode cL_isFind 6 = .ok (.if_icmp .le 5, 3) := by decide +kernel
theorem dL_isFind_9 : decode cL_isFind 9 = .ok (.iconst 0, 1) := by decide +kernel
theorem dL_isFind_10 : decode cL_isFind 10 = .ok (.ireturn, 1) := by decide +kernel
theorem dL_isFind_11 : decode cL_isFind 11 = .ok (.iconst 0, 1) := by decide +kernel
theorem dL_isFind_12 : decode cL_isFind 12 = .ok (.istore 5, 2) := by decide +kernel
theorem dL_isFind_14 : decode cL_isFind 14 = .ok (.iload 5, 2) := by decide +kernel
theorem dL_isFind_16 : decode cL_isFind 16 = .ok (.iload_n 3, 1) := by decide +kernel
theorem dL_isFind_17 : decode cL_isFind 17 = .ok (.if_icmp .ge 28, 3) := by decide +kernel
theorem dL_isFind_20 : decode cL_isFind 20 = .ok (.aload_n 0, 1) := by decide +kernel
theorem dL_isFind_21 : decode cL_isFind 21 = .ok (.sipush 400, 3) := by decide +kernel
theorem dL_isFind_24 : decode cL_isFind 24 = .ok (.iload_n 1, 1) := by decide +kernel
theorem dL_isFind_25 : decode cL_isFind 25 = .ok (.iadd, 1) := by decide +kernel
theorem dL_isFind_26 : decode cL_isFind 26 = .ok (.iload 5, 2) := by decide +kernel
theorem dL_isFind_28 : decode cL_isFind 28 = .ok (.iadd, 1) := by decide +kernel
theorem dL_isFind_29 : decode cL_isFind 29 = .ok (.iaload, 1) := by decide +kernel
theorem dL_isFind_30 : decode cL_isFind 30 = .ok (.aload_n 2, 1) := by decide +kernel
theorem dL_isFind_31 : decode cL_isFind 31 = .ok (.iload 5, 2) := by decide +kernel
theorem dL_isFind_33 : decode cL_isFind 33 = .ok (.iaload, 1) := by decide +kernel
theorem dL_isFind_34 : decode cL_isFind 34 = .ok (.if_icmp .eq 5, 3) := by decide +kernel
theorem dL_isFind_37 : decode cL_isFind 37 = .ok (.iconst 0, 1) := by decide +kernel
theorem dL_isFind_38 : decode cL_isFind 38 = .ok (.ireturn, 1) := by decide +kernel
theorem dL_isFind_39 : decode cL_isFind 39 = .ok (.iinc 5 1, 3) := by decide +kernel
theorem dL_isFind_42 : decode cL_isFind 42 = .ok (.goto (-28), 3) := by decide +kernel
theorem dL_isFind_45 : decode cL_isFind 45 = .ok (.iload 4, 2) := by decide +kernel
theorem dL_isFind_47 : decode cL_isFind 47 = .ok (.ifCond .eq 46, 3) := by decide +kernel
theorem dL_isFind_50 : decode cL_isFind 50 = .ok (.iload_n 1, 1) := by decide +kernel
theorem dL_isFind_51 : decode cL_isFind 51 = .ok (.ifCond .eq 18, 3) := by decide +kernel
theorem dL_isFind_54 : decode cL_isFind 54 = .ok (.aload_n 0, 1) := by decide +kernel
theorem dL_isFind_55 : decode cL_isFind 55 = .ok (.sipush 400, 3) := by decide +kernel
theorem dL_isFind_58 : decode cL_isFind 58 = .ok (.iload_n 1, 1) := by decide +kernel
theorem dL_isFind_59 : decode cL_isFind 59 = .ok (.iadd, 1) := by decide +kernel
theorem dL_isFind_60 : decode cL_isFind 60 = .ok (.iconst 1, 1) := by decide +kernel
theorem dL_isFind_61 : decode cL_isFind 61 = .ok (.isub, 1) := by decide +kernel
theorem dL_isFind_62 : decode cL_isFind 62 = .ok (.iaload, 1) := by decide +kernel
theorem dL_isFind_63 : decode cL_isFind 63 = .ok (.invokestatic 182, 3) := by decide +kernel
theorem dL_isFind_66 : decode cL_isFind 66 = .ok (.ifCond .ne 31, 3) := by decide +kernel
theorem dL_isFind_69 : decode cL_isFind 69 = .ok (.iload_n 1, 1) := by decide +kernel
theorem dL_isFind_70 : decode cL_isFind 70 = .ok (.iload_n 3, 1) := by decide +kernel
theorem dL_isFind_71 : decode cL_isFind 71 = .ok (.iadd, 1) := by decide +kernel
theorem dL_isFind_72 : decode cL_isFind 72 = .ok (.aload_n 0, 1) := by decide +kernel
theorem dL_isFind_73 : decode cL_isFind 73 = .ok (.iconst 0, 1) := by decide +kernel
theorem dL_isFind_74 : decode cL_isFind 74 = .ok (.iaload, 1) := by decide +kernel
theorem dL_isFind_75 : decode cL_isFind 75 = .ok (.if_icmp .eq 18, 3) := by decide +kernel
theorem dL_isFind_78 : decode cL_isFind 78 = .ok (.aload_n 0, 1) := by decide +kernel
theorem dL_isFind_79 : decode cL_isFind 79 = .ok (.sipush 400, 3) := by decide +kernel
theorem dL_isFind_82 : decode cL_isFind 82 = .ok (.iload_n 1, 1) := by decide +kernel
theorem dL_isFind_83 : decode cL_isFind 83 = .ok (.iadd, 1) := by decide +kernel
theorem dL_isFind_84 : decode cL_isFind 84 = .ok (.iload_n 3, 1) := by decide +kernel
theorem dL_isFind_85 : decode cL_isFind 85 = .ok (.iadd, 1) := by decide +kernel
theorem dL_isFind_86 : decode cL_isFind 86 = .ok (.iaload, 1) := by decide +kernel
theorem dL_isFind_87 : decode cL_isFind 87 = .ok (.invokestatic 182, 3) := by decide +kernel
theorem dL_isFind_90 : decode cL_isFind 90 = .ok (.ifCond .ne 7, 3) := by decide +kernel
theorem dL_isFind_93 : decode cL_isFind 93 = .ok (.iconst 1, 1) := by decide +kernel
theorem dL_isFind_94 : decode cL_isFind 94 = .ok (.goto 4, 3) := by decide +kernel
theorem dL_isFind_97 : decode cL_isFind 97 = .ok (.iconst 0, 1) := by decide +kernel
theorem dL_isFind_98 : decode cL_isFind 98 = .ok (.ireturn, 1) := by decide +kernel
theorem dL_replacesAll_0 : decode cL_replacesAll 0 = .ok (.aload_n 0, 1) := by decide +kernel
theorem dL_replacesAll_1 : decode cL_replacesAll 1 = .ok (.aload_n 2, 1) := by decide +kernel
theorem dL_replacesAll_2 : decode cL_replacesAll 2 = .ok (.invokestatic 151, 3) := by decide +kernel
theorem dL_replacesAll_5 : decode cL_replacesAll 5 = .ok (.aload_n 1, 1) := by decide +kernel
theorem dL_replacesAll_6 : decode cL_replacesAll 6 = .ok (.iconst 1, 1) := by decide +kernel
theorem dL_replacesAll_7 : decode cL_replacesAll 7 = .ok (.iconst 3, 1) := by decide +kernel
theorem dL_replacesAll_8 : decode cL_replacesAll 8 = .ok (.invokestatic 137, 3) := by decide +kernel
theorem dL_replacesAll_11 : decode cL_replacesAll 11 = .ok (.istore 7, 2) := by decide +kernel
theorem dL_replacesAll_13 : decode cL_replacesAll 13 = .ok (.iconst 0, 1) := by decide +kernel
theorem dL_replacesAll_14 : decode cL_replacesAll 14 = .ok (.istore 8, 2) := by decide +kernel
theorem dL_replacesAll_16 : decode cL_replacesAll 16 = .ok (.iload 8, 2) := by decide +kernel
theorem dL_replacesAll_18 : decode cL_replacesAll 18 = .ok (.iload 7, 2) := by decide +kernel
theorem dL_replacesAll_20 : decode cL_replacesAll 20 = .ok (.if_icmp .ge 37, 3) := by decide +kernel
theorem dL_replacesAll_23 : decode cL_replacesAll 23 = .ok (.aload 5, 2) := by decide +kernel
theorem dL_replacesAll_25 : decode cL_replacesAll 25 = .ok (.iload 8, 2) := by decide +kernel
theorem dL_replacesAll_27 : decode cL_replacesAll 27 = .ok (.aload_n 1, 1) := by decide +kernel
theorem dL_replacesAll_28 : decode cL_replacesAll 28 = .ok (.invokestatic 8, 3) := by decide +kernel
theorem dL_replacesAll_31 : decode cL_replacesAll 31 = .ok (.iconst 5, 1) := by decide +kernel
theorem dL_replacesAll_32 : decode cL_replacesAll 32 = .ok (.irem, 1) := by decide +kernel
theorem dL_replacesAll_33 : decode cL_replacesAll 33 = .ok (.ifCond .ne 8, 3) := by decide +kernel
theorem dL_replacesAll_36 : decode cL_replacesAll 36 = .ok (.bipush 32, 2) := by decide +kernel
theorem dL_replacesAll_38 : decode cL_replacesAll 38 = .ok (.goto 12, 3) := by decide +kernel
theorem dL_replacesAll_41 : decode cL_replacesAll 41 = .ok (.bipush 97, 2) := by decide +kernel
theorem dL_replacesAll_43 : decode cL_replacesAll 43 = .ok (.aload_n 1, 1) := by decide +kernel
theorem dL_replacesAll_44 : decode cL_replacesAll 44 = .ok (.invokestatic 8, 3) := by decide +kernel
theorem dL_replacesAll_47 : decode cL_replacesAll 47 = .ok (.iconst 2, 1) := by decide +kernel
theorem dL_replacesAll_48 : decode cL_replacesAll 48 = .ok (.irem, 1) := by decide +kernel
theorem dL_replacesAll_49 : decode cL_replacesAll 49 = .ok (.iadd, 1) := by decide +kernel
theorem dL_replacesAll_50 : decode cL_replacesAll 50 = .ok (.iastore, 1) := by decide +kernel
theorem dL_replacesAll_51 : decode cL_replacesAll 51 = .ok (.iinc 8 1, 3) := by decide +kernel
theorem dL_replacesAll_54 : decode cL_replacesAll 54 = .ok (.goto (-38), 3) := by decide +kernel
theorem dL_replacesAll_57 : decode cL_replacesAll 57 = .ok (.aload_n 1, 1) := by decide +kernel
theorem dL_replacesAll_58 : decode cL_replacesAll 58 = .ok (.invokestatic 8, 3) := by decide +kernel
theorem dL_replacesAll_61 : decode cL_replacesAll 61 = .ok (.iconst 4, 1) := by decide +kernel
theorem dL_replacesAll_62 : decode cL_replacesAll 62 = .ok (.irem, 1) := by decide +kernel
theorem dL_replacesAll_63 : decode cL_replacesAll 63 = .ok (.ifCond .ne 7, 3) := by decide +kernel
theorem dL_replacesAll_66 : decode cL_replacesAll 66 = .ok (.iconst 1, 1) := by decide +kernel
theorem dL_replacesAll_67 : decode cL_replacesAll 67 = .ok (.goto 4, 3) := by decide +kernel
theorem dL_replacesAll_70 : decode cL_replacesAll 70 = .ok (.iconst 0, 1) := by decide +kernel
theorem dL_replacesAll_71 : decode cL_replacesAll 71 = .ok (.istore 8, 2) := by decide +kernel
theorem dL_replacesAll_73 : decode cL_replacesAll 73 = .ok (.aload_n 0, 1) := by decide +kernel
theorem dL_replacesAll_74 : decode cL_replacesAll 74 = .ok (.aload 5, 2) := by decide +kernel
theorem dL_replacesAll_76 : decode cL_replacesAll 76 = .ok (.iload 7, 2) := by decide +kernel
theorem dL_replacesAll_78 : decode cL_replacesAll 78 = .ok (.invokestatic 165, 3) := by decide +kernel
theorem dL_replacesAll_81 : decode cL_replacesAll 81 = .ok (.ifCond .ne 5, 3) := by decide +kernel
theorem dL_replacesAll_84 : decode cL_replacesAll 84 = .ok (.iconst 0, 1) := by decide +kernel
theorem dL_replacesAll_85 : decode cL_replacesAll 85 = .ok (.ireturn, 1) := by decide +kernel
theorem dL_replacesAll_86 : decode cL_replacesAll 86 = .ok (.iconst 0, 1) := by decide +kernel
theorem dL_replacesAll_87 : decode cL_replacesAll 87 = .ok (.istore 9, 2) := by decide +kernel
theorem dL_replacesAll_89 : decode cL_replacesAll 89 = .ok (.iconst 0, 1) := by decide +kernel
theorem dL_replacesAll_90 : decode cL_replacesAll 90 = .ok (.istore 10, 2) := by decide +kernel
theorem dL_replacesAll_92 : decode cL_replacesAll 92 = .ok (.iload 10, 2) := by decide +kernel
theorem dL_replacesAll_94 : decode cL_replacesAll 94 = .ok (.aload_n 2, 1) := by decide +kernel
theorem dL_replacesAll_95 : decode cL_replacesAll 95 = .ok (.iconst 0, 1) := by decide +kernel
theorem dL_replacesAll_96 : decode cL_replacesAll 96 = .ok (.iaload, 1) := by decide +kernel
theorem dL_replacesAll_97 : decode cL_replacesAll 97 = .ok (.if_icmp .ge 29, 3) := by decide +kernel
theorem dL_replacesAll_100 : decode cL_replacesAll 100 = .ok (.iload 9, 2) := by decide +kernel
theorem dL_replacesAll_102 : decode cL_replacesAll 102 = .ok (.aload_n 2, 1) := by decide +kernel
theorem dL_replacesAll_103 : decode cL_replacesAll 103 = .ok (.iload 10, 2) := by decide +kernel
theorem dL_replacesAll_105 : decode cL_replacesAll 105 = .ok (.aload 5, 2) := by decide +kernel
theorem dL_replacesAll_107 : decode cL_replacesAll 107 = .ok (.iload 7, 2) := by decide +kernel
theorem dL_replacesAll_109 : decode cL_replacesAll 109 = .ok (.iload 8, 2) := by decide +kernel
theorem dL_replacesAll_111 : decode cL_replacesAll 111 = .ok (.invokestatic 185, 3) := by decide +kernel
theorem dL_replacesAll_114 : decode cL_replacesAll 114 = .ok (.invokestatic 63, 3) := by decide +kernel
theorem dL_replacesAll_117 : decode cL_replacesAll 117 = .ok (.iadd, 1) := by decide +kernel
theorem dL_replacesAll_118 : decode cL_replacesAll 118 = .ok (.istore 9, 2) := by decide +kernel
theorem dL_replacesAll_120 : decode cL_replacesAll 120 = .ok (.iinc 10 1, 3) := by decide +kernel
theorem dL_replacesAll_123 : decode cL_replacesAll 123 = .ok (.goto (-31), 3) := by decide +kernel
theorem dL_replacesAll_126 : decode cL_replacesAll 126 = .ok (.aload_n 0, 1) := by decide +kernel
theorem dL_replacesAll_127 : decode cL_replacesAll 127 = .ok (.bipush 22, 2) := by decide +kernel
theorem dL_replacesAll_129 : decode cL_replacesAll 129 = .ok (.iload 8, 2) := by decide +kernel
theorem dL_replacesAll_131 : decode cL_replacesAll 131 = .ok (.invokestatic 63, 3) := by decide +kernel
theorem dL_replacesAll_134 : decode cL_replacesAll 134 = .ok (.iconst 0, 1) := by decide +kernel
theorem dL_replacesAll_135 : decode cL_replacesAll 135 = .ok (.iconst 0, 1) := by decide +kernel
theorem dL_replacesAll_136 : decode cL_replacesAll 136 = .ok (.invokestatic 174, 3) := by decide +kernel
theorem dL_replacesAll_139 : decode cL_replacesAll 139 = .ok (.iload 9, 2) := by decide +kernel
theorem dL_replacesAll_141 : decode cL_replacesAll 141 = .ok (.if_icmp .eq 5, 3) := by decide +kernel
theorem dL_replacesAll_144 : decode cL_replacesAll 144 = .ok (.iconst 0, 1) := by decide +kernel
theorem dL_replacesAll_145 : decode cL_replacesAll 145 = .ok (.ireturn, 1) := by decide +kernel
theorem dL_replacesAll_146 : decode cL_replacesAll 146 = .ok (.aload_n 1, 1) := by decide +kernel
theorem dL_replacesAll_147 : decode cL_replacesAll 147 = .ok (.invokestatic 8, 3) := by decide +kernel
theorem dL_replacesAll_150 : decode cL_replacesAll 150 = .ok (.aload_n 2, 1) := by decide +kernel
theorem dL_replacesAll_151 : decode cL_replacesAll 151 = .ok (.iconst 0, 1) := by decide +kernel
theorem dL_replacesAll_152 : decode cL_replacesAll 152 = .ok (.iaload, 1) := by decide +kernel
theorem dL_replacesAll_153 : decode cL_replacesAll 153 = .ok (.iconst 1, 1) := by decide +kernel
theorem dL_replacesAll_154 : decode cL_replacesAll 154 = .ok (.iadd, 1) := by decide +kernel
theorem dL_replacesAll_155 : decode cL_replacesAll 155 = .ok (.irem, 1) := by decide +kernel
theorem dL_replacesAll_156 : decode cL_replacesAll 156 = .ok (.istore 10, 2) := by decide +kernel
theorem dL_replacesAll_158 : decode cL_replacesAll 158 = .ok (.iload 10, 2) := by decide +kernel
theorem dL_replacesAll_160 : decode cL_replacesAll 160 = .ok (.istore 11, 2) := by decide +kernel
theorem dL_replacesAll_162 : decode cL_replacesAll 162 = .ok (.iload 11, 2) := by decide +kernel
theorem dL_replacesAll_164 : decode cL_replacesAll 164 = .ok (.aload_n 2, 1) := by decide +kernel
theorem dL_replacesAll_165 : decode cL_replacesAll 165 = .ok (.iconst 0, 1) := by decide +kernel
theorem dL_replacesAll_166 : decode cL_replacesAll 166 = .ok (.iaload, 1) := by decide +kernel
theorem dL_replacesAll_167 : decode cL_replacesAll 167 = .ok (.if_icmp .ge 24, 3) := by decide +kernel
theorem dL_replacesAll_170 : decode cL_replacesAll 170 = .ok (.aload_n 2, 1) := by decide +kernel
theorem dL_replacesAll_171 : decode cL_replacesAll 171 = .ok (.iload 11, 2) := by decide +kernel
theorem dL_replacesAll_173 : decode cL_replacesAll 173 = .ok (.aload 5, 2) := by decide +kernel
theorem dL_replacesAll_175 : decode cL_replacesAll 175 = .ok (.iload 7, 2) := by decide +kernel
theorem dL_replacesAll_177 : decode cL_replacesAll 177 = .ok (.iload 8, 2) := by decide +kernel
theorem dL_replacesAll_179 : decode cL_replacesAll 179 = .ok (.invokestatic 185, 3) := by decide +kernel
theorem dL_replacesAll_182 : decode cL_replacesAll 182 = .ok (.ifCond .ne 9, 3) := by decide +kernel
theorem dL_replacesAll_185 : decode cL_replacesAll 185 = .ok (.iinc 11 1, 3) := by decide +kernel
theorem dL_replacesAll_188 : decode cL_replacesAll 188 = .ok (.goto (-26), 3) := by decide +kernel
theorem dL_replacesAll_191 : decode cL_replacesAll 191 = .ok (.iload 10, 2) := by decide +kernel
theorem dL_replacesAll_193 : decode cL_replacesAll 193 = .ok (.iconst 1, 1) := by decide +kernel
theorem dL_replacesAll_194 : decode cL_replacesAll 194 = .ok (.isub, 1) := by decide +kernel
theorem dL_replacesAll_195 : decode cL_replacesAll 195 = .ok (.istore 12, 2) := by decide +kernel
theorem dL_replacesAll_197 : decode cL_replacesAll 197 = .ok (.iload 12, 2) := by decide +kernel
theorem dL_replacesAll_199 : decode cL_replacesAll 199 = .ok (.ifCond .lt 24, 3) := by decide +kernel
theorem dL_replacesAll_202 : decode cL_replacesAll 202 = .ok (.aload_n 2, 1) := by decide +kernel
theorem dL_replacesAll_203 : decode cL_replacesAll 203 = .ok (.iload 12, 2) := by decide +kernel
theorem dL_replacesAll_205 : decode cL_replacesAll 205 = .ok (.aload 5, 2) := by decide +kernel
theorem dL_replacesAll_207 : decode cL_replacesAll 207 = .ok (.iload 7, 2) := by decide +kernel
theorem dL_replacesAll_209 : decode cL_replacesAll 209 = .ok (.iload 8, 2) := by decide +kernel
theorem dL_replacesAll_211 : decode cL_replacesAll 211 = .ok (.invokestatic 185, 3) := by decide +kernel
theorem dL_replacesAll_214 : decode cL_replacesAll 214 = .ok (.ifCond .ne 9, 3) := by decide +kernel
theorem dL_replacesAll_217 : decode cL_replacesAll 217 = .ok (.iinc 12 (-1), 3) := by decide +kernel
theorem dL_replacesAll_220 : decode cL_replacesAll 220 = .ok (.goto (-23), 3) := by decide +kernel
theorem dL_replacesAll_223 : decode cL_replacesAll 223 = .ok (.aload_n 0, 1) := by decide +kernel
theorem dL_replacesAll_224 : decode cL_replacesAll 224 = .ok (.bipush 23, 2) := by decide +kernel
theorem dL_replacesAll_226 : decode cL_replacesAll 226 = .ok (.iload 10, 2) := by decide +kernel
theorem dL_replacesAll_228 : decode cL_replacesAll 228 = .ok (.iconst 1, 1) := by decide +kernel
theorem dL_replacesAll_229 : decode cL_replacesAll 229 = .ok (.iconst 0, 1) := by decide +kernel
theorem dL_replacesAll_230 : decode cL_replacesAll 230 = .ok (.invokestatic 174, 3) := by decide +kernel
theorem dL_replacesAll_233 : decode cL_replacesAll 233 = .ok (.iload 11, 2) := by decide +kernel
theorem dL_replacesAll_235 : decode cL_replacesAll 235 = .ok (.aload_n 2, 1) := by decide +kernel
theorem dL_replacesAll_236 : decode cL_replacesAll 236 = .ok (.iconst 0, 1) := by decide +kernel
theorem dL_replacesAll_237 : decode cL_replacesAll 237 = .ok (.iaload, 1) := by decide +kernel
theorem dL_replacesAll_238 : decode cL_replacesAll 238 = .ok (.if_icmp .ge 8, 3) := by decide +kernel
theorem dL_replacesAll_241 : decode cL_replacesAll 241 = .ok (.iload 11, 2) := by decide +kernel
theorem dL_replacesAll_243 : decode cL_replacesAll 243 = .ok (.goto 4, 3) := by decide +kernel
theorem dL_replacesAll_246 : decode cL_replacesAll 246 = .ok (.iconst (-1), 1) := by decide +kernel
theorem dL_replacesAll_247 : decode cL_replacesAll 247 = .ok (.if_icmp .ne 18, 3) := by decide +kernel
theorem dL_replacesAll_250 : decode cL_replacesAll 250 = .ok (.aload_n 0, 1) := by decide +kernel
theorem dL_replacesAll_251 : decode cL_replacesAll 251 = .ok (.bipush 23, 2) := by decide +kernel
theorem dL_replacesAll_253 : decode cL_replacesAll 253 = .ok (.iload 10, 2) := by decide +kernel
theorem dL_replacesAll_255 : decode cL_replacesAll 255 = .ok (.iconst 0, 1) := by decide +kernel
theorem dL_replacesAll_256 : decode cL_replacesAll 256 = .ok (.iconst 0, 1) := by decide +kernel
theorem dL_replacesAll_257 : decode cL_replacesAll 257 = .ok (.invokestatic 174, 3) := by decide +kernel
theorem dL_replacesAll_260 : decode cL_replacesAll 260 = .ok (.iload 12, 2) := by decide +kernel
theorem dL_replacesAll_262 : decode cL_replacesAll 262 = .ok (.if_icmp .eq 5, 3) := by decide +kernel
theorem dL_replacesAll_265 : decode cL_replacesAll 265 = .ok (.iconst 0, 1) := by decide +kernel
theorem dL_replacesAll_266 : decode cL_replacesAll 266 = .ok (.ireturn, 1) := by decide +kernel
theorem dL_replacesAll_267 : decode cL_replacesAll 267 = .ok (.aload_n 1, 1) := by decide +kernel
theorem dL_replacesAll_268 : decode cL_replacesAll 268 = .ok (.aload 4, 2) := by decide +kernel
theorem dL_replacesAll_270 : decode cL_replacesAll 270 = .ok (.invokestatic 161, 3) := by decide +kernel
theorem dL_replacesAll_273 : decode cL_replacesAll 273 = .ok (.istore 13, 2) := by decide +kernel
theorem dL_replacesAll_275 : decode cL_replacesAll 275 = .ok (.aload_n 0, 1) := by decide +kernel
theorem dL_replacesAll_276 : decode cL_replacesAll 276 = .ok (.aload 4, 2) := by decide +kernel
theorem dL_replacesAll_278 : decode cL_replacesAll 278 = .ok (.iload 13, 2) := by decide +kernel
theorem dL_replacesAll_280 : decode cL_replacesAll 280 = .ok (.invokestatic 165, 3) := by decide +kernel
theorem dL_replacesAll_283 : decode cL_replacesAll 283 = .ok (.ifCond .ne 5, 3) := by decide +kernel
theorem dL_replacesAll_286 : decode cL_replacesAll 286 = .ok (.iconst 0, 1) := by decide +kernel
theorem dL_replacesAll_287 : decode cL_replacesAll 287 = .ok (.ireturn, 1) := by decide +kernel
theorem dL_replacesAll_288 : decode cL_replacesAll 288 = .ok (.aload_n 0, 1) := by decide +kernel
theorem dL_replacesAll_289 : decode cL_replacesAll 289 = .ok (.iconst 1, 1) := by decide +kernel
theorem dL_replacesAll_290 : decode cL_replacesAll 290 = .ok (.invokevirtual 189, 3) := by decide +kernel
theorem dL_replacesAll_293 : decode cL_replacesAll 293 = .ok (.istore 14, 2) := by decide +kernel
theorem dL_replacesAll_295 : decode cL_replacesAll 295 = .ok (.aload_n 0, 1) := by decide +kernel
theorem dL_replacesAll_296 : decode cL_replacesAll 296 = .ok (.bipush 9, 2) := by decide +kernel
theorem dL_replacesAll_298 : decode cL_replacesAll 298 = .ok (.iconst 0, 1) := by decide +kernel
theorem dL_replacesAll_299 : decode cL_replacesAll 299 = .ok (.iconst 0, 1) := by decide +kernel
theorem dL_replacesAll_300 : decode cL_replacesAll 300 = .ok (.iconst 0, 1) := by decide +kernel
theorem dL_replacesAll_301 : decode cL_replacesAll 301 = .ok (.invokestatic 174, 3) := by decide +kernel
theorem dL_replacesAll_304 : decode cL_replacesAll 304 = .ok (.istore 15, 2) := by decide +kernel
theorem dL_replacesAll_306 : decode cL_replacesAll 306 = .ok (.iload 15, 2) := by decide +kernel
theorem dL_replacesAll_308 : decode cL_replacesAll 308 = .ok (.ldc 123, 2) := by decide +kernel
theorem dL_replacesAll_310 : decode cL_replacesAll 310 = .ok (.if_icmp .ne 10, 3) := by decide +kernel
theorem dL_replacesAll_313 : decode cL_replacesAll 313 = .ok (.aload_n 0, 1) := by decide +kernel
theorem dL_replacesAll_314 : decode cL_replacesAll 314 = .ok (.aload_n 2, 1) := by decide +kernel
theorem dL_replacesAll_315 : decode cL_replacesAll 315 = .ok (.aload_n 3, 1) := by decide +kernel
theorem dL_replacesAll_316 : decode cL_replacesAll 316 = .ok (.invokestatic 178, 3) := by decide +kernel
theorem dL_replacesAll_319 : decode cL_replacesAll 319 = .ok (.ireturn, 1) := by decide +kernel
theorem dL_replacesAll_320 : decode cL_replacesAll 320 = .ok (.iconst 0, 1) := by decide +kernel
theorem dL_replacesAll_321 : decode cL_replacesAll 321 = .ok (.istore 16, 2) := by decide +kernel
theorem dL_replacesAll_323 : decode cL_replacesAll 323 = .ok (.iconst 0, 1) := by decide +kernel
theorem dL_replacesAll_324 : decode cL_replacesAll 324 = .ok (.istore 17, 2) := by decide +kernel
theorem dL_replacesAll_326 : decode cL_replacesAll 326 = .ok (.iconst 0, 1) := by decide +kernel
theorem dL_replacesAll_327 : decode cL_replacesAll 327 = .ok (.istore 18, 2) := by decide +kernel
theorem dL_replacesAll_329 : decode cL_replacesAll 329 = .ok (.iconst 0, 1) := by decide +kernel
theorem dL_replacesAll_330 : decode cL_replacesAll 330 = .ok (.istore 19, 2) := by decide +kernel
theorem dL_replacesAll_332 : decode cL_replacesAll 332 = .ok (.iload 19, 2) := by decide +kernel
theorem dL_replacesAll_334 : decode cL_replacesAll 334 = .ok (.sipush 3500, 3) := by decide +kernel
theorem dL_replacesAll_337 : decode cL_replacesAll 337 = .ok (.if_icmp .ge 15, 3) := by decide +kernel
theorem dL_replacesAll_340 : decode cL_replacesAll 340 = .ok (.aload 6, 2) := by decide +kernel
theorem dL_replacesAll_342 : decode cL_replacesAll 342 = .ok (.iload 19, 2) := by decide +kernel
theorem dL_replacesAll_344 : decode cL_replacesAll 344 = .ok (.iconst 0, 1) := by decide +kernel
theorem dL_replacesAll_345 : decode cL_replacesAll 345 = .ok (.bastore, 1) := by decide +kernel
theorem dL_replacesAll_346 : decode cL_replacesAll 346 = .ok (.iinc 19 1, 3) := by decide +kernel
theorem dL_replacesAll_349 : decode cL_replacesAll 349 = .ok (.goto (-17), 3) := by decide +kernel
theorem dL_replacesAll_352 : decode cL_replacesAll 352 = .ok (.iload 17, 2) := by decide +kernel
theorem dL_replacesAll_354 : decode cL_replacesAll 354 = .ok (.aload_n 2, 1) := by decide +kernel
theorem dL_replacesAll_355 : decode cL_replacesAll 355 = .ok (.iconst 0, 1) := by decide +kernel
theorem dL_replacesAll_356 : decode cL_replacesAll 356 = .ok (.iaload, 1) := by decide +kernel
theorem dL_replacesAll_357 : decode cL_replacesAll 357 = .ok (.if_icmp .gt 154, 3) := by decide +kernel
theorem dL_replacesAll_360 : decode cL_replacesAll 360 = .ok (.iload 17, 2) := by decide +kernel
theorem dL_replacesAll_362 : decode cL_replacesAll 362 = .ok (.aload_n 2, 1) := by decide +kernel
theorem dL_replacesAll_363 : decode cL_replacesAll 363 = .ok (.iconst 0, 1) := by decide +kernel
theorem dL_replacesAll_364 : decode cL_replacesAll 364 = .ok (.iaload, 1) := by decide +kernel
theorem dL_replacesAll_365 : decode cL_replacesAll 365 = .ok (.if_icmp .ge 95, 3) := by decide +kernel
theorem dL_replacesAll_368 : decode cL_replacesAll 368 = .ok (.aload_n 2, 1) := by decide +kernel
theorem dL_replacesAll_369 : decode cL_replacesAll 369 = .ok (.iload 17, 2) := by decide +kernel
theorem dL_replacesAll_371 : decode cL_replacesAll 371 = .ok (.aload 5, 2) := by decide +kernel
theorem dL_replacesAll_373 : decode cL_replacesAll 373 = .ok (.iload 7, 2) := by decide +kernel
theorem dL_replacesAll_375 : decode cL_replacesAll 375 = .ok (.iload 8, 2) := by decide +kernel
theorem dL_replacesAll_377 : decode cL_replacesAll 377 = .ok (.invokestatic 185, 3) := by decide +kernel
theorem dL_replacesAll_380 : decode cL_replacesAll 380 = .ok (.ifCond .eq 80, 3) := by decide +kernel
theorem dL_replacesAll_383 : decode cL_replacesAll 383 = .ok (.iconst 0, 1) := by decide +kernel
theorem dL_replacesAll_384 : decode cL_replacesAll 384 = .ok (.istore 19, 2) := by decide +kernel
theorem dL_replacesAll_386 : decode cL_replacesAll 386 = .ok (.iload 19, 2) := by decide +kernel
theorem dL_replacesAll_388 : decode cL_replacesAll 388 = .ok (.iload 13, 2) := by decide +kernel
theorem dL_replacesAll_390 : decode cL_replacesAll 390 = .ok (.if_icmp .ge 25, 3) := by decide +kernel
theorem dL_replacesAll_393 : decode cL_replacesAll 393 = .ok (.aload_n 3, 1) := by decide +kernel
theorem dL_replacesAll_394 : decode cL_replacesAll 394 = .ok (.sipush 400, 3) := by decide +kernel
theorem dL_replacesAll_397 : decode cL_replacesAll 397 = .ok (.iload 16, 2) := by decide +kernel
theorem dL_replacesAll_399 : decode cL_replacesAll 399 = .ok (.iadd, 1) := by decide +kernel
theorem dL_replacesAll_400 : decode cL_replacesAll 400 = .ok (.iload 19, 2) := by decide +kernel
theorem dL_replacesAll_402 : decode cL_replacesAll 402 = .ok (.iadd, 1) := by decide +kernel
theorem dL_replacesAll_403 : decode cL_replacesAll 403 = .ok (.aload 4, 2) := by decide +kernel
theorem dL_replacesAll_405 : decode cL_replacesAll 405 = .ok (.iload 19, 2) := by decide +kernel
theorem dL_replacesAll_407 : decode cL_replacesAll 407 = .ok (.iaload, 1) := by decide +kernel
theorem dL_replacesAll_408 : decode cL_replacesAll 408 = .ok (.iastore, 1) := by decide +kernel
theorem dL_replacesAll_409 : decode cL_replacesAll 409 = .ok (.iinc 19 1, 3) := by decide +kernel
theorem dL_replacesAll_412 : decode cL_replacesAll 412 = .ok (.goto (-26), 3) := by decide +kernel
theorem dL_replacesAll_415 : decode cL_replacesAll 415 = .ok (.iconst 0, 1) := by decide +kernel
theorem dL_replacesAll_416 : decode cL_replacesAll 416 = .ok (.istore 19, 2) := by decide +kernel
theorem dL_replacesAll_418 : decode cL_replacesAll 418 = .ok (.iload 19, 2) := by decide +kernel
theorem dL_replacesAll_420 : decode cL_replacesAll 420 = .ok (.iload 13, 2) := by decide +kernel
theorem dL_replacesAll_422 : decode cL_replacesAll 422 = .ok (.if_icmp .gt 18, 3) := by decide +kernel
theorem dL_replacesAll_425 : decode cL_replacesAll 425 = .ok (.aload 6, 2) := by decide +kernel
theorem dL_replacesAll_427 : decode cL_replacesAll 427 = .ok (.iload 16, 2) := by decide +kernel
theorem dL_replacesAll_429 : decode cL_replacesAll 429 = .ok (.iload 19, 2) := by decide +kernel
theorem dL_replacesAll_431 : decode cL_replacesAll 431 = .ok (.iadd, 1) := by decide +kernel
theorem dL_replacesAll_432 : decode cL_replacesAll 432 = .ok (.iconst 1, 1) := by decide +kernel
theorem dL_replacesAll_433 : decode cL_replacesAll 433 = .ok (.bastore, 1) := by decide +kernel
theorem dL_replacesAll_434 : decode cL_replacesAll 434 = .ok (.iinc 19 1, 3) := by decide +kernel
theorem dL_replacesAll_437 : decode cL_replacesAll 437 = .ok (.goto (-19), 3) := by decide +kernel
theorem dL_replacesAll_440 : decode cL_replacesAll 440 = .ok (.iload 16, 2) := by decide +kernel
theorem dL_replacesAll_442 : decode cL_replacesAll 442 = .ok (.iload 13, 2) := by decide +kernel
theorem dL_replacesAll_444 : decode cL_replacesAll 444 = .ok (.iadd, 1) := by decide +kernel
theorem dL_replacesAll_445 : decode cL_replacesAll 445 = .ok (.istore 16, 2) := by decide +kernel
theorem dL_replacesAll_447 : decode cL_replacesAll 447 = .ok (.iload 17, 2) := by decide +kernel
theorem dL_replacesAll_449 : decode cL_replacesAll 449 = .ok (.iload 7, 2) := by decide +kernel
theorem dL_replacesAll_451 : decode cL_replacesAll 451 = .ok (.iadd, 1) := by decide +kernel
theorem dL_replacesAll_452 : decode cL_replacesAll 452 = .ok (.istore 17, 2) := by decide +kernel
theorem dL_replacesAll_454 : decode cL_replacesAll 454 = .ok (.iinc 18 1, 3) := by decide +kernel
theorem dL_replacesAll_457 : decode cL_replacesAll 457 = .ok (.goto (-105), 3) := by decide +kernel
theorem dL_replacesAll_460 : decode cL_replacesAll 460 = .ok (.iload 17, 2) := by decide +kernel
theorem dL_replacesAll_462 : decode cL_replacesAll 462 = .ok (.aload_n 2, 1) := by decide +kernel
theorem dL_replacesAll_463 : decode cL_replacesAll 463 = .ok (.iconst 0, 1) := by decide +kernel
theorem dL_replacesAll_464 : decode cL_replacesAll 464 = .ok (.iaload, 1) := by decide +kernel
theorem dL_replacesAll_465 : decode cL_replacesAll 465 = .ok (.if_icmp .ge 19, 3) := by decide +kernel
theorem dL_replacesAll_468 : decode cL_replacesAll 468 = .ok (.aload_n 3, 1) := by decide +kernel
theorem dL_replacesAll_469 : decode cL_replacesAll 469 = .ok (.sipush 400, 3) := by decide +kernel
theorem dL_replacesAll_472 : decode cL_replacesAll 472 = .ok (.iload 16, 2) := by decide +kernel
theorem dL_replacesAll_474 : decode cL_replacesAll 474 = .ok (.iadd, 1) := by decide +kernel
theorem dL_replacesAll_475 : decode cL_replacesAll 475 = .ok (.aload_n 2, 1) := by decide +kernel
theorem dL_replacesAll_476 : decode cL_replacesAll 476 = .ok (.sipush 400, 3) := by decide +kernel
theorem dL_replacesAll_479 : decode cL_replacesAll 479 = .ok (.iload 17, 2) := by decide +kernel
theorem dL_replacesAll_481 : decode cL_replacesAll 481 = .ok (.iadd, 1) := by decide +kernel
theorem dL_replacesAll_482 : decode cL_replacesAll 482 = .ok (.iaload, 1) := by decide +kernel
theorem dL_replacesAll_483 : decode cL_replacesAll 483 = .ok (.iastore, 1) := by decide +kernel
theorem dL_replacesAll_484 : decode cL_replacesAll 484 = .ok (.iload 16, 2) := by decide +kernel
theorem dL_replacesAll_486 : decode cL_replacesAll 486 = .ok (.iload 17, 2) := by decide +kernel
theorem dL_replacesAll_488 : decode cL_replacesAll 488 = .ok (.aload_n 2, 1) := by decide +kernel
theorem dL_replacesAll_489 : decode cL_replacesAll 489 = .ok (.iconst 0, 1) := by decide +kernel
theorem dL_replacesAll_490 : decode cL_replacesAll 490 = .ok (.iaload, 1) := by decide +kernel
theorem dL_replacesAll_491 : decode cL_replacesAll 491 = .ok (.if_icmp .ge 7, 3) := by decide +kernel
theorem dL_replacesAll_494 : decode cL_replacesAll 494 = .ok (.iconst 1, 1) := by decide +kernel
theorem dL_replacesAll_495 : decode cL_replacesAll 495 = .ok (.goto 4, 3) := by decide +kernel
theorem dL_replacesAll_498 : decode cL_replacesAll 498 = .ok (.iconst 0, 1) := by decide +kernel
theorem dL_replacesAll_499 : decode cL_replacesAll 499 = .ok (.invokestatic 63, 3) := by decide +kernel
theorem dL_replacesAll_502 : decode cL_replacesAll 502 = .ok (.iadd, 1) := by decide +kernel
theorem dL_replacesAll_503 : decode cL_replacesAll 503 = .ok (.istore 16, 2) := by decide +kernel
theorem dL_replacesAll_505 : decode cL_replacesAll 505 = .ok (.iinc 17 1, 3) := by decide +kernel
theorem dL_replacesAll_508 : decode cL_replacesAll 508 = .ok (.goto (-156), 3) := by decide +kernel
theorem dL_replacesAll_511 : decode cL_replacesAll 511 = .ok (.iload 15, 2) := by decide +kernel
theorem dL_replacesAll_513 : decode cL_replacesAll 513 = .ok (.iload 18, 2) := by decide +kernel
theorem dL_replacesAll_515 : decode cL_replacesAll 515 = .ok (.if_icmp .ne 37, 3) := by decide +kernel
theorem dL_replacesAll_518 : decode cL_replacesAll 518 = .ok (.aload_n 0, 1) := by decide +kernel
theorem dL_replacesAll_519 : decode cL_replacesAll 519 = .ok (.iconst 0, 1) := by decide +kernel
theorem dL_replacesAll_520 : decode cL_replacesAll 520 = .ok (.invokevirtual 134, 3) := by decide +kernel
theorem dL_replacesAll_523 : decode cL_replacesAll 523 = .ok (.iload 16, 2) := by decide +kernel
theorem dL_replacesAll_525 : decode cL_replacesAll 525 = .ok (.if_icmp .ne 27, 3) := by decide +kernel
theorem dL_replacesAll_528 : decode cL_replacesAll 528 = .ok (.aload_n 0, 1) := by decide +kernel
theorem dL_replacesAll_529 : decode cL_replacesAll 529 = .ok (.iconst 1, 1) := by decide +kernel
theorem dL_replacesAll_530 : decode cL_replacesAll 530 = .ok (.invokevirtual 189, 3) := by decide +kernel
theorem dL_replacesAll_533 : decode cL_replacesAll 533 = .ok (.iload 14, 2) := by decide +kernel
theorem dL_replacesAll_535 : decode cL_replacesAll 535 = .ok (.iload 18, 2) := by decide +kernel
theorem dL_replacesAll_537 : decode cL_replacesAll 537 = .ok (.ifCond .le 7, 3) := by decide +kernel
theorem dL_replacesAll_540 : decode cL_replacesAll 540 = .ok (.iconst 1, 1) := by decide +kernel
theorem dL_replacesAll_541 : decode cL_replacesAll 541 = .ok (.goto 4, 3) := by decide +kernel
theorem dL_replacesAll_544 : decode cL_replacesAll 544 = .ok (.iconst 0, 1) := by decide +kernel
theorem dL_replacesAll_545 : decode cL_replacesAll 545 = .ok (.invokestatic 63, 3) := by decide +kernel
theorem dL_replacesAll_548 : decode cL_replacesAll 548 = .ok (.iadd, 1) := by decide +kernel
theorem dL_replacesAll_549 : decode cL_replacesAll 549 = .ok (.if_icmp .eq 5, 3) := by decide +kernel
theorem dL_replacesAll_552 : decode cL_replacesAll 552 = .ok (.iconst 0, 1) := by decide +kernel
theorem dL_replacesAll_553 : decode cL_replacesAll 553 = .ok (.ireturn, 1) := by decide +kernel
theorem dL_replacesAll_554 : decode cL_replacesAll 554 = .ok (.iconst 0, 1) := by decide +kernel
theorem dL_replacesAll_555 : decode cL_replacesAll 555 = .ok (.istore 19, 2) := by decide +kernel
theorem dL_replacesAll_557 : decode cL_replacesAll 557 = .ok (.iload 19, 2) := by decide +kernel
theorem dL_replacesAll_559 : decode cL_replacesAll 559 = .ok (.iload 16, 2) := by decide +kernel
theorem dL_replacesAll_561 : decode cL_replacesAll 561 = .ok (.if_icmp .ge 28, 3) := by decide +kernel
theorem dL_replacesAll_564 : decode cL_replacesAll 564 = .ok (.aload_n 0, 1) := by decide +kernel
theorem dL_replacesAll_565 : decode cL_replacesAll 565 = .ok (.iload 19, 2) := by decide +kernel
theorem dL_replacesAll_567 : decode cL_replacesAll 567 = .ok (.invokevirtual 106, 3) := by decide +kernel
theorem dL_replacesAll_570 : decode cL_replacesAll 570 = .ok (.aload_n 3, 1) := by decide +kernel
theorem dL_replacesAll_571 : decode cL_replacesAll 571 = .ok (.sipush 400, 3) := by decide +kernel
theorem dL_replacesAll_574 : decode cL_replacesAll 574 = .ok (.iload 19, 2) := by decide +kernel
theorem dL_replacesAll_576 : decode cL_replacesAll 576 = .ok (.iadd, 1) := by decide +kernel
theorem dL_replacesAll_577 : decode cL_replacesAll 577 = .ok (.iaload, 1) := by decide +kernel
theorem dL_replacesAll_578 : decode cL_replacesAll 578 = .ok (.if_icmp .eq 5, 3) := by decide +kernel
theorem dL_replacesAll_581 : decode cL_replacesAll 581 = .ok (.iconst 0, 1) := by decide +kernel
theorem dL_replacesAll_582 : decode cL_replacesAll 582 = .ok (.ireturn, 1) := by decide +kernel
theorem dL_replacesAll_583 : decode cL_replacesAll 583 = .ok (.iinc 19 1, 3) := by decide +kernel
theorem dL_replacesAll_586 : decode cL_replacesAll 586 = .ok (.goto (-29), 3) := by decide +kernel
theorem dL_replacesAll_589 : decode cL_replacesAll 589 = .ok (.aload_n 3, 1) := by decide +kernel
theorem dL_replacesAll_590 : decode cL_replacesAll 590 = .ok (.iconst 0, 1) := by decide +kernel
theorem dL_replacesAll_591 : decode cL_replacesAll 591 = .ok (.iload 16, 2) := by decide +kernel
theorem dL_replacesAll_593 : decode cL_replacesAll 593 = .ok (.iastore, 1) := by decide +kernel
theorem dL_replacesAll_594 : decode cL_replacesAll 594 = .ok (.iconst 0, 1) := by decide +kernel
theorem dL_replacesAll_595 : decode cL_replacesAll 595 = .ok (.istore 19, 2) := by decide +kernel
theorem dL_replacesAll_597 : decode cL_replacesAll 597 = .ok (.iload 19, 2) := by decide +kernel
theorem dL_replacesAll_599 : decode cL_replacesAll 599 = .ok (.iload 16, 2) := by decide +kernel
theorem dL_replacesAll_601 : decode cL_replacesAll 601 = .ok (.if_icmp .ge 67, 3) := by decide +kernel
theorem dL_replacesAll_604 : decode cL_replacesAll 604 = .ok (.aload_n 3, 1) := by decide +kernel
theorem dL_replacesAll_605 : decode cL_replacesAll 605 = .ok (.iload 19, 2) := by decide +kernel
theorem dL_replacesAll_607 : decode cL_replacesAll 607 = .ok (.aload 5, 2) := by decide +kernel
theorem dL_replacesAll_609 : decode cL_replacesAll 609 = .ok (.iload 7, 2) := by decide +kernel
theorem dL_replacesAll_611 : decode cL_replacesAll 611 = .ok (.iload 8, 2) := by decide +kernel
theorem dL_replacesAll_613 : decode cL_replacesAll 613 = .ok (.invokestatic 185, 3) := by decide +kernel
theorem dL_replacesAll_616 : decode cL_replacesAll 616 = .ok (.ifCond .ne 6, 3) := by decide +kernel
theorem dL_replacesAll_619 : decode cL_replacesAll 619 = .ok (.goto 43, 3) := by decide +kernel
theorem dL_replacesAll_622 : decode cL_replacesAll 622 = .ok (.iconst 0, 1) := by decide +kernel
theorem dL_replacesAll_623 : decode cL_replacesAll 623 = .ok (.istore 20, 2) := by decide +kernel
theorem dL_replacesAll_625 : decode cL_replacesAll 625 = .ok (.iload 19, 2) := by decide +kernel
theorem dL_replacesAll_627 : decode cL_replacesAll 627 = .ok (.istore 21, 2) := by decide +kernel
theorem dL_replacesAll_629 : decode cL_replacesAll 629 = .ok (.iload 21, 2) := by decide +kernel
theorem dL_replacesAll_631 : decode cL_replacesAll 631 = .ok (.iload 19, 2) := by decide +kernel
theorem dL_replacesAll_633 : decode cL_replacesAll 633 = .ok (.iload 7, 2) := by decide +kernel
theorem dL_replacesAll_635 : decode cL_replacesAll 635 = .ok (.iadd, 1) := by decide +kernel
theorem dL_replacesAll_636 : decode cL_replacesAll 636 = .ok (.if_icmp .gt 19, 3) := by decide +kernel
theorem dL_replacesAll_639 : decode cL_replacesAll 639 = .ok (.iload 20, 2) := by decide +kernel
theorem dL_replacesAll_641 : decode cL_replacesAll 641 = .ok (.aload 6, 2) := by decide +kernel
theorem dL_replacesAll_643 : decode cL_replacesAll 643 = .ok (.iload 21, 2) := by decide +kernel
theorem dL_replacesAll_645 : decode cL_replacesAll 645 = .ok (.baload, 1) := by decide +kernel
theorem dL_replacesAll_646 : decode cL_replacesAll 646 = .ok (.ior, 1) := by decide +kernel
theorem dL_replacesAll_647 : decode cL_replacesAll 647 = .ok (.istore 20, 2) := by decide +kernel
theorem dL_replacesAll_649 : decode cL_replacesAll 649 = .ok (.iinc 21 1, 3) := by decide +kernel
theorem dL_replacesAll_652 : decode cL_replacesAll 652 = .ok (.goto (-23), 3) := by decide +kernel
theorem dL_replacesAll_655 : decode cL_replacesAll 655 = .ok (.iload 20, 2) := by decide +kernel
theorem dL_replacesAll_657 : decode cL_replacesAll 657 = .ok (.ifCond .ne 5, 3) := by decide +kernel
theorem dL_replacesAll_660 : decode cL_replacesAll 660 = .ok (.iconst 0, 1) := by decide +kernel
theorem dL_replacesAll_661 : decode cL_replacesAll 661 = .ok (.ireturn, 1) := by decide +kernel
theorem dL_replacesAll_662 : decode cL_replacesAll 662 = .ok (.iinc 19 1, 3) := by decide +kernel
theorem dL_replacesAll_665 : decode cL_replacesAll 665 = .ok (.goto (-68), 3) := by decide +kernel
theorem dL_replacesAll_668 : decode cL_replacesAll 668 = .ok (.iconst 1, 1) := by decide +kernel
theorem dL_replacesAll_669 : decode cL_replacesAll 669 = .ok (.ireturn, 1) := by decide +kernel
theorem dL_acts_0 : decode cL_acts 0 = .ok (.aload_n 1, 1) := by decide +kernel
theorem dL_acts_1 : decode cL_acts 1 = .ok (.invokestatic 8, 3) := by decide +kernel
theorem dL_acts_4 : decode cL_acts 4 = .ok (.bipush 9, 2) := by decide +kernel
theorem dL_acts_6 : decode cL_acts 6 = .ok (.irem, 1) := by decide +kernel
theorem dL_acts_7 : decode cL_acts 7 = .ok (.istore_n 3, 1) := by decide +kernel
theorem dL_acts_8 : decode cL_acts 8 = .ok (.aload_n 0, 1) := by decide +kernel
theorem dL_acts_9 : decode cL_acts 9 = .ok (.iconst 0, 1) := by decide +kernel
theorem dL_acts_10 : decode cL_acts 10 = .ok (.invokevirtual 134, 3) := by decide +kernel
theorem dL_acts_13 : decode cL_acts 13 = .ok (.istore 4, 2) := by decide +kernel
theorem dL_acts_15 : decode cL_acts 15 = .ok (.aload_n 0, 1) := by decide +kernel
theorem dL_acts_16 : decode cL_acts 16 = .ok (.iconst 1, 1) := by decide +kernel
theorem dL_acts_17 : decode cL_acts 17 = .ok (.invokevirtual 134, 3) := by decide +kernel
theorem dL_acts_20 : decode cL_acts 20 = .ok (.istore 5, 2) := by decide +kernel
theorem dL_acts_22 : decode cL_acts 22 = .ok (.aload_n 1, 1) := by decide +kernel
theorem dL_acts_23 : decode cL_acts 23 = .ok (.invokestatic 8, 3) := by decide +kernel
theorem dL_acts_26 : decode cL_acts 26 = .ok (.iload 5, 2) := by decide +kernel
theorem dL_acts_28 : decode cL_acts 28 = .ok (.irem, 1) := by decide +kernel
theorem dL_acts_29 : decode cL_acts 29 = .ok (.istore 6, 2) := by decide +kernel
theorem dL_acts_31 : decode cL_acts 31 = .ok (.iload 5, 2) := by decide +kernel
theorem dL_acts_33 : decode cL_acts 33 = .ok (.iconst 1, 1) := by decide +kernel
theorem dL_acts_34 : decode cL_acts 34 = .ok (.isub, 1) := by decide +kernel
theorem dL_acts_35 : decode cL_acts 35 = .ok (.iload 6, 2) := by decide +kernel
theorem dL_acts_37 : decode cL_acts 37 = .ok (.aload_n 1, 1) := by decide +kernel
theorem dL_acts_38 : decode cL_acts 38 = .ok (.invokestatic 8, 3) := by decide +kernel
theorem dL_acts_41 : decode cL_acts 41 = .ok (.iconst 4, 1) := by decide +kernel
theorem dL_acts_42 : decode cL_acts 42 = .ok (.irem, 1) := by decide +kernel
theorem dL_acts_43 : decode cL_acts 43 = .ok (.iadd, 1) := by decide +kernel
theorem dL_acts_44 : decode cL_acts 44 = .ok (.invokestatic 169, 3) := by decide +kernel
theorem dL_acts_47 : decode cL_acts 47 = .ok (.istore 7, 2) := by decide +kernel
theorem dL_acts_49 : decode cL_acts 49 = .ok (.aload_n 1, 1) := by decide +kernel
theorem dL_acts_50 : decode cL_acts 50 = .ok (.invokestatic 8, 3) := by decide +kernel
theorem dL_acts_53 : decode cL_acts 53 = .ok (.iload 4, 2) := by decide +kernel
theorem dL_acts_55 : decode cL_acts 55 = .ok (.iconst 1, 1) := by decide +kernel
theorem dL_acts_56 : decode cL_acts 56 = .ok (.iadd, 1) := by decide +kernel
theorem dL_acts_57 : decode cL_acts 57 = .ok (.irem, 1) := by decide +kernel
theorem dL_acts_58 : decode cL_acts 58 = .ok (.istore 8, 2) := by decide +kernel
theorem dL_acts_60 : decode cL_acts 60 = .ok (.iload_n 3, 1) := by decide +kernel
theorem dL_acts_61 : decode cL_acts 61 = .ok (.ifCond .eq 8, 3) := by decide +kernel
theorem dL_acts_64 : decode cL_acts 64 = .ok (.iload_n 3, 1) := by decide +kernel
theorem dL_acts_65 : decode cL_acts 65 = .ok (.iconst 2, 1) := by decide +kernel
theorem dL_acts_66 : decode cL_acts 66 = .ok (.if_icmp .ne 23, 3) := by decide +kernel
theorem dL_acts_69 : decode cL_acts 69 = .ok (.aload_n 1, 1) := by decide +kernel
theorem dL_acts_70 : decode cL_acts 70 = .ok (.aload_n 2, 1) := by decide +kernel
theorem dL_acts_71 : decode cL_acts 71 = .ok (.invokestatic 161, 3) := by decide +kernel
theorem dL_acts_74 : decode cL_acts 74 = .ok (.istore 9, 2) := by decide +kernel
theorem dL_acts_76 : decode cL_acts 76 = .ok (.aload_n 0, 1) := by decide +kernel
theorem dL_acts_77 : decode cL_acts 77 = .ok (.aload_n 2, 1) := by decide +kernel
theorem dL_acts_78 : decode cL_acts 78 = .ok (.iload 9, 2) := by decide +kernel
theorem dL_acts_80 : decode cL_acts 80 = .ok (.invokestatic 165, 3) := by decide +kernel
theorem dL_acts_83 : decode cL_acts 83 = .ok (.ifCond .ne 6, 3) := by decide +kernel
theorem dL_acts_86 : decode cL_acts 86 = .ok (.ldc 192, 2) := by decide +kernel
theorem dL_acts_88 : decode cL_acts 88 = .ok (.ireturn, 1) := by decide +kernel
theorem dL_acts_89 : decode cL_acts 89 = .ok (.iload_n 3, 1) := by decide +kernel
theorem dL_acts_90 : decode cL_acts 90 = .ok (.iconst 1, 1) := by decide +kernel
theorem dL_acts_91 : decode cL_acts 91 = .ok (.if_icmp .ne 19, 3) := by decide +kernel
theorem dL_acts_94 : decode cL_acts 94 = .ok (.aload_n 0, 1) := by decide +kernel
theorem dL_acts_95 : decode cL_acts 95 = .ok (.iconst 1, 1) := by decide +kernel
theorem dL_acts_96 : decode cL_acts 96 = .ok (.aload_n 1, 1) := by decide +kernel
theorem dL_acts_97 : decode cL_acts 97 = .ok (.bipush (-6), 2) := by decide +kernel
theorem dL_acts_99 : decode cL_acts 99 = .ok (.bipush 6, 2) := by decide +kernel
theorem dL_acts_101 : decode cL_acts 101 = .ok (.invokestatic 137, 3) := by decide +kernel
theorem dL_acts_104 : decode cL_acts 104 = .ok (.iconst 0, 1) := by decide +kernel
theorem dL_acts_105 : decode cL_acts 105 = .ok (.iconst 0, 1) := by decide +kernel
theorem dL_acts_106 : decode cL_acts 106 = .ok (.invokestatic 174, 3) := by decide +kernel
theorem dL_acts_109 : decode cL_acts 109 = .ok (.ireturn, 1) := by decide +kernel
theorem dL_acts_110 : decode cL_acts 110 = .ok (.iload_n 3, 1) := by decide +kernel
theorem dL_acts_111 : decode cL_acts 111 = .ok (.iconst 2, 1) := by decide +kernel
theorem dL_acts_112 : decode cL_acts 112 = .ok (.if_icmp .ne 26, 3) := by decide +kernel
theorem dL_acts_115 : decode cL_acts 115 = .ok (.aload_n 0, 1) := by decide +kernel
theorem dL_acts_116 : decode cL_acts 116 = .ok (.iconst 2, 1) := by decide +kernel
theorem dL_acts_117 : decode cL_acts 117 = .ok (.iload 8, 2) := by decide +kernel
theorem dL_acts_119 : decode cL_acts 119 = .ok (.iload 4, 2) := by decide +kernel
theorem dL_acts_121 : decode cL_acts 121 = .ok (.iload 8, 2) := by decide +kernel
theorem dL_acts_123 : decode cL_acts 123 = .ok (.aload_n 1, 1) := by decide +kernel
theorem dL_acts_124 : decode cL_acts 124 = .ok (.invokestatic 8, 3) := by decide +kernel
theorem dL_acts_127 : decode cL_acts 127 = .ok (.iconst 5, 1) := by decide +kernel
theorem dL_acts_128 : decode cL_acts 128 = .ok (.irem, 1) := by decide +kernel
theorem dL_acts_129 : decode cL_acts 129 = .ok (.iadd, 1) := by decide +kernel
theorem dL_acts_130 : decode cL_acts 130 = .ok (.invokestatic 169, 3) := by decide +kernel
theorem dL_acts_133 : decode cL_acts 133 = .ok (.iconst 0, 1) := by decide +kernel
theorem dL_acts_134 : decode cL_acts 134 = .ok (.invokestatic 174, 3) := by decide +kernel
theorem dL_acts_137 : decode cL_acts 137 = .ok (.ireturn, 1) := by decide +kernel
theorem dL_acts_138 : decode cL_acts 138 = .ok (.iload_n 3, 1) := by decide +kernel
theorem dL_acts_139 : decode cL_acts 139 = .ok (.iconst 3, 1) := by decide +kernel
theorem dL_acts_140 : decode cL_acts 140 = .ok (.if_icmp .ne 27, 3) := by decide +kernel
theorem dL_acts_143 : decode cL_acts 143 = .ok (.aload_n 0, 1) := by decide +kernel
theorem dL_acts_144 : decode cL_acts 144 = .ok (.iconst 3, 1) := by decide +kernel
theorem dL_acts_145 : decode cL_acts 145 = .ok (.iload 8, 2) := by decide +kernel
theorem dL_acts_147 : decode cL_acts 147 = .ok (.iload 4, 2) := by decide +kernel
theorem dL_acts_149 : decode cL_acts 149 = .ok (.iload 8, 2) := by decide +kernel
theorem dL_acts_151 : decode cL_acts 151 = .ok (.aload_n 1, 1) := by decide +kernel
theorem dL_acts_152 : decode cL_acts 152 = .ok (.invokestatic 8, 3) := by decide +kernel
theorem dL_acts_155 : decode cL_acts 155 = .ok (.bipush 9, 2) := by decide +kernel
theorem dL_acts_157 : decode cL_acts 157 = .ok (.irem, 1) := by decide +kernel
theorem dL_acts_158 : decode cL_acts 158 = .ok (.iadd, 1) := by decide +kernel
theorem dL_acts_159 : decode cL_acts 159 = .ok (.invokestatic 169, 3) := by decide +kernel
theorem dL_acts_162 : decode cL_acts 162 = .ok (.iconst 0, 1) := by decide +kernel
theorem dL_acts_163 : decode cL_acts 163 = .ok (.invokestatic 174, 3) := by decide +kernel
theorem dL_acts_166 : decode cL_acts 166 = .ok (.ireturn, 1) := by decide +kernel
theorem dL_acts_167 : decode cL_acts 167 = .ok (.iload_n 3, 1) := by decide +kernel
theorem dL_acts_168 : decode cL_acts 168 = .ok (.iconst 4, 1) := by decide +kernel
theorem dL_acts_169 : decode cL_acts 169 = .ok (.if_icmp .ne 51, 3) := by decide +kernel
theorem dL_acts_172 : decode cL_acts 172 = .ok (.aload_n 1, 1) := by decide +kernel
theorem dL_acts_173 : decode cL_acts 173 = .ok (.invokestatic 8, 3) := by decide +kernel
theorem dL_acts_176 : decode cL_acts 176 = .ok (.iconst 2, 1) := by decide +kernel
theorem dL_acts_177 : decode cL_acts 177 = .ok (.irem, 1) := by decide +kernel
theorem dL_acts_178 : decode cL_acts 178 = .ok (.ifCond .ne 42, 3) := by decide +kernel
theorem dL_acts_181 : decode cL_acts 181 = .ok (.aload_n 0, 1) := by decide +kernel
theorem dL_acts_182 : decode cL_acts 182 = .ok (.bipush 25, 2) := by decide +kernel
theorem dL_acts_184 : decode cL_acts 184 = .ok (.iload 6, 2) := by decide +kernel
theorem dL_acts_186 : decode cL_acts 186 = .ok (.iload 7, 2) := by decide +kernel
theorem dL_acts_188 : decode cL_acts 188 = .ok (.iload 6, 2) := by decide +kernel
theorem dL_acts_190 : decode cL_acts 190 = .ok (.isub, 1) := by decide +kernel
theorem dL_acts_191 : decode cL_acts 191 = .ok (.iconst 1, 1) := by decide +kernel
theorem dL_acts_192 : decode cL_acts 192 = .ok (.iadd, 1) := by decide +kernel
theorem dL_acts_193 : decode cL_acts 193 = .ok (.aload_n 1, 1) := by decide +kernel
theorem dL_acts_194 : decode cL_acts 194 = .ok (.invokestatic 8, 3) := by decide +kernel
theorem dL_acts_197 : decode cL_acts 197 = .ok (.bipush 7, 2) := by decide +kernel
theorem dL_acts_199 : decode cL_acts 199 = .ok (.irem, 1) := by decide +kernel
theorem dL_acts_200 : decode cL_acts 200 = .ok (.invokestatic 174, 3) := by decide +kernel
theorem dL_acts_203 : decode cL_acts 203 = .ok (.ifCond .ge 8, 3) := by decide +kernel
theorem dL_acts_206 : decode cL_acts 206 = .ok (.ldc 192, 2) := by decide +kernel
theorem dL_acts_208 : decode cL_acts 208 = .ok (.goto 11, 3) := by decide +kernel
theorem dL_acts_211 : decode cL_acts 211 = .ok (.aload_n 0, 1) := by decide +kernel
theorem dL_acts_212 : decode cL_acts 212 = .ok (.iconst 4, 1) := by decide +kernel
theorem dL_acts_213 : decode cL_acts 213 = .ok (.iconst 0, 1) := by decide +kernel
theorem dL_acts_214 : decode cL_acts 214 = .ok (.iconst 0, 1) := by decide +kernel
theorem dL_acts_215 : decode cL_acts 215 = .ok (.iconst 0, 1) := by decide +kernel
theorem dL_acts_216 : decode cL_acts 216 = .ok (.invokestatic 174, 3) := by decide +kernel
theorem dL_acts_219 : decode cL_acts 219 = .ok (.ireturn, 1) := by decide +kernel
theorem dL_acts_220 : decode cL_acts 220 = .ok (.iload_n 3, 1) := by decide +kernel
theorem dL_acts_221 : decode cL_acts 221 = .ok (.iconst 5, 1) := by decide +kernel
theorem dL_acts_222 : decode cL_acts 222 = .ok (.if_icmp .ne 40, 3) := by decide +kernel
theorem dL_acts_225 : decode cL_acts 225 = .ok (.aload_n 0, 1) := by decide +kernel
theorem dL_acts_226 : decode cL_acts 226 = .ok (.iconst 5, 1) := by decide +kernel
theorem dL_acts_227 : decode cL_acts 227 = .ok (.iload 6, 2) := by decide +kernel
theorem dL_acts_229 : decode cL_acts 229 = .ok (.iload 7, 2) := by decide +kernel
theorem dL_acts_231 : decode cL_acts 231 = .ok (.aload_n 1, 1) := by decide +kernel
theorem dL_acts_232 : decode cL_acts 232 = .ok (.invokestatic 8, 3) := by decide +kernel
theorem dL_acts_235 : decode cL_acts 235 = .ok (.iconst 2, 1) := by decide +kernel
theorem dL_acts_236 : decode cL_acts 236 = .ok (.irem, 1) := by decide +kernel
theorem dL_acts_237 : decode cL_acts 237 = .ok (.ifCond .ne 13, 3) := by decide +kernel
theorem dL_acts_240 : decode cL_acts 240 = .ok (.aload_n 1, 1) := by decide +kernel
theorem dL_acts_241 : decode cL_acts 241 = .ok (.iconst 1, 1) := by decide +kernel
theorem dL_acts_242 : decode cL_acts 242 = .ok (.bipush 8, 2) := by decide +kernel
theorem dL_acts_244 : decode cL_acts 244 = .ok (.invokestatic 137, 3) := by decide +kernel
theorem dL_acts_247 : decode cL_acts 247 = .ok (.goto 11, 3) := by decide +kernel
theorem dL_acts_250 : decode cL_acts 250 = .ok (.aload_n 1, 1) := by decide +kernel
theorem dL_acts_251 : decode cL_acts 251 = .ok (.iconst 1, 1) := by decide +kernel
theorem dL_acts_252 : decode cL_acts 252 = .ok (.bipush 8, 2) := by decide +kernel
theorem dL_acts_254 : decode cL_acts 254 = .ok (.invokestatic 137, 3) := by decide +kernel
theorem dL_acts_257 : decode cL_acts 257 = .ok (.ineg, 1) := by decide +kernel
theorem dL_acts_258 : decode cL_acts 258 = .ok (.invokestatic 174, 3) := by decide +kernel
theorem dL_acts_261 : decode cL_acts 261 = .ok (.ireturn, 1) := by decide +kernel
theorem dL_acts_262 : decode cL_acts 262 = .ok (.iload_n 3, 1) := by decide +kernel
theorem dL_acts_263 : decode cL_acts 263 = .ok (.bipush 6, 2) := by decide +kernel
theorem dL_acts_265 : decode cL_acts 265 = .ok (.if_icmp .ne 20, 3) := by decide +kernel
theorem dL_acts_268 : decode cL_acts 268 = .ok (.aload_n 0, 1) := by decide +kernel
theorem dL_acts_269 : decode cL_acts 269 = .ok (.bipush 6, 2) := by decide +kernel
theorem dL_acts_271 : decode cL_acts 271 = .ok (.iload 6, 2) := by decide +kernel
theorem dL_acts_273 : decode cL_acts 273 = .ok (.aload_n 1, 1) := by decide +kernel
theorem dL_acts_274 : decode cL_acts 274 = .ok (.iconst 1, 1) := by decide +kernel
theorem dL_acts_275 : decode cL_acts 275 = .ok (.bipush 9, 2) := by decide +kernel
theorem dL_acts_277 : decode cL_acts 277 = .ok (.invokestatic 137, 3) := by decide +kernel
theorem dL_acts_280 : decode cL_acts 280 = .ok (.iconst 0, 1) := by decide +kernel
theorem dL_acts_281 : decode cL_acts 281 = .ok (.invokestatic 174, 3) := by decide +kernel
theorem dL_acts_284 : decode cL_acts 284 = .ok (.ireturn, 1) := by decide +kernel
theorem dL_acts_285 : decode cL_acts 285 = .ok (.iload_n 3, 1) := by decide +kernel
theorem dL_acts_286 : decode cL_acts 286 = .ok (.bipush 7, 2) := by decide +kernel
theorem dL_acts_288 : decode cL_acts 288 = .ok (.if_icmp .ne 15, 3) := by decide +kernel
theorem dL_acts_291 : decode cL_acts 291 = .ok (.aload_n 0, 1) := by decide +kernel
theorem dL_acts_292 : decode cL_acts 292 = .ok (.bipush 7, 2) := by decide +kernel
theorem dL_acts_294 : decode cL_acts 294 = .ok (.iload 6, 2) := by decide +kernel
theorem dL_acts_296 : decode cL_acts 296 = .ok (.iload 7, 2) := by decide +kernel
theorem dL_acts_298 : decode cL_acts 298 = .ok (.iconst 0, 1) := by decide +kernel
theorem dL_acts_299 : decode cL_acts 299 = .ok (.invokestatic 174, 3) := by decide +kernel
theorem dL_acts_302 : decode cL_acts 302 = .ok (.ireturn, 1) := by decide +kernel
theorem dL_acts_303 : decode cL_acts 303 = .ok (.iload_n 3, 1) := by decide +kernel
theorem dL_acts_304 : decode cL_acts 304 = .ok (.bipush 8, 2) := by decide +kernel
theorem dL_acts_306 : decode cL_acts 306 = .ok (.if_icmp .ne 46, 3) := by decide +kernel
theorem dL_acts_309 : decode cL_acts 309 = .ok (.aload_n 0, 1) := by decide +kernel
theorem dL_acts_310 : decode cL_acts 310 = .ok (.iconst 5, 1) := by decide +kernel
theorem dL_acts_311 : decode cL_acts 311 = .ok (.invokevirtual 134, 3) := by decide +kernel
theorem dL_acts_314 : decode cL_acts 314 = .ok (.ifCond .eq 24, 3) := by decide +kernel
theorem dL_acts_317 : decode cL_acts 317 = .ok (.aload_n 0, 1) := by decide +kernel
theorem dL_acts_318 : decode cL_acts 318 = .ok (.iconst 5, 1) := by decide +kernel
theorem dL_acts_319 : decode cL_acts 319 = .ok (.invokevirtual 134, 3) := by decide +kernel
theorem dL_acts_322 : decode cL_acts 322 = .ok (.iconst 3, 1) := by decide +kernel
theorem dL_acts_323 : decode cL_acts 323 = .ok (.if_icmp .gt 15, 3) := by decide +kernel
theorem dL_acts_326 : decode cL_acts 326 = .ok (.aload_n 0, 1) := by decide +kernel
theorem dL_acts_327 : decode cL_acts 327 = .ok (.bipush 22, 2) := by decide +kernel
theorem dL_acts_329 : decode cL_acts 329 = .ok (.iconst 0, 1) := by decide +kernel
theorem dL_acts_330 : decode cL_acts 330 = .ok (.iconst 0, 1) := by decide +kernel
theorem dL_acts_331 : decode cL_acts 331 = .ok (.iconst 0, 1) := by decide +kernel
theorem dL_acts_332 : decode cL_acts 332 = .ok (.invokestatic 174, 3) := by decide +kernel
theorem dL_acts_335 : decode cL_acts 335 = .ok (.ifCond .ge 7, 3) := by decide +kernel
theorem dL_acts_338 : decode cL_acts 338 = .ok (.iconst 0, 1) := by decide +kernel
theorem dL_acts_339 : decode cL_acts 339 = .ok (.goto 12, 3) := by decide +kernel
theorem dL_acts_342 : decode cL_acts 342 = .ok (.aload_n 0, 1) := by decide +kernel
theorem dL_acts_343 : decode cL_acts 343 = .ok (.bipush 8, 2) := by decide +kernel
theorem dL_acts_345 : decode cL_acts 345 = .ok (.iconst 0, 1) := by decide +kernel
theorem dL_acts_346 : decode cL_acts 346 = .ok (.iconst 0, 1) := by decide +kernel
theorem dL_acts_347 : decode cL_acts 347 = .ok (.iconst 0, 1) := by decide +kernel
theorem dL_acts_348 : decode cL_acts 348 = .ok (.invokestatic 174, 3) := by decide +kernel
theorem dL_acts_351 : decode cL_acts 351 = .ok (.ireturn, 1) := by decide +kernel
theorem dL_acts_352 : decode cL_acts 352 = .ok (.aload_n 0, 1) := by decide +kernel
theorem dL_acts_353 : decode cL_acts 353 = .ok (.iload_n 3, 1) := by decide +kernel
theorem dL_acts_354 : decode cL_acts 354 = .ok (.iconst 0, 1) := by decide +kernel
theorem dL_acts_355 : decode cL_acts 355 = .ok (.iconst 0, 1) := by decide +kernel
theorem dL_acts_356 : decode cL_acts 356 = .ok (.iconst 0, 1) := by decide +kernel
theorem dL_acts_357 : decode cL_acts 357 = .ok (.invokestatic 174, 3) := by decide +kernel
theorem dL_acts_360 : decode cL_acts 360 = .ok (.ireturn, 1) := by decide +kernel
theorem dL_moves_0 : decode cL_moves 0 = .ok (.aload_n 0, 1) := by decide +kernel
theorem dL_moves_1 : decode cL_moves 1 = .ok (.iconst 0, 1) := by decide +kernel
theorem dL_moves_2 : decode cL_moves 2 = .ok (.invokevirtual 134, 3) := by decide +kernel
theorem dL_moves_5 : decode cL_moves 5 = .ok (.istore_n 3, 1) := by decide +kernel
theorem dL_moves_6 : decode cL_moves 6 = .ok (.aload_n 0, 1) := by decide +kernel
theorem dL_moves_7 : decode cL_moves 7 = .ok (.iconst 1, 1) := by decide +kernel
theorem dL_moves_8 : decode cL_moves 8 = .ok (.invokevirtual 134, 3) := by decide +kernel
theorem dL_moves_11 : decode cL_moves 11 = .ok (.istore 4, 2) := by decide +kernel
theorem dL_moves_13 : decode cL_moves 13 = .ok (.aload_n 1, 1) := by decide +kernel
theorem dL_moves_14 : decode cL_moves 14 = .ok (.invokestatic 8, 3) := by decide +kernel
theorem dL_moves_17 : decode cL_moves 17 = .ok (.bipush 6, 2) := by decide +kernel
theorem dL_moves_19 : decode cL_moves 19 = .ok (.irem, 1) := by decide +kernel
theorem dL_moves_20 : decode cL_moves 20 = .ok (.istore 5, 2) := by decide +kernel
theorem dL_moves_22 : decode cL_moves 22 = .ok (.aload_n 1, 1) := by decide +kernel
theorem dL_moves_23 : decode cL_moves 23 = .ok (.invokestatic 8, 3) := by decide +kernel
theorem dL_moves_26 : decode cL_moves 26 = .ok (.iload_n 3, 1) := by decide +kernel
theorem dL_moves_27 : decode cL_moves 27 = .ok (.iconst 1, 1) := by decide +kernel
theorem dL_moves_28 : decode cL_moves 28 = .ok (.iadd, 1) := by decide +kernel
theorem dL_moves_29 : decode cL_moves 29 = .ok (.irem, 1) := by decide +kernel
theorem dL_moves_30 : decode cL_moves 30 = .ok (.istore 6, 2) := by decide +kernel
theorem dL_moves_32 : decode cL_moves 32 = .ok (.iload 5, 2) := by decide +kernel
theorem dL_moves_34 : decode cL_moves 34 = .ok (.ifCond .ne 42, 3) := by decide +kernel
theorem dL_moves_37 : decode cL_moves 37 = .ok (.aload_n 0, 1) := by decide +kernel
theorem dL_moves_38 : decode cL_moves 38 = .ok (.bipush 14, 2) := by decide +kernel
theorem dL_moves_40 : decode cL_moves 40 = .ok (.iload 6, 2) := by decide +kernel
theorem dL_moves_42 : decode cL_moves 42 = .ok (.iconst 0, 1) := by decide +kernel
theorem dL_moves_43 : decode cL_moves 43 = .ok (.iconst 0, 1) := by decide +kernel
theorem dL_moves_44 : decode cL_moves 44 = .ok (.invokestatic 174, 3) := by decide +kernel
theorem dL_moves_47 : decode cL_moves 47 = .ok (.iconst 1, 1) := by decide +kernel
theorem dL_moves_48 : decode cL_moves 48 = .ok (.if_icmp .lt 26, 3) := by decide +kernel
theorem dL_moves_51 : decode cL_moves 51 = .ok (.aload_n 0, 1) := by decide +kernel
theorem dL_moves_52 : decode cL_moves 52 = .ok (.iconst 2, 1) := by decide +kernel
theorem dL_moves_53 : decode cL_moves 53 = .ok (.invokevirtual 134, 3) := by decide +kernel
theorem dL_moves_56 : decode cL_moves 56 = .ok (.iconst 1, 1) := by decide +kernel
theorem dL_moves_57 : decode cL_moves 57 = .ok (.if_icmp .ne 17, 3) := by decide +kernel
theorem dL_moves_60 : decode cL_moves 60 = .ok (.aload_n 0, 1) := by decide +kernel
theorem dL_moves_61 : decode cL_moves 61 = .ok (.iconst 0, 1) := by decide +kernel
theorem dL_moves_62 : decode cL_moves 62 = .ok (.invokevirtual 141, 3) := by decide +kernel
theorem dL_moves_65 : decode cL_moves 65 = .ok (.iload 6, 2) := by decide +kernel
theorem dL_moves_67 : decode cL_moves 67 = .ok (.if_icmp .ne 7, 3) := by decide +kernel
theorem dL_moves_70 : decode cL_moves 70 = .ok (.iconst 1, 1) := by decide +kernel
theorem dL_moves_71 : decode cL_moves 71 = .ok (.goto 4, 3) := by decide +kernel
theorem dL_moves_74 : decode cL_moves 74 = .ok (.iconst 0, 1) := by decide +kernel
theorem dL_moves_75 : decode cL_moves 75 = .ok (.ireturn, 1) := by decide +kernel
theorem dL_moves_76 : decode cL_moves 76 = .ok (.iload 5, 2) := by decide +kernel
theorem dL_moves_78 : decode cL_moves 78 = .ok (.iconst 1, 1) := by decide +kernel
theorem dL_moves_79 : decode cL_moves 79 = .ok (.if_icmp .ne 76, 3) := by decide +kernel
theorem dL_moves_82 : decode cL_moves 82 = .ok (.aload_n 0, 1) := by decide +kernel
theorem dL_moves_83 : decode cL_moves 83 = .ok (.iconst 2, 1) := by decide +kernel
theorem dL_moves_84 : decode cL_moves 84 = .ok (.invokevirtual 134, 3) := by decide +kernel
theorem dL_moves_87 : decode cL_moves 87 = .ok (.istore 7, 2) := by decide +kernel
theorem dL_moves_89 : decode cL_moves 89 = .ok (.aload_n 0, 1) := by decide +kernel
theorem dL_moves_90 : decode cL_moves 90 = .ok (.bipush 15, 2) := by decide +kernel
theorem dL_moves_92 : decode cL_moves 92 = .ok (.iload 6, 2) := by decide +kernel
theorem dL_moves_94 : decode cL_moves 94 = .ok (.iconst 0, 1) := by decide +kernel
theorem dL_moves_95 : decode cL_moves 95 = .ok (.iconst 0, 1) := by decide +kernel
theorem dL_moves_96 : decode cL_moves 96 = .ok (.invokestatic 174, 3) := by decide +kernel
theorem dL_moves_99 : decode cL_moves 99 = .ok (.istore 8, 2) := by decide +kernel
theorem dL_moves_101 : decode cL_moves 101 = .ok (.iload 8, 2) := by decide +kernel
theorem dL_moves_103 : decode cL_moves 103 = .ok (.ldc 123, 2) := by decide +kernel
theorem dL_moves_105 : decode cL_moves 105 = .ok (.if_icmp .ne 18, 3) := by decide +kernel
theorem dL_moves_108 : decode cL_moves 108 = .ok (.iload 7, 2) := by decide +kernel
theorem dL_moves_110 : decode cL_moves 110 = .ok (.bipush 8, 2) := by decide +kernel
theorem dL_moves_112 : decode cL_moves 112 = .ok (.if_icmp .ne 7, 3) := by decide +kernel
theorem dL_moves_115 : decode cL_moves 115 = .ok (.iconst 1, 1) := by decide +kernel
theorem dL_moves_116 : decode cL_moves 116 = .ok (.goto 38, 3) := by decide +kernel
theorem dL_moves_119 : decode cL_moves 119 = .ok (.iconst 0, 1) := by decide +kernel
theorem dL_moves_120 : decode cL_moves 120 = .ok (.goto 34, 3) := by decide +kernel
theorem dL_moves_123 : decode cL_moves 123 = .ok (.iload 8, 2) := by decide +kernel
theorem dL_moves_125 : decode cL_moves 125 = .ok (.aload_n 0, 1) := by decide +kernel
theorem dL_moves_126 : decode cL_moves 126 = .ok (.iconst 2, 1) := by decide +kernel
theorem dL_moves_127 : decode cL_moves 127 = .ok (.invokevirtual 134, 3) := by decide +kernel
theorem dL_moves_130 : decode cL_moves 130 = .ok (.if_icmp .ne 23, 3) := by decide +kernel
theorem dL_moves_133 : decode cL_moves 133 = .ok (.iload 8, 2) := by decide +kernel
theorem dL_moves_135 : decode cL_moves 135 = .ok (.iload 7, 2) := by decide +kernel
theorem dL_moves_137 : decode cL_moves 137 = .ok (.if_icmp .lt 16, 3) := by decide +kernel
theorem dL_moves_140 : decode cL_moves 140 = .ok (.iload 8, 2) := by decide +kernel
theorem dL_moves_142 : decode cL_moves 142 = .ok (.iload 7, 2) := by decide +kernel
theorem dL_moves_144 : decode cL_moves 144 = .ok (.iconst 1, 1) := by decide +kernel
theorem dL_moves_145 : decode cL_moves 145 = .ok (.iadd, 1) := by decide +kernel
theorem dL_moves_146 : decode cL_moves 146 = .ok (.if_icmp .gt 7, 3) := by decide +kernel
theorem dL_moves_149 : decode cL_moves 149 = .ok (.iconst 1, 1) := by decide +kernel
theorem dL_moves_150 : decode cL_moves 150 = .ok (.goto 4, 3) := by decide +kernel
theorem dL_moves_153 : decode cL_moves 153 = .ok (.iconst 0, 1) := by decide +kernel
theorem dL_moves_154 : decode cL_moves 154 = .ok (.ireturn, 1) := by decide +kernel
theorem dL_moves_155 : decode cL_moves 155 = .ok (.iload 5, 2) := by decide +kernel
theorem dL_moves_157 : decode cL_moves 157 = .ok (.iconst 2, 1) := by decide +kernel
theorem dL_moves_158 : decode cL_moves 158 = .ok (.if_icmp .ne 37, 3) := by decide +kernel
theorem dL_moves_161 : decode cL_moves 161 = .ok (.aload_n 0, 1) := by decide +kernel
theorem dL_moves_162 : decode cL_moves 162 = .ok (.bipush 16, 2) := by decide +kernel
theorem dL_moves_164 : decode cL_moves 164 = .ok (.aload_n 1, 1) := by decide +kernel
theorem dL_moves_165 : decode cL_moves 165 = .ok (.invokestatic 8, 3) := by decide +kernel
theorem dL_moves_168 : decode cL_moves 168 = .ok (.iconst 5, 1) := by decide +kernel
theorem dL_moves_169 : decode cL_moves 169 = .ok (.irem, 1) := by decide +kernel
theorem dL_moves_170 : decode cL_moves 170 = .ok (.aload_n 1, 1) := by decide +kernel
theorem dL_moves_171 : decode cL_moves 171 = .ok (.bipush (-4), 2) := by decide +kernel
theorem dL_moves_173 : decode cL_moves 173 = .ok (.iconst 4, 1) := by decide +kernel
theorem dL_moves_174 : decode cL_moves 174 = .ok (.invokestatic 137, 3) := by decide +kernel
theorem dL_moves_177 : decode cL_moves 177 = .ok (.iconst 0, 1) := by decide +kernel
theorem dL_moves_178 : decode cL_moves 178 = .ok (.invokestatic 174, 3) := by decide +kernel
theorem dL_moves_181 : decode cL_moves 181 = .ok (.aload_n 0, 1) := by decide +kernel
theorem dL_moves_182 : decode cL_moves 182 = .ok (.iconst 2, 1) := by decide +kernel
theorem dL_moves_183 : decode cL_moves 183 = .ok (.invokevirtual 134, 3) := by decide +kernel
theorem dL_moves_186 : decode cL_moves 186 = .ok (.if_icmp .ne 7, 3) := by decide +kernel
theorem dL_moves_189 : decode cL_moves 189 = .ok (.iconst 1, 1) := by decide +kernel
theorem dL_moves_190 : decode cL_moves 190 = .ok (.goto 4, 3) := by decide +kernel
theorem dL_moves_193 : decode cL_moves 193 = .ok (.iconst 0, 1) := by decide +kernel
theorem dL_moves_194 : decode cL_moves 194 = .ok (.ireturn, 1) := by decide +kernel
theorem dL_moves_195 : decode cL_moves 195 = .ok (.iload 5, 2) := by decide +kernel
theorem dL_moves_197 : decode cL_moves 197 = .ok (.iconst 3, 1) := by decide +kernel
theorem dL_moves_198 : decode cL_moves 198 = .ok (.if_icmp .ne 79, 3) := by decide +kernel
theorem dL_moves_201 : decode cL_moves 201 = .ok (.aload_n 1, 1) := by decide +kernel
theorem dL_moves_202 : decode cL_moves 202 = .ok (.invokestatic 8, 3) := by decide +kernel
theorem dL_moves_205 : decode cL_moves 205 = .ok (.bipush 16, 2) := by decide +kernel
theorem dL_moves_207 : decode cL_moves 207 = .ok (.irem, 1) := by decide +kernel
theorem dL_moves_208 : decode cL_moves 208 = .ok (.istore 7, 2) := by decide +kernel
theorem dL_moves_210 : decode cL_moves 210 = .ok (.aload_n 1, 1) := by decide +kernel
theorem dL_moves_211 : decode cL_moves 211 = .ok (.invokestatic 8, 3) := by decide +kernel
theorem dL_moves_214 : decode cL_moves 214 = .ok (.iconst 2, 1) := by decide +kernel
theorem dL_moves_215 : decode cL_moves 215 = .ok (.irem, 1) := by decide +kernel
theorem dL_moves_216 : decode cL_moves 216 = .ok (.ifCond .ne 7, 3) := by decide +kernel
theorem dL_moves_219 : decode cL_moves 219 = .ok (.iconst 1, 1) := by decide +kernel
theorem dL_moves_220 : decode cL_moves 220 = .ok (.goto 4, 3) := by decide +kernel
theorem dL_moves_223 : decode cL_moves 223 = .ok (.iconst 0, 1) := by decide +kernel
theorem dL_moves_224 : decode cL_moves 224 = .ok (.istore 8, 2) := by decide +kernel
theorem dL_moves_226 : decode cL_moves 226 = .ok (.aload_n 0, 1) := by decide +kernel
theorem dL_moves_227 : decode cL_moves 227 = .ok (.iload 7, 2) := by decide +kernel
theorem dL_moves_229 : decode cL_moves 229 = .ok (.invokevirtual 144, 3) := by decide +kernel
theorem dL_moves_232 : decode cL_moves 232 = .ok (.istore 9, 2) := by decide +kernel
theorem dL_moves_234 : decode cL_moves 234 = .ok (.aload_n 2, 1) := by decide +kernel
theorem dL_moves_235 : decode cL_moves 235 = .ok (.iload 7, 2) := by decide +kernel
theorem dL_moves_237 : decode cL_moves 237 = .ok (.iload 8, 2) := by decide +kernel
theorem dL_moves_239 : decode cL_moves 239 = .ok (.bastore, 1) := by decide +kernel
theorem dL_moves_240 : decode cL_moves 240 = .ok (.aload_n 0, 1) := by decide +kernel
theorem dL_moves_241 : decode cL_moves 241 = .ok (.bipush 17, 2) := by decide +kernel
theorem dL_moves_243 : decode cL_moves 243 = .ok (.iload 7, 2) := by decide +kernel
theorem dL_moves_245 : decode cL_moves 245 = .ok (.iload 6, 2) := by decide +kernel
theorem dL_moves_247 : decode cL_moves 247 = .ok (.iload 8, 2) := by decide +kernel
theorem dL_moves_249 : decode cL_moves 249 = .ok (.invokestatic 63, 3) := by decide +kernel
theorem dL_moves_252 : decode cL_moves 252 = .ok (.invokestatic 174, 3) := by decide +kernel
theorem dL_moves_255 : decode cL_moves 255 = .ok (.iload 9, 2) := by decide +kernel
theorem dL_moves_257 : decode cL_moves 257 = .ok (.if_icmp .ne 18, 3) := by decide +kernel
theorem dL_moves_260 : decode cL_moves 260 = .ok (.aload_n 0, 1) := by decide +kernel
theorem dL_moves_261 : decode cL_moves 261 = .ok (.iload 7, 2) := by decide +kernel
theorem dL_moves_263 : decode cL_moves 263 = .ok (.invokevirtual 144, 3) := by decide +kernel
theorem dL_moves_266 : decode cL_moves 266 = .ok (.iload 6, 2) := by decide +kernel
theorem dL_moves_268 : decode cL_moves 268 = .ok (.if_icmp .ne 7, 3) := by decide +kernel
theorem dL_moves_271 : decode cL_moves 271 = .ok (.iconst 1, 1) := by decide +kernel
theorem dL_moves_272 : decode cL_moves 272 = .ok (.goto 4, 3) := by decide +kernel
theorem dL_moves_275 : decode cL_moves 275 = .ok (.iconst 0, 1) := by decide +kernel
theorem dL_moves_276 : decode cL_moves 276 = .ok (.ireturn, 1) := by decide +kernel
theorem dL_moves_277 : decode cL_moves 277 = .ok (.aload_n 1, 1) := by decide +kernel
theorem dL_moves_278 : decode cL_moves 278 = .ok (.invokestatic 8, 3) := by decide +kernel
theorem dL_moves_281 : decode cL_moves 281 = .ok (.iload 4, 2) := by decide +kernel
theorem dL_moves_283 : decode cL_moves 283 = .ok (.irem, 1) := by decide +kernel
theorem dL_moves_284 : decode cL_moves 284 = .ok (.istore 7, 2) := by decide +kernel
theorem dL_moves_286 : decode cL_moves 286 = .ok (.aload_n 1, 1) := by decide +kernel
theorem dL_moves_287 : decode cL_moves 287 = .ok (.invokestatic 8, 3) := by decide +kernel
theorem dL_moves_290 : decode cL_moves 290 = .ok (.iload 4, 2) := by decide +kernel
theorem dL_moves_292 : decode cL_moves 292 = .ok (.irem, 1) := by decide +kernel
theorem dL_moves_293 : decode cL_moves 293 = .ok (.istore 8, 2) := by decide +kernel
theorem dL_moves_295 : decode cL_moves 295 = .ok (.aload_n 0, 1) := by decide +kernel
theorem dL_moves_296 : decode cL_moves 296 = .ok (.iconst 4, 1) := by decide +kernel
theorem dL_moves_297 : decode cL_moves 297 = .ok (.invokevirtual 134, 3) := by decide +kernel
theorem dL_moves_300 : decode cL_moves 300 = .ok (.istore 9, 2) := by decide +kernel
theorem dL_moves_302 : decode cL_moves 302 = .ok (.iload 5, 2) := by decide +kernel
theorem dL_moves_304 : decode cL_moves 304 = .ok (.iconst 4, 1) := by decide +kernel
theorem dL_moves_305 : decode cL_moves 305 = .ok (.if_icmp .ne 89, 3) := by decide +kernel
theorem dL_moves_308 : decode cL_moves 308 = .ok (.aload_n 0, 1) := by decide +kernel
theorem dL_moves_309 : decode cL_moves 309 = .ok (.bipush 19, 2) := by decide +kernel
theorem dL_moves_311 : decode cL_moves 311 = .ok (.iload 7, 2) := by decide +kernel
theorem dL_moves_313 : decode cL_moves 313 = .ok (.iload 8, 2) := by decide +kernel
theorem dL_moves_315 : decode cL_moves 315 = .ok (.iconst 0, 1) := by decide +kernel
theorem dL_moves_316 : decode cL_moves 316 = .ok (.invokestatic 174, 3) := by decide +kernel
theorem dL_moves_319 : decode cL_moves 319 = .ok (.istore 10, 2) := by decide +kernel
theorem dL_moves_321 : decode cL_moves 321 = .ok (.iload 7, 2) := by decide +kernel
theorem dL_moves_323 : decode cL_moves 323 = .ok (.iload 8, 2) := by decide +kernel
theorem dL_moves_325 : decode cL_moves 325 = .ok (.if_icmp .lt 18, 3) := by decide +kernel
theorem dL_moves_328 : decode cL_moves 328 = .ok (.iload 10, 2) := by decide +kernel
theorem dL_moves_330 : decode cL_moves 330 = .ok (.ldc 120, 2) := by decide +kernel
theorem dL_moves_332 : decode cL_moves 332 = .ok (.if_icmp .ne 7, 3) := by decide +kernel
theorem dL_moves_335 : decode cL_moves 335 = .ok (.iconst 1, 1) := by decide +kernel
theorem dL_moves_336 : decode cL_moves 336 = .ok (.goto 57, 3) := by decide +kernel
theorem dL_moves_339 : decode cL_moves 339 = .ok (.iconst 0, 1) := by decide +kernel
theorem dL_moves_340 : decode cL_moves 340 = .ok (.goto 53, 3) := by decide +kernel
theorem dL_moves_343 : decode cL_moves 343 = .ok (.iload 10, 2) := by decide +kernel
theorem dL_moves_345 : decode cL_moves 345 = .ok (.ldc 123, 2) := by decide +kernel
theorem dL_moves_347 : decode cL_moves 347 = .ok (.if_icmp .ne 21, 3) := by decide +kernel
theorem dL_moves_350 : decode cL_moves 350 = .ok (.aload_n 0, 1) := by decide +kernel
theorem dL_moves_351 : decode cL_moves 351 = .ok (.iconst 4, 1) := by decide +kernel
theorem dL_moves_352 : decode cL_moves 352 = .ok (.invokevirtual 134, 3) := by decide +kernel
theorem dL_moves_355 : decode cL_moves 355 = .ok (.iload 9, 2) := by decide +kernel
theorem dL_moves_357 : decode cL_moves 357 = .ok (.if_icmp .ne 7, 3) := by decide +kernel
theorem dL_moves_360 : decode cL_moves 360 = .ok (.iconst 1, 1) := by decide +kernel
theorem dL_moves_361 : decode cL_moves 361 = .ok (.goto 32, 3) := by decide +kernel
theorem dL_moves_364 : decode cL_moves 364 = .ok (.iconst 0, 1) := by decide +kernel
theorem dL_moves_365 : decode cL_moves 365 = .ok (.goto 28, 3) := by decide +kernel
theorem dL_moves_368 : decode cL_moves 368 = .ok (.iload 10, 2) := by decide +kernel
theorem dL_moves_370 : decode cL_moves 370 = .ok (.aload_n 0, 1) := by decide +kernel
theorem dL_moves_371 : decode cL_moves 371 = .ok (.iconst 4, 1) := by decide +kernel
theorem dL_moves_372 : decode cL_moves 372 = .ok (.invokevirtual 134, 3) := by decide +kernel
theorem dL_moves_375 : decode cL_moves 375 = .ok (.if_icmp .ne 17, 3) := by decide +kernel
theorem dL_moves_378 : decode cL_moves 378 = .ok (.iload 10, 2) := by decide +kernel
theorem dL_moves_380 : decode cL_moves 380 = .ok (.iload 8, 2) := by decide +kernel
theorem dL_moves_382 : decode cL_moves 382 = .ok (.iload 7, 2) := by decide +kernel
theorem dL_moves_384 : decode cL_moves 384 = .ok (.isub, 1) := by decide +kernel
theorem dL_moves_385 : decode cL_moves 385 = .ok (.if_icmp .lt 7, 3) := by decide +kernel
theorem dL_moves_388 : decode cL_moves 388 = .ok (.iconst 1, 1) := by decide +kernel
theorem dL_moves_389 : decode cL_moves 389 = .ok (.goto 4, 3) := by decide +kernel
theorem dL_moves_392 : decode cL_moves 392 = .ok (.iconst 0, 1) := by decide +kernel
theorem dL_moves_393 : decode cL_moves 393 = .ok (.ireturn, 1) := by decide +kernel
theorem dL_moves_394 : decode cL_moves 394 = .ok (.aload_n 0, 1) := by decide +kernel
theorem dL_moves_395 : decode cL_moves 395 = .ok (.iload 7, 2) := by decide +kernel
theorem dL_moves_397 : decode cL_moves 397 = .ok (.invokevirtual 147, 3) := by decide +kernel
theorem dL_moves_400 : decode cL_moves 400 = .ok (.istore 10, 2) := by decide +kernel
theorem dL_moves_402 : decode cL_moves 402 = .ok (.aload_n 0, 1) := by decide +kernel
theorem dL_moves_403 : decode cL_moves 403 = .ok (.bipush 20, 2) := by decide +kernel
theorem dL_moves_405 : decode cL_moves 405 = .ok (.iload 7, 2) := by decide +kernel
theorem dL_moves_407 : decode cL_moves 407 = .ok (.iconst 0, 1) := by decide +kernel
theorem dL_moves_408 : decode cL_moves 408 = .ok (.iconst 0, 1) := by decide +kernel
theorem dL_moves_409 : decode cL_moves 409 = .ok (.invokestatic 174, 3) := by decide +kernel
theorem dL_moves_412 : decode cL_moves 412 = .ok (.istore 11, 2) := by decide +kernel
theorem dL_moves_414 : decode cL_moves 414 = .ok (.iload 11, 2) := by decide +kernel
theorem dL_moves_416 : decode cL_moves 416 = .ok (.ifCond .lt 44, 3) := by decide +kernel
theorem dL_moves_419 : decode cL_moves 419 = .ok (.iload 11, 2) := by decide +kernel
theorem dL_moves_421 : decode cL_moves 421 = .ok (.ifCond .le 7, 3) := by decide +kernel
theorem dL_moves_424 : decode cL_moves 424 = .ok (.iconst 1, 1) := by decide +kernel
theorem dL_moves_425 : decode cL_moves 425 = .ok (.goto 4, 3) := by decide +kernel
theorem dL_moves_428 : decode cL_moves 428 = .ok (.iconst 0, 1) := by decide +kernel
theorem dL_moves_429 : decode cL_moves 429 = .ok (.iload 10, 2) := by decide +kernel
theorem dL_moves_431 : decode cL_moves 431 = .ok (.if_icmp .ne 29, 3) := by decide +kernel
theorem dL_moves_434 : decode cL_moves 434 = .ok (.aload_n 0, 1) := by decide +kernel
theorem dL_moves_435 : decode cL_moves 435 = .ok (.iconst 4, 1) := by decide +kernel
theorem dL_moves_436 : decode cL_moves 436 = .ok (.invokevirtual 134, 3) := by decide +kernel
theorem dL_moves_439 : decode cL_moves 439 = .ok (.iload 9, 2) := by decide +kernel
theorem dL_moves_441 : decode cL_moves 441 = .ok (.iload 11, 2) := by decide +kernel
theorem dL_moves_443 : decode cL_moves 443 = .ok (.isub, 1) := by decide +kernel
theorem dL_moves_444 : decode cL_moves 444 = .ok (.if_icmp .ne 16, 3) := by decide +kernel
theorem dL_moves_447 : decode cL_moves 447 = .ok (.aload_n 0, 1) := by decide +kernel
theorem dL_moves_448 : decode cL_moves 448 = .ok (.iload 7, 2) := by decide +kernel
theorem dL_moves_450 : decode cL_moves 450 = .ok (.invokevirtual 147, 3) := by decide +kernel
theorem dL_moves_453 : decode cL_moves 453 = .ok (.ifCond .ne 7, 3) := by decide +kernel
theorem dL_moves_456 : decode cL_moves 456 = .ok (.iconst 1, 1) := by decide +kernel
theorem dL_moves_457 : decode cL_moves 457 = .ok (.goto 4, 3) := by decide +kernel
theorem dL_moves_460 : decode cL_moves 460 = .ok (.iconst 0, 1) := by decide +kernel
theorem dL_moves_461 : decode cL_moves 461 = .ok (.ireturn, 1) := by decide +kernel
theorem dL_goesBack_0 : decode cL_goesBack 0 = .ok (.aload_n 0, 1) := by decide +kernel
theorem dL_goesBack_1 : decode cL_goesBack 1 = .ok (.iconst 1, 1) := by decide +kernel
theorem dL_goesBack_2 : decode cL_goesBack 2 = .ok (.invokevirtual 189, 3) := by decide +kernel
theorem dL_goesBack_5 : decode cL_goesBack 5 = .ok (.istore 6, 2) := by decide +kernel
theorem dL_goesBack_7 : decode cL_goesBack 7 = .ok (.aload_n 1, 1) := by decide +kernel
theorem dL_goesBack_8 : decode cL_goesBack 8 = .ok (.iconst 1, 1) := by decide +kernel
theorem dL_goesBack_9 : decode cL_goesBack 9 = .ok (.bipush 10, 2) := by decide +kernel
theorem dL_goesBack_11 : decode cL_goesBack 11 = .ok (.invokestatic 137, 3) := by decide +kernel
theorem dL_goesBack_14 : decode cL_goesBack 14 = .ok (.istore 7, 2) := by decide +kernel
theorem dL_goesBack_16 : decode cL_goesBack 16 = .ok (.iconst 0, 1) := by decide +kernel
theorem dL_goesBack_17 : decode cL_goesBack 17 = .ok (.istore 8, 2) := by decide +kernel
theorem dL_goesBack_19 : decode cL_goesBack 19 = .ok (.iconst 0, 1) := by decide +kernel
theorem dL_goesBack_20 : decode cL_goesBack 20 = .ok (.istore 9, 2) := by decide +kernel
theorem dL_goesBack_22 : decode cL_goesBack 22 = .ok (.iload 9, 2) := by decide +kernel
theorem dL_goesBack_24 : decode cL_goesBack 24 = .ok (.iload 7, 2) := by decide +kernel
theorem dL_goesBack_26 : decode cL_goesBack 26 = .ok (.if_icmp .ge 177, 3) := by decide +kernel
theorem dL_goesBack_29 : decode cL_goesBack 29 = .ok (.aload_n 1, 1) := by decide +kernel
theorem dL_goesBack_30 : decode cL_goesBack 30 = .ok (.invokestatic 8, 3) := by decide +kernel
theorem dL_goesBack_33 : decode cL_goesBack 33 = .ok (.iconst 5, 1) := by decide +kernel
theorem dL_goesBack_34 : decode cL_goesBack 34 = .ok (.irem, 1) := by decide +kernel
theorem dL_goesBack_35 : decode cL_goesBack 35 = .ok (.ifCond .ne 7, 3) := by decide +kernel
theorem dL_goesBack_38 : decode cL_goesBack 38 = .ok (.iconst 1, 1) := by decide +kernel
theorem dL_goesBack_39 : decode cL_goesBack 39 = .ok (.goto 4, 3) := by decide +kernel
theorem dL_goesBack_42 : decode cL_goesBack 42 = .ok (.iconst 0, 1) := by decide +kernel
theorem dL_goesBack_43 : decode cL_goesBack 43 = .ok (.istore 10, 2) := by decide +kernel
theorem dL_goesBack_45 : decode cL_goesBack 45 = .ok (.aload_n 0, 1) := by decide +kernel
theorem dL_goesBack_46 : decode cL_goesBack 46 = .ok (.aload_n 2, 1) := by decide +kernel
theorem dL_goesBack_47 : decode cL_goesBack 47 = .ok (.iload 8, 2) := by decide +kernel
theorem dL_goesBack_49 : decode cL_goesBack 49 = .ok (.aaload, 1) := by decide +kernel
theorem dL_goesBack_50 : decode cL_goesBack 50 = .ok (.invokestatic 151, 3) := by decide +kernel
theorem dL_goesBack_53 : decode cL_goesBack 53 = .ok (.iload 10, 2) := by decide +kernel
theorem dL_goesBack_55 : decode cL_goesBack 55 = .ok (.iconst 1, 1) := by decide +kernel
theorem dL_goesBack_56 : decode cL_goesBack 56 = .ok (.if_icmp .ne 17, 3) := by decide +kernel
theorem dL_goesBack_59 : decode cL_goesBack 59 = .ok (.aload_n 0, 1) := by decide +kernel
theorem dL_goesBack_60 : decode cL_goesBack 60 = .ok (.bipush 13, 2) := by decide +kernel
theorem dL_goesBack_62 : decode cL_goesBack 62 = .ok (.iconst 1, 1) := by decide +kernel
theorem dL_goesBack_63 : decode cL_goesBack 63 = .ok (.iconst 0, 1) := by decide +kernel
theorem dL_goesBack_64 : decode cL_goesBack 64 = .ok (.iconst 0, 1) := by decide +kernel
theorem dL_goesBack_65 : decode cL_goesBack 65 = .ok (.invokestatic 174, 3) := by decide +kernel
theorem dL_goesBack_68 : decode cL_goesBack 68 = .ok (.ifCond .eq 5, 3) := by decide +kernel
theorem dL_goesBack_71 : decode cL_goesBack 71 = .ok (.iconst 0, 1) := by decide +kernel
theorem dL_goesBack_72 : decode cL_goesBack 72 = .ok (.ireturn, 1) := by decide +kernel
theorem dL_goesBack_73 : decode cL_goesBack 73 = .ok (.iconst 0, 1) := by decide +kernel
theorem dL_goesBack_74 : decode cL_goesBack 74 = .ok (.istore 11, 2) := by decide +kernel
theorem dL_goesBack_76 : decode cL_goesBack 76 = .ok (.iload 11, 2) := by decide +kernel
theorem dL_goesBack_78 : decode cL_goesBack 78 = .ok (.iconst 2, 1) := by decide +kernel
theorem dL_goesBack_79 : decode cL_goesBack 79 = .ok (.iload 10, 2) := by decide +kernel
theorem dL_goesBack_81 : decode cL_goesBack 81 = .ok (.imul, 1) := by decide +kernel
theorem dL_goesBack_82 : decode cL_goesBack 82 = .ok (.if_icmp .gt 23, 3) := by decide +kernel
theorem dL_goesBack_85 : decode cL_goesBack 85 = .ok (.aload_n 0, 1) := by decide +kernel
theorem dL_goesBack_86 : decode cL_goesBack 86 = .ok (.aload_n 1, 1) := by decide +kernel
theorem dL_goesBack_87 : decode cL_goesBack 87 = .ok (.aload 4, 2) := by decide +kernel
theorem dL_goesBack_89 : decode cL_goesBack 89 = .ok (.invokestatic 193, 3) := by decide +kernel
theorem dL_goesBack_92 : decode cL_goesBack 92 = .ok (.ldc 192, 2) := by decide +kernel
theorem dL_goesBack_94 : decode cL_goesBack 94 = .ok (.if_icmp .ne 5, 3) := by decide +kernel
theorem dL_goesBack_97 : decode cL_goesBack 97 = .ok (.iconst 0, 1) := by decide +kernel
theorem dL_goesBack_98 : decode cL_goesBack 98 = .ok (.ireturn, 1) := by decide +kernel
theorem dL_goesBack_99 : decode cL_goesBack 99 = .ok (.iinc 11 1, 3) := by decide +kernel
theorem dL_goesBack_102 : decode cL_goesBack 102 = .ok (.goto (-26), 3) := by decide +kernel
theorem dL_goesBack_105 : decode cL_goesBack 105 = .ok (.iload 10, 2) := by decide +kernel
theorem dL_goesBack_107 : decode cL_goesBack 107 = .ok (.iconst 1, 1) := by decide +kernel
theorem dL_goesBack_108 : decode cL_goesBack 108 = .ok (.if_icmp .ne 18, 3) := by decide +kernel
theorem dL_goesBack_111 : decode cL_goesBack 111 = .ok (.aload_n 0, 1) := by decide +kernel
theorem dL_goesBack_112 : decode cL_goesBack 112 = .ok (.bipush 13, 2) := by decide +kernel
theorem dL_goesBack_114 : decode cL_goesBack 114 = .ok (.iconst 0, 1) := by decide +kernel
theorem dL_goesBack_115 : decode cL_goesBack 115 = .ok (.iconst 0, 1) := by decide +kernel
theorem dL_goesBack_116 : decode cL_goesBack 116 = .ok (.iconst 0, 1) := by decide +kernel
theorem dL_goesBack_117 : decode cL_goesBack 117 = .ok (.invokestatic 174, 3) := by decide +kernel
theorem dL_goesBack_120 : decode cL_goesBack 120 = .ok (.iconst 1, 1) := by decide +kernel
theorem dL_goesBack_121 : decode cL_goesBack 121 = .ok (.if_icmp .eq 5, 3) := by decide +kernel
theorem dL_goesBack_124 : decode cL_goesBack 124 = .ok (.iconst 0, 1) := by decide +kernel
theorem dL_goesBack_125 : decode cL_goesBack 125 = .ok (.ireturn, 1) := by decide +kernel
theorem dL_goesBack_126 : decode cL_goesBack 126 = .ok (.aload_n 0, 1) := by decide +kernel
theorem dL_goesBack_127 : decode cL_goesBack 127 = .ok (.iconst 1, 1) := by decide +kernel
theorem dL_goesBack_128 : decode cL_goesBack 128 = .ok (.invokevirtual 189, 3) := by decide +kernel
theorem dL_goesBack_131 : decode cL_goesBack 131 = .ok (.iload 6, 2) := by decide +kernel
theorem dL_goesBack_133 : decode cL_goesBack 133 = .ok (.isub, 1) := by decide +kernel
theorem dL_goesBack_134 : decode cL_goesBack 134 = .ok (.iload 8, 2) := by decide +kernel
theorem dL_goesBack_136 : decode cL_goesBack 136 = .ok (.isub, 1) := by decide +kernel
theorem dL_goesBack_137 : decode cL_goesBack 137 = .ok (.istore 11, 2) := by decide +kernel
theorem dL_goesBack_139 : decode cL_goesBack 139 = .ok (.iload 11, 2) := by decide +kernel
theorem dL_goesBack_141 : decode cL_goesBack 141 = .ok (.ifCond .lt 26, 3) := by decide +kernel
theorem dL_goesBack_144 : decode cL_goesBack 144 = .ok (.iload 11, 2) := by decide +kernel
theorem dL_goesBack_146 : decode cL_goesBack 146 = .ok (.iconst 1, 1) := by decide +kernel
theorem dL_goesBack_147 : decode cL_goesBack 147 = .ok (.if_icmp .gt 20, 3) := by decide +kernel
theorem dL_goesBack_150 : decode cL_goesBack 150 = .ok (.iload 11, 2) := by decide +kernel
theorem dL_goesBack_152 : decode cL_goesBack 152 = .ok (.ifCond .ne 17, 3) := by decide +kernel
theorem dL_goesBack_155 : decode cL_goesBack 155 = .ok (.aload_n 0, 1) := by decide +kernel
theorem dL_goesBack_156 : decode cL_goesBack 156 = .ok (.aload_n 2, 1) := by decide +kernel
theorem dL_goesBack_157 : decode cL_goesBack 157 = .ok (.iload 8, 2) := by decide +kernel
theorem dL_goesBack_159 : decode cL_goesBack 159 = .ok (.aaload, 1) := by decide +kernel
theorem dL_goesBack_160 : decode cL_goesBack 160 = .ok (.aload_n 3, 1) := by decide +kernel
theorem dL_goesBack_161 : decode cL_goesBack 161 = .ok (.invokestatic 178, 3) := by decide +kernel
theorem dL_goesBack_164 : decode cL_goesBack 164 = .ok (.ifCond .ne 5, 3) := by decide +kernel
theorem dL_goesBack_167 : decode cL_goesBack 167 = .ok (.iconst 0, 1) := by decide +kernel
theorem dL_goesBack_168 : decode cL_goesBack 168 = .ok (.ireturn, 1) := by decide +kernel
theorem dL_goesBack_169 : decode cL_goesBack 169 = .ok (.iload 8, 2) := by decide +kernel
theorem dL_goesBack_171 : decode cL_goesBack 171 = .ok (.iload 11, 2) := by decide +kernel
theorem dL_goesBack_173 : decode cL_goesBack 173 = .ok (.iadd, 1) := by decide +kernel
theorem dL_goesBack_174 : decode cL_goesBack 174 = .ok (.istore 8, 2) := by decide +kernel
theorem dL_goesBack_176 : decode cL_goesBack 176 = .ok (.aload_n 1, 1) := by decide +kernel
theorem dL_goesBack_177 : decode cL_goesBack 177 = .ok (.invokestatic 8, 3) := by decide +kernel
theorem dL_goesBack_180 : decode cL_goesBack 180 = .ok (.iconst 3, 1) := by decide +kernel
theorem dL_goesBack_181 : decode cL_goesBack 181 = .ok (.irem, 1) := by decide +kernel
theorem dL_goesBack_182 : decode cL_goesBack 182 = .ok (.ifCond .ne 15, 3) := by decide +kernel
theorem dL_goesBack_185 : decode cL_goesBack 185 = .ok (.aload_n 0, 1) := by decide +kernel
theorem dL_goesBack_186 : decode cL_goesBack 186 = .ok (.aload_n 1, 1) := by decide +kernel
theorem dL_goesBack_187 : decode cL_goesBack 187 = .ok (.aload 5, 2) := by decide +kernel
theorem dL_goesBack_189 : decode cL_goesBack 189 = .ok (.invokestatic 196, 3) := by decide +kernel
theorem dL_goesBack_192 : decode cL_goesBack 192 = .ok (.ifCond .ne 5, 3) := by decide +kernel
theorem dL_goesBack_195 : decode cL_goesBack 195 = .ok (.iconst 0, 1) := by decide +kernel
theorem dL_goesBack_196 : decode cL_goesBack 196 = .ok (.ireturn, 1) := by decide +kernel
theorem dL_goesBack_197 : decode cL_goesBack 197 = .ok (.iinc 9 1, 3) := by decide +kernel
theorem dL_goesBack_200 : decode cL_goesBack 200 = .ok (.goto (-178), 3) := by decide +kernel
theorem dL_goesBack_203 : decode cL_goesBack 203 = .ok (.aload_n 0, 1) := by decide +kernel
theorem dL_goesBack_204 : decode cL_goesBack 204 = .ok (.aload_n 2, 1) := by decide +kernel
theorem dL_goesBack_205 : decode cL_goesBack 205 = .ok (.bipush 20, 2) := by decide +kernel
theorem dL_goesBack_207 : decode cL_goesBack 207 = .ok (.iload 8, 2) := by decide +kernel
theorem dL_goesBack_209 : decode cL_goesBack 209 = .ok (.iadd, 1) := by decide +kernel
theorem dL_goesBack_210 : decode cL_goesBack 210 = .ok (.aaload, 1) := by decide +kernel
theorem dL_goesBack_211 : decode cL_goesBack 211 = .ok (.invokestatic 151, 3) := by decide +kernel
theorem dL_goesBack_214 : decode cL_goesBack 214 = .ok (.iload 8, 2) := by decide +kernel
theorem dL_goesBack_216 : decode cL_goesBack 216 = .ok (.istore 9, 2) := by decide +kernel
theorem dL_goesBack_218 : decode cL_goesBack 218 = .ok (.iload 9, 2) := by decide +kernel
theorem dL_goesBack_220 : decode cL_goesBack 220 = .ok (.ifCond .le 83, 3) := by decide +kernel
theorem dL_goesBack_223 : decode cL_goesBack 223 = .ok (.aload_n 0, 1) := by decide +kernel
theorem dL_goesBack_224 : decode cL_goesBack 224 = .ok (.bipush 10, 2) := by decide +kernel
theorem dL_goesBack_226 : decode cL_goesBack 226 = .ok (.iconst 1, 1) := by decide +kernel
theorem dL_goesBack_227 : decode cL_goesBack 227 = .ok (.iconst 0, 1) := by decide +kernel
theorem dL_goesBack_228 : decode cL_goesBack 228 = .ok (.iconst 0, 1) := by decide +kernel
theorem dL_goesBack_229 : decode cL_goesBack 229 = .ok (.invokestatic 174, 3) := by decide +kernel
theorem dL_goesBack_232 : decode cL_goesBack 232 = .ok (.iconst 1, 1) := by decide +kernel
theorem dL_goesBack_233 : decode cL_goesBack 233 = .ok (.if_icmp .ne 17, 3) := by decide +kernel
theorem dL_goesBack_236 : decode cL_goesBack 236 = .ok (.aload_n 0, 1) := by decide +kernel
theorem dL_goesBack_237 : decode cL_goesBack 237 = .ok (.aload_n 2, 1) := by decide +kernel
theorem dL_goesBack_238 : decode cL_goesBack 238 = .ok (.iload 9, 2) := by decide +kernel
theorem dL_goesBack_240 : decode cL_goesBack 240 = .ok (.iconst 1, 1) := by decide +kernel
theorem dL_goesBack_241 : decode cL_goesBack 241 = .ok (.isub, 1) := by decide +kernel
theorem dL_goesBack_242 : decode cL_goesBack 242 = .ok (.aaload, 1) := by decide +kernel
theorem dL_goesBack_243 : decode cL_goesBack 243 = .ok (.aload_n 3, 1) := by decide +kernel
theorem dL_goesBack_244 : decode cL_goesBack 244 = .ok (.invokestatic 178, 3) := by decide +kernel
theorem dL_goesBack_247 : decode cL_goesBack 247 = .ok (.ifCond .ne 5, 3) := by decide +kernel
theorem dL_goesBack_250 : decode cL_goesBack 250 = .ok (.iconst 0, 1) := by decide +kernel
theorem dL_goesBack_251 : decode cL_goesBack 251 = .ok (.ireturn, 1) := by decide +kernel
theorem dL_goesBack_252 : decode cL_goesBack 252 = .ok (.aload_n 0, 1) := by decide +kernel
theorem dL_goesBack_253 : decode cL_goesBack 253 = .ok (.aload_n 2, 1) := by decide +kernel
theorem dL_goesBack_254 : decode cL_goesBack 254 = .ok (.bipush 20, 2) := by decide +kernel
theorem dL_goesBack_256 : decode cL_goesBack 256 = .ok (.iload 9, 2) := by decide +kernel
theorem dL_goesBack_258 : decode cL_goesBack 258 = .ok (.iadd, 1) := by decide +kernel
theorem dL_goesBack_259 : decode cL_goesBack 259 = .ok (.iconst 1, 1) := by decide +kernel
theorem dL_goesBack_260 : decode cL_goesBack 260 = .ok (.isub, 1) := by decide +kernel
theorem dL_goesBack_261 : decode cL_goesBack 261 = .ok (.aaload, 1) := by decide +kernel
theorem dL_goesBack_262 : decode cL_goesBack 262 = .ok (.invokestatic 151, 3) := by decide +kernel
theorem dL_goesBack_265 : decode cL_goesBack 265 = .ok (.aload_n 0, 1) := by decide +kernel
theorem dL_goesBack_266 : decode cL_goesBack 266 = .ok (.iconst 1, 1) := by decide +kernel
theorem dL_goesBack_267 : decode cL_goesBack 267 = .ok (.invokevirtual 189, 3) := by decide +kernel
theorem dL_goesBack_270 : decode cL_goesBack 270 = .ok (.iload 6, 2) := by decide +kernel
theorem dL_goesBack_272 : decode cL_goesBack 272 = .ok (.iload 9, 2) := by decide +kernel
theorem dL_goesBack_274 : decode cL_goesBack 274 = .ok (.iadd, 1) := by decide +kernel
theorem dL_goesBack_275 : decode cL_goesBack 275 = .ok (.iconst 1, 1) := by decide +kernel
theorem dL_goesBack_276 : decode cL_goesBack 276 = .ok (.isub, 1) := by decide +kernel
theorem dL_goesBack_277 : decode cL_goesBack 277 = .ok (.if_icmp .ne 18, 3) := by decide +kernel
theorem dL_goesBack_280 : decode cL_goesBack 280 = .ok (.aload_n 0, 1) := by decide +kernel
theorem dL_goesBack_281 : decode cL_goesBack 281 = .ok (.iconst 2, 1) := by decide +kernel
theorem dL_goesBack_282 : decode cL_goesBack 282 = .ok (.invokevirtual 189, 3) := by decide +kernel
theorem dL_goesBack_285 : decode cL_goesBack 285 = .ok (.iload 8, 2) := by decide +kernel
theorem dL_goesBack_287 : decode cL_goesBack 287 = .ok (.iload 9, 2) := by decide +kernel
theorem dL_goesBack_289 : decode cL_goesBack 289 = .ok (.isub, 1) := by decide +kernel
theorem dL_goesBack_290 : decode cL_goesBack 290 = .ok (.iconst 1, 1) := by decide +kernel
theorem dL_goesBack_291 : decode cL_goesBack 291 = .ok (.iadd, 1) := by decide +kernel
theorem dL_goesBack_292 : decode cL_goesBack 292 = .ok (.if_icmp .ge 5, 3) := by decide +kernel
theorem dL_goesBack_295 : decode cL_goesBack 295 = .ok (.iconst 0, 1) := by decide +kernel
theorem dL_goesBack_296 : decode cL_goesBack 296 = .ok (.ireturn, 1) := by decide +kernel
theorem dL_goesBack_297 : decode cL_goesBack 297 = .ok (.iinc 9 (-1), 3) := by decide +kernel
theorem dL_goesBack_300 : decode cL_goesBack 300 = .ok (.goto (-82), 3) := by decide +kernel
theorem dL_goesBack_303 : decode cL_goesBack 303 = .ok (.iconst 1, 1) := by decide +kernel
theorem dL_goesBack_304 : decode cL_goesBack 304 = .ok (.istore 9, 2) := by decide +kernel
theorem dL_goesBack_306 : decode cL_goesBack 306 = .ok (.iload 9, 2) := by decide +kernel
theorem dL_goesBack_308 : decode cL_goesBack 308 = .ok (.iload 8, 2) := by decide +kernel
theorem dL_goesBack_310 : decode cL_goesBack 310 = .ok (.if_icmp .gt 39, 3) := by decide +kernel
theorem dL_goesBack_313 : decode cL_goesBack 313 = .ok (.aload_n 0, 1) := by decide +kernel
theorem dL_goesBack_314 : decode cL_goesBack 314 = .ok (.bipush 11, 2) := by decide +kernel
theorem dL_goesBack_316 : decode cL_goesBack 316 = .ok (.iconst 1, 1) := by decide +kernel
theorem dL_goesBack_317 : decode cL_goesBack 317 = .ok (.iconst 0, 1) := by decide +kernel
theorem dL_goesBack_318 : decode cL_goesBack 318 = .ok (.iconst 0, 1) := by decide +kernel
theorem dL_goesBack_319 : decode cL_goesBack 319 = .ok (.invokestatic 174, 3) := by decide +kernel
theorem dL_goesBack_322 : decode cL_goesBack 322 = .ok (.iconst 1, 1) := by decide +kernel
theorem dL_goesBack_323 : decode cL_goesBack 323 = .ok (.if_icmp .ne 18, 3) := by decide +kernel
theorem dL_goesBack_326 : decode cL_goesBack 326 = .ok (.aload_n 0, 1) := by decide +kernel
theorem dL_goesBack_327 : decode cL_goesBack 327 = .ok (.aload_n 2, 1) := by decide +kernel
theorem dL_goesBack_328 : decode cL_goesBack 328 = .ok (.bipush 20, 2) := by decide +kernel
theorem dL_goesBack_330 : decode cL_goesBack 330 = .ok (.iload 9, 2) := by decide +kernel
theorem dL_goesBack_332 : decode cL_goesBack 332 = .ok (.iadd, 1) := by decide +kernel
theorem dL_goesBack_333 : decode cL_goesBack 333 = .ok (.aaload, 1) := by decide +kernel
theorem dL_goesBack_334 : decode cL_goesBack 334 = .ok (.aload_n 3, 1) := by decide +kernel
theorem dL_goesBack_335 : decode cL_goesBack 335 = .ok (.invokestatic 178, 3) := by decide +kernel
theorem dL_goesBack_338 : decode cL_goesBack 338 = .ok (.ifCond .ne 5, 3) := by decide +kernel
theorem dL_goesBack_341 : decode cL_goesBack 341 = .ok (.iconst 0, 1) := by decide +kernel
theorem dL_goesBack_342 : decode cL_goesBack 342 = .ok (.ireturn, 1) := by decide +kernel
theorem dL_goesBack_343 : decode cL_goesBack 343 = .ok (.iinc 9 1, 3) := by decide +kernel
theorem dL_goesBack_346 : decode cL_goesBack 346 = .ok (.goto (-40), 3) := by decide +kernel
theorem dL_goesBack_349 : decode cL_goesBack 349 = .ok (.iload 8, 2) := by decide +kernel
theorem dL_goesBack_351 : decode cL_goesBack 351 = .ok (.ifCond .eq 60, 3) := by decide +kernel
theorem dL_goesBack_354 : decode cL_goesBack 354 = .ok (.aload_n 0, 1) := by decide +kernel
theorem dL_goesBack_355 : decode cL_goesBack 355 = .ok (.bipush 10, 2) := by decide +kernel
theorem dL_goesBack_357 : decode cL_goesBack 357 = .ok (.iload 8, 2) := by decide +kernel
theorem dL_goesBack_359 : decode cL_goesBack 359 = .ok (.iconst 0, 1) := by decide +kernel
theorem dL_goesBack_360 : decode cL_goesBack 360 = .ok (.iconst 0, 1) := by decide +kernel
theorem dL_goesBack_361 : decode cL_goesBack 361 = .ok (.invokestatic 174, 3) := by decide +kernel
theorem dL_goesBack_364 : decode cL_goesBack 364 = .ok (.iload 8, 2) := by decide +kernel
theorem dL_goesBack_366 : decode cL_goesBack 366 = .ok (.if_icmp .ne 49, 3) := by decide +kernel
theorem dL_goesBack_369 : decode cL_goesBack 369 = .ok (.aload_n 0, 1) := by decide +kernel
theorem dL_goesBack_370 : decode cL_goesBack 370 = .ok (.aload_n 2, 1) := by decide +kernel
theorem dL_goesBack_371 : decode cL_goesBack 371 = .ok (.bipush 20, 2) := by decide +kernel
theorem dL_goesBack_373 : decode cL_goesBack 373 = .ok (.aaload, 1) := by decide +kernel
theorem dL_goesBack_374 : decode cL_goesBack 374 = .ok (.aload_n 3, 1) := by decide +kernel
theorem dL_goesBack_375 : decode cL_goesBack 375 = .ok (.invokestatic 178, 3) := by decide +kernel
theorem dL_goesBack_378 : decode cL_goesBack 378 = .ok (.ifCond .eq 37, 3) := by decide +kernel
theorem dL_goesBack_381 : decode cL_goesBack 381 = .ok (.aload_n 0, 1) := by decide +kernel
theorem dL_goesBack_382 : decode cL_goesBack 382 = .ok (.bipush 11, 2) := by decide +kernel
theorem dL_goesBack_384 : decode cL_goesBack 384 = .ok (.iload 8, 2) := by decide +kernel
theorem dL_goesBack_386 : decode cL_goesBack 386 = .ok (.iconst 0, 1) := by decide +kernel
theorem dL_goesBack_387 : decode cL_goesBack 387 = .ok (.iconst 0, 1) := by decide +kernel
theorem dL_goesBack_388 : decode cL_goesBack 388 = .ok (.invokestatic 174, 3) := by decide +kernel
theorem dL_goesBack_391 : decode cL_goesBack 391 = .ok (.iload 8, 2) := by decide +kernel
theorem dL_goesBack_393 : decode cL_goesBack 393 = .ok (.if_icmp .ne 22, 3) := by decide +kernel
theorem dL_goesBack_396 : decode cL_goesBack 396 = .ok (.aload_n 0, 1) := by decide +kernel
theorem dL_goesBack_397 : decode cL_goesBack 397 = .ok (.aload_n 2, 1) := by decide +kernel
theorem dL_goesBack_398 : decode cL_goesBack 398 = .ok (.bipush 20, 2) := by decide +kernel
theorem dL_goesBack_400 : decode cL_goesBack 400 = .ok (.iload 8, 2) := by decide +kernel
theorem dL_goesBack_402 : decode cL_goesBack 402 = .ok (.iadd, 1) := by decide +kernel
theorem dL_goesBack_403 : decode cL_goesBack 403 = .ok (.aaload, 1) := by decide +kernel
theorem dL_goesBack_404 : decode cL_goesBack 404 = .ok (.aload_n 3, 1) := by decide +kernel
theorem dL_goesBack_405 : decode cL_goesBack 405 = .ok (.invokestatic 178, 3) := by decide +kernel
theorem dL_goesBack_408 : decode cL_goesBack 408 = .ok (.ifCond .eq 7, 3) := by decide +kernel
theorem dL_goesBack_411 : decode cL_goesBack 411 = .ok (.iconst 1, 1) := by decide +kernel
theorem dL_goesBack_412 : decode cL_goesBack 412 = .ok (.goto 4, 3) := by decide +kernel
theorem dL_goesBack_415 : decode cL_goesBack 415 = .ok (.iconst 0, 1) := by decide +kernel
theorem dL_goesBack_416 : decode cL_goesBack 416 = .ok (.ireturn, 1) := by decide +kernel
theorem dL_branches_0 : decode cL_branches 0 = .ok (.aload_n 0, 1) := by decide +kernel
theorem dL_branches_1 : decode cL_branches 1 = .ok (.aload_n 2, 1) := by decide +kernel
theorem dL_branches_2 : decode cL_branches 2 = .ok (.iconst 0, 1) := by decide +kernel
theorem dL_branches_3 : decode cL_branches 3 = .ok (.aaload, 1) := by decide +kernel
theorem dL_branches_4 : decode cL_branches 4 = .ok (.invokestatic 151, 3) := by decide +kernel
theorem dL_branches_7 : decode cL_branches 7 = .ok (.aload_n 0, 1) := by decide +kernel
theorem dL_branches_8 : decode cL_branches 8 = .ok (.iconst 3, 1) := by decide +kernel
theorem dL_branches_9 : decode cL_branches 9 = .ok (.invokevirtual 189, 3) := by decide +kernel
theorem dL_branches_12 : decode cL_branches 12 = .ok (.istore 5, 2) := by decide +kernel
theorem dL_branches_14 : decode cL_branches 14 = .ok (.aload 4, 2) := by decide +kernel
theorem dL_branches_16 : decode cL_branches 16 = .ok (.iconst 0, 1) := by decide +kernel
theorem dL_branches_17 : decode cL_branches 17 = .ok (.bipush 120, 2) := by decide +kernel
theorem dL_branches_19 : decode cL_branches 19 = .ok (.iastore, 1) := by decide +kernel
theorem dL_branches_20 : decode cL_branches 20 = .ok (.aload_n 0, 1) := by decide +kernel
theorem dL_branches_21 : decode cL_branches 21 = .ok (.aload 4, 2) := by decide +kernel
theorem dL_branches_23 : decode cL_branches 23 = .ok (.iconst 1, 1) := by decide +kernel
theorem dL_branches_24 : decode cL_branches 24 = .ok (.invokestatic 165, 3) := by decide +kernel
theorem dL_branches_27 : decode cL_branches 27 = .ok (.ifCond .eq 10, 3) := by decide +kernel
theorem dL_branches_30 : decode cL_branches 30 = .ok (.iload 5, 2) := by decide +kernel
theorem dL_branches_32 : decode cL_branches 32 = .ok (.bipush 8, 2) := by decide +kernel
theorem dL_branches_34 : decode cL_branches 34 = .ok (.if_icmp .le 5, 3) := by decide +kernel
theorem dL_branches_37 : decode cL_branches 37 = .ok (.iconst 1, 1) := by decide +kernel
theorem dL_branches_38 : decode cL_branches 38 = .ok (.ireturn, 1) := by decide +kernel
theorem dL_branches_39 : decode cL_branches 39 = .ok (.aload_n 0, 1) := by decide +kernel
theorem dL_branches_40 : decode cL_branches 40 = .ok (.iconst 0, 1) := by decide +kernel
theorem dL_branches_41 : decode cL_branches 41 = .ok (.iconst 0, 1) := by decide +kernel
theorem dL_branches_42 : decode cL_branches 42 = .ok (.iconst 0, 1) := by decide +kernel
theorem dL_branches_43 : decode cL_branches 43 = .ok (.iconst 0, 1) := by decide +kernel
theorem dL_branches_44 : decode cL_branches 44 = .ok (.invokestatic 174, 3) := by decide +kernel
theorem dL_branches_47 : decode cL_branches 47 = .ok (.istore 6, 2) := by decide +kernel
theorem dL_branches_49 : decode cL_branches 49 = .ok (.iload 6, 2) := by decide +kernel
theorem dL_branches_51 : decode cL_branches 51 = .ok (.ldc 123, 2) := by decide +kernel
theorem dL_branches_53 : decode cL_branches 53 = .ok (.if_icmp .ne 12, 3) := by decide +kernel
theorem dL_branches_56 : decode cL_branches 56 = .ok (.aload_n 0, 1) := by decide +kernel
theorem dL_branches_57 : decode cL_branches 57 = .ok (.aload_n 2, 1) := by decide +kernel
theorem dL_branches_58 : decode cL_branches 58 = .ok (.iconst 0, 1) := by decide +kernel
theorem dL_branches_59 : decode cL_branches 59 = .ok (.aaload, 1) := by decide +kernel
theorem dL_branches_60 : decode cL_branches 60 = .ok (.aload_n 3, 1) := by decide +kernel
theorem dL_branches_61 : decode cL_branches 61 = .ok (.invokestatic 178, 3) := by decide +kernel
theorem dL_branches_64 : decode cL_branches 64 = .ok (.ireturn, 1) := by decide +kernel
theorem dL_branches_65 : decode cL_branches 65 = .ok (.aload_n 0, 1) := by decide +kernel
theorem dL_branches_66 : decode cL_branches 66 = .ok (.aload_n 2, 1) := by decide +kernel
theorem dL_branches_67 : decode cL_branches 67 = .ok (.iconst 1, 1) := by decide +kernel
theorem dL_branches_68 : decode cL_branches 68 = .ok (.aaload, 1) := by decide +kernel
theorem dL_branches_69 : decode cL_branches 69 = .ok (.invokestatic 151, 3) := by decide +kernel
theorem dL_branches_72 : decode cL_branches 72 = .ok (.aload_n 0, 1) := by decide +kernel
theorem dL_branches_73 : decode cL_branches 73 = .ok (.bipush 10, 2) := by decide +kernel
theorem dL_branches_75 : decode cL_branches 75 = .ok (.iconst 1, 1) := by decide +kernel
theorem dL_branches_76 : decode cL_branches 76 = .ok (.iconst 0, 1) := by decide +kernel
theorem dL_branches_77 : decode cL_branches 77 = .ok (.iconst 0, 1) := by decide +kernel
theorem dL_branches_78 : decode cL_branches 78 = .ok (.invokestatic 174, 3) := by decide +kernel
theorem dL_branches_81 : decode cL_branches 81 = .ok (.iconst 1, 1) := by decide +kernel
theorem dL_branches_82 : decode cL_branches 82 = .ok (.if_icmp .ne 14, 3) := by decide +kernel
theorem dL_branches_85 : decode cL_branches 85 = .ok (.aload_n 0, 1) := by decide +kernel
theorem dL_branches_86 : decode cL_branches 86 = .ok (.aload_n 2, 1) := by decide +kernel
theorem dL_branches_87 : decode cL_branches 87 = .ok (.iconst 0, 1) := by decide +kernel
theorem dL_branches_88 : decode cL_branches 88 = .ok (.aaload, 1) := by decide +kernel
theorem dL_branches_89 : decode cL_branches 89 = .ok (.aload_n 3, 1) := by decide +kernel
theorem dL_branches_90 : decode cL_branches 90 = .ok (.invokestatic 178, 3) := by decide +kernel
theorem dL_branches_93 : decode cL_branches 93 = .ok (.ifCond .ne 5, 3) := by decide +kernel
theorem dL_branches_96 : decode cL_branches 96 = .ok (.iconst 0, 1) := by decide +kernel
theorem dL_branches_97 : decode cL_branches 97 = .ok (.ireturn, 1) := by decide +kernel
theorem dL_branches_98 : decode cL_branches 98 = .ok (.aload_n 0, 1) := by decide +kernel
theorem dL_branches_99 : decode cL_branches 99 = .ok (.iconst 2, 1) := by decide +kernel
theorem dL_branches_100 : decode cL_branches 100 = .ok (.iconst 0, 1) := by decide +kernel
theorem dL_branches_101 : decode cL_branches 101 = .ok (.iconst 0, 1) := by decide +kernel
theorem dL_branches_102 : decode cL_branches 102 = .ok (.iconst 0, 1) := by decide +kernel
theorem dL_branches_103 : decode cL_branches 103 = .ok (.invokestatic 174, 3) := by decide +kernel
theorem dL_branches_106 : decode cL_branches 106 = .ok (.istore 7, 2) := by decide +kernel
theorem dL_branches_108 : decode cL_branches 108 = .ok (.iload 7, 2) := by decide +kernel
theorem dL_branches_110 : decode cL_branches 110 = .ok (.ldc 123, 2) := by decide +kernel
theorem dL_branches_112 : decode cL_branches 112 = .ok (.if_icmp .ne 5, 3) := by decide +kernel
theorem dL_branches_115 : decode cL_branches 115 = .ok (.iconst 1, 1) := by decide +kernel
theorem dL_branches_116 : decode cL_branches 116 = .ok (.ireturn, 1) := by decide +kernel
theorem dL_branches_117 : decode cL_branches 117 = .ok (.aload_n 0, 1) := by decide +kernel
theorem dL_branches_118 : decode cL_branches 118 = .ok (.aload_n 2, 1) := by decide +kernel
theorem dL_branches_119 : decode cL_branches 119 = .ok (.iconst 2, 1) := by decide +kernel
theorem dL_branches_120 : decode cL_branches 120 = .ok (.aaload, 1) := by decide +kernel
theorem dL_branches_121 : decode cL_branches 121 = .ok (.invokestatic 151, 3) := by decide +kernel
theorem dL_branches_124 : decode cL_branches 124 = .ok (.iload 6, 2) := by decide +kernel
theorem dL_branches_126 : decode cL_branches 126 = .ok (.ifCond .le 78, 3) := by decide +kernel
theorem dL_branches_129 : decode cL_branches 129 = .ok (.iload 7, 2) := by decide +kernel
theorem dL_branches_131 : decode cL_branches 131 = .ok (.ifCond .le 73, 3) := by decide +kernel
theorem dL_branches_134 : decode cL_branches 134 = .ok (.aload_n 0, 1) := by decide +kernel
theorem dL_branches_135 : decode cL_branches 135 = .ok (.bipush 10, 2) := by decide +kernel
theorem dL_branches_137 : decode cL_branches 137 = .ok (.iconst 1, 1) := by decide +kernel
theorem dL_branches_138 : decode cL_branches 138 = .ok (.iconst 0, 1) := by decide +kernel
theorem dL_branches_139 : decode cL_branches 139 = .ok (.iconst 0, 1) := by decide +kernel
theorem dL_branches_140 : decode cL_branches 140 = .ok (.invokestatic 174, 3) := by decide +kernel
theorem dL_branches_143 : decode cL_branches 143 = .ok (.iconst 1, 1) := by decide +kernel
theorem dL_branches_144 : decode cL_branches 144 = .ok (.if_icmp .ne 60, 3) := by decide +kernel
theorem dL_branches_147 : decode cL_branches 147 = .ok (.aload_n 0, 1) := by decide +kernel
theorem dL_branches_148 : decode cL_branches 148 = .ok (.iconst 3, 1) := by decide +kernel
theorem dL_branches_149 : decode cL_branches 149 = .ok (.invokevirtual 189, 3) := by decide +kernel
theorem dL_branches_152 : decode cL_branches 152 = .ok (.iload 5, 2) := by decide +kernel
theorem dL_branches_154 : decode cL_branches 154 = .ok (.iconst 2, 1) := by decide +kernel
theorem dL_branches_155 : decode cL_branches 155 = .ok (.iadd, 1) := by decide +kernel
theorem dL_branches_156 : decode cL_branches 156 = .ok (.if_icmp .ne 48, 3) := by decide +kernel
theorem dL_branches_159 : decode cL_branches 159 = .ok (.aload_n 0, 1) := by decide +kernel
theorem dL_branches_160 : decode cL_branches 160 = .ok (.bipush 12, 2) := by decide +kernel
theorem dL_branches_162 : decode cL_branches 162 = .ok (.iload 5, 2) := by decide +kernel
theorem dL_branches_164 : decode cL_branches 164 = .ok (.iconst 0, 1) := by decide +kernel
theorem dL_branches_165 : decode cL_branches 165 = .ok (.iconst 0, 1) := by decide +kernel
theorem dL_branches_166 : decode cL_branches 166 = .ok (.invokestatic 174, 3) := by decide +kernel
theorem dL_branches_169 : decode cL_branches 169 = .ok (.iload 5, 2) := by decide +kernel
theorem dL_branches_171 : decode cL_branches 171 = .ok (.iconst 2, 1) := by decide +kernel
theorem dL_branches_172 : decode cL_branches 172 = .ok (.iadd, 1) := by decide +kernel
theorem dL_branches_173 : decode cL_branches 173 = .ok (.if_icmp .ne 31, 3) := by decide +kernel
theorem dL_branches_176 : decode cL_branches 176 = .ok (.aload_n 0, 1) := by decide +kernel
theorem dL_branches_177 : decode cL_branches 177 = .ok (.bipush 11, 2) := by decide +kernel
theorem dL_branches_179 : decode cL_branches 179 = .ok (.iconst 1, 1) := by decide +kernel
theorem dL_branches_180 : decode cL_branches 180 = .ok (.iconst 0, 1) := by decide +kernel
theorem dL_branches_181 : decode cL_branches 181 = .ok (.iconst 0, 1) := by decide +kernel
theorem dL_branches_182 : decode cL_branches 182 = .ok (.invokestatic 174, 3) := by decide +kernel
theorem dL_branches_185 : decode cL_branches 185 = .ok (.iconst 1, 1) := by decide +kernel
theorem dL_branches_186 : decode cL_branches 186 = .ok (.if_icmp .ne 18, 3) := by decide +kernel
theorem dL_branches_189 : decode cL_branches 189 = .ok (.aload_n 0, 1) := by decide +kernel
theorem dL_branches_190 : decode cL_branches 190 = .ok (.aload_n 2, 1) := by decide +kernel
theorem dL_branches_191 : decode cL_branches 191 = .ok (.iconst 1, 1) := by decide +kernel
theorem dL_branches_192 : decode cL_branches 192 = .ok (.aaload, 1) := by decide +kernel
theorem dL_branches_193 : decode cL_branches 193 = .ok (.aload_n 3, 1) := by decide +kernel
theorem dL_branches_194 : decode cL_branches 194 = .ok (.invokestatic 178, 3) := by decide +kernel
theorem dL_branches_197 : decode cL_branches 197 = .ok (.ifCond .eq 7, 3) := by decide +kernel
theorem dL_branches_200 : decode cL_branches 200 = .ok (.iconst 1, 1) := by decide +kernel
theorem dL_branches_201 : decode cL_branches 201 = .ok (.goto 4, 3) := by decide +kernel
theorem dL_branches_204 : decode cL_branches 204 = .ok (.iconst 0, 1) := by decide +kernel
theorem dL_branches_205 : decode cL_branches 205 = .ok (.istore 8, 2) := by decide +kernel
theorem dL_branches_207 : decode cL_branches 207 = .ok (.iload 8, 2) := by decide +kernel
theorem dL_branches_209 : decode cL_branches 209 = .ok (.ifCond .eq 100, 3) := by decide +kernel
theorem dL_branches_212 : decode cL_branches 212 = .ok (.aload_n 0, 1) := by decide +kernel
theorem dL_branches_213 : decode cL_branches 213 = .ok (.bipush 10, 2) := by decide +kernel
theorem dL_branches_215 : decode cL_branches 215 = .ok (.iconst 1, 1) := by decide +kernel
theorem dL_branches_216 : decode cL_branches 216 = .ok (.iconst 0, 1) := by decide +kernel
theorem dL_branches_217 : decode cL_branches 217 = .ok (.iconst 0, 1) := by decide +kernel
theorem dL_branches_218 : decode cL_branches 218 = .ok (.invokestatic 174, 3) := by decide +kernel
theorem dL_branches_221 : decode cL_branches 221 = .ok (.iconst 1, 1) := by decide +kernel
theorem dL_branches_222 : decode cL_branches 222 = .ok (.if_icmp .ne 87, 3) := by decide +kernel
theorem dL_branches_225 : decode cL_branches 225 = .ok (.aload_n 0, 1) := by decide +kernel
theorem dL_branches_226 : decode cL_branches 226 = .ok (.bipush 11, 2) := by decide +kernel
theorem dL_branches_228 : decode cL_branches 228 = .ok (.iconst 1, 1) := by decide +kernel
theorem dL_branches_229 : decode cL_branches 229 = .ok (.iconst 0, 1) := by decide +kernel
theorem dL_branches_230 : decode cL_branches 230 = .ok (.iconst 0, 1) := by decide +kernel
theorem dL_branches_231 : decode cL_branches 231 = .ok (.invokestatic 174, 3) := by decide +kernel
theorem dL_branches_234 : decode cL_branches 234 = .ok (.iconst 1, 1) := by decide +kernel
theorem dL_branches_235 : decode cL_branches 235 = .ok (.if_icmp .ne 74, 3) := by decide +kernel
theorem dL_branches_238 : decode cL_branches 238 = .ok (.aload_n 0, 1) := by decide +kernel
theorem dL_branches_239 : decode cL_branches 239 = .ok (.aload_n 2, 1) := by decide +kernel
theorem dL_branches_240 : decode cL_branches 240 = .ok (.iconst 1, 1) := by decide +kernel
theorem dL_branches_241 : decode cL_branches 241 = .ok (.aaload, 1) := by decide +kernel
theorem dL_branches_242 : decode cL_branches 242 = .ok (.aload_n 3, 1) := by decide +kernel
theorem dL_branches_243 : decode cL_branches 243 = .ok (.invokestatic 178, 3) := by decide +kernel
theorem dL_branches_246 : decode cL_branches 246 = .ok (.ifCond .eq 63, 3) := by decide +kernel
theorem dL_branches_249 : decode cL_branches 249 = .ok (.aload_n 0, 1) := by decide +kernel
theorem dL_branches_250 : decode cL_branches 250 = .ok (.bipush 10, 2) := by decide +kernel
theorem dL_branches_252 : decode cL_branches 252 = .ok (.iconst 1, 1) := by decide +kernel
theorem dL_branches_253 : decode cL_branches 253 = .ok (.iconst 0, 1) := by decide +kernel
theorem dL_branches_254 : decode cL_branches 254 = .ok (.iconst 0, 1) := by decide +kernel
theorem dL_branches_255 : decode cL_branches 255 = .ok (.invokestatic 174, 3) := by decide +kernel
theorem dL_branches_258 : decode cL_branches 258 = .ok (.iconst 1, 1) := by decide +kernel
theorem dL_branches_259 : decode cL_branches 259 = .ok (.if_icmp .ne 50, 3) := by decide +kernel
theorem dL_branches_262 : decode cL_branches 262 = .ok (.aload_n 0, 1) := by decide +kernel
theorem dL_branches_263 : decode cL_branches 263 = .ok (.bipush 12, 2) := by decide +kernel
theorem dL_branches_265 : decode cL_branches 265 = .ok (.iload 5, 2) := by decide +kernel
theorem dL_branches_267 : decode cL_branches 267 = .ok (.iconst 1, 1) := by decide +kernel
theorem dL_branches_268 : decode cL_branches 268 = .ok (.iadd, 1) := by decide +kernel
theorem dL_branches_269 : decode cL_branches 269 = .ok (.iconst 0, 1) := by decide +kernel
theorem dL_branches_270 : decode cL_branches 270 = .ok (.iconst 0, 1) := by decide +kernel
theorem dL_branches_271 : decode cL_branches 271 = .ok (.invokestatic 174, 3) := by decide +kernel
theorem dL_branches_274 : decode cL_branches 274 = .ok (.iload 5, 2) := by decide +kernel
theorem dL_branches_276 : decode cL_branches 276 = .ok (.iconst 2, 1) := by decide +kernel
theorem dL_branches_277 : decode cL_branches 277 = .ok (.iadd, 1) := by decide +kernel
theorem dL_branches_278 : decode cL_branches 278 = .ok (.if_icmp .ne 31, 3) := by decide +kernel
theorem dL_branches_281 : decode cL_branches 281 = .ok (.aload_n 0, 1) := by decide +kernel
theorem dL_branches_282 : decode cL_branches 282 = .ok (.bipush 11, 2) := by decide +kernel
theorem dL_branches_284 : decode cL_branches 284 = .ok (.iconst 1, 1) := by decide +kernel
theorem dL_branches_285 : decode cL_branches 285 = .ok (.iconst 0, 1) := by decide +kernel
theorem dL_branches_286 : decode cL_branches 286 = .ok (.iconst 0, 1) := by decide +kernel
theorem dL_branches_287 : decode cL_branches 287 = .ok (.invokestatic 174, 3) := by decide +kernel
theorem dL_branches_290 : decode cL_branches 290 = .ok (.iconst 1, 1) := by decide +kernel
theorem dL_branches_291 : decode cL_branches 291 = .ok (.if_icmp .ne 18, 3) := by decide +kernel
theorem dL_branches_294 : decode cL_branches 294 = .ok (.aload_n 0, 1) := by decide +kernel
theorem dL_branches_295 : decode cL_branches 295 = .ok (.aload_n 2, 1) := by decide +kernel
theorem dL_branches_296 : decode cL_branches 296 = .ok (.iconst 2, 1) := by decide +kernel
theorem dL_branches_297 : decode cL_branches 297 = .ok (.aaload, 1) := by decide +kernel
theorem dL_branches_298 : decode cL_branches 298 = .ok (.aload_n 3, 1) := by decide +kernel
theorem dL_branches_299 : decode cL_branches 299 = .ok (.invokestatic 178, 3) := by decide +kernel
theorem dL_branches_302 : decode cL_branches 302 = .ok (.ifCond .eq 7, 3) := by decide +kernel
theorem dL_branches_305 : decode cL_branches 305 = .ok (.iconst 1, 1) := by decide +kernel
theorem dL_branches_306 : decode cL_branches 306 = .ok (.goto 4, 3) := by decide +kernel
theorem dL_branches_309 : decode cL_branches 309 = .ok (.iconst 0, 1) := by decide +kernel
theorem dL_branches_310 : decode cL_branches 310 = .ok (.istore 8, 2) := by decide +kernel
theorem dL_branches_312 : decode cL_branches 312 = .ok (.iload 8, 2) := by decide +kernel
theorem dL_branches_314 : decode cL_branches 314 = .ok (.ifCond .eq 25, 3) := by decide +kernel
theorem dL_branches_317 : decode cL_branches 317 = .ok (.aload_n 0, 1) := by decide +kernel
theorem dL_branches_318 : decode cL_branches 318 = .ok (.bipush 12, 2) := by decide +kernel
theorem dL_branches_320 : decode cL_branches 320 = .ok (.aload_n 0, 1) := by decide +kernel
theorem dL_branches_321 : decode cL_branches 321 = .ok (.iconst 3, 1) := by decide +kernel
theorem dL_branches_322 : decode cL_branches 322 = .ok (.invokevirtual 189, 3) := by decide +kernel
theorem dL_branches_325 : decode cL_branches 325 = .ok (.iconst 0, 1) := by decide +kernel
theorem dL_branches_326 : decode cL_branches 326 = .ok (.iconst 0, 1) := by decide +kernel
theorem dL_branches_327 : decode cL_branches 327 = .ok (.invokestatic 174, 3) := by decide +kernel
theorem dL_branches_330 : decode cL_branches 330 = .ok (.ldc 126, 2) := by decide +kernel
theorem dL_branches_332 : decode cL_branches 332 = .ok (.if_icmp .ne 7, 3) := by decide +kernel
theorem dL_branches_335 : decode cL_branches 335 = .ok (.iconst 1, 1) := by decide +kernel
theorem dL_branches_336 : decode cL_branches 336 = .ok (.goto 4, 3) := by decide +kernel
theorem dL_branches_339 : decode cL_branches 339 = .ok (.iconst 0, 1) := by decide +kernel
theorem dL_branches_340 : decode cL_branches 340 = .ok (.ireturn, 1) := by decide +kernel
theorem dL_records_0 : decode cL_records 0 = .ok (.aload_n 1, 1) := by decide +kernel
theorem dL_records_1 : decode cL_records 1 = .ok (.aload 4, 2) := by decide +kernel
theorem dL_records_3 : decode cL_records 3 = .ok (.invokestatic 161, 3) := by decide +kernel
theorem dL_records_6 : decode cL_records 6 = .ok (.istore 5, 2) := by decide +kernel
theorem dL_records_8 : decode cL_records 8 = .ok (.iload 5, 2) := by decide +kernel
theorem dL_records_10 : decode cL_records 10 = .ok (.ifCond .eq 14, 3) := by decide +kernel
theorem dL_records_13 : decode cL_records 13 = .ok (.aload_n 0, 1) := by decide +kernel
theorem dL_records_14 : decode cL_records 14 = .ok (.aload 4, 2) := by decide +kernel
theorem dL_records_16 : decode cL_records 16 = .ok (.iload 5, 2) := by decide +kernel
theorem dL_records_18 : decode cL_records 18 = .ok (.invokestatic 165, 3) := by decide +kernel
theorem dL_records_21 : decode cL_records 21 = .ok (.ifCond .ne 14, 3) := by decide +kernel
theorem dL_records_24 : decode cL_records 24 = .ok (.iload 5, 2) := by decide +kernel
theorem dL_records_26 : decode cL_records 26 = .ok (.ifCond .ne 7, 3) := by decide +kernel
theorem dL_records_29 : decode cL_records 29 = .ok (.iconst 1, 1) := by decide +kernel
theorem dL_records_30 : decode cL_records 30 = .ok (.goto 4, 3) := by decide +kernel
theorem dL_records_33 : decode cL_records 33 = .ok (.iconst 0, 1) := by decide +kernel
theorem dL_records_34 : decode cL_records 34 = .ok (.ireturn, 1) := by decide +kernel
theorem dL_records_35 : decode cL_records 35 = .ok (.aload_n 0, 1) := by decide +kernel
theorem dL_records_36 : decode cL_records 36 = .ok (.aload_n 2, 1) := by decide +kernel
theorem dL_records_37 : decode cL_records 37 = .ok (.iconst 0, 1) := by decide +kernel
theorem dL_records_38 : decode cL_records 38 = .ok (.aaload, 1) := by decide +kernel
theorem dL_records_39 : decode cL_records 39 = .ok (.invokestatic 151, 3) := by decide +kernel
theorem dL_records_42 : decode cL_records 42 = .ok (.aload_n 0, 1) := by decide +kernel
theorem dL_records_43 : decode cL_records 43 = .ok (.iconst 1, 1) := by decide +kernel
theorem dL_records_44 : decode cL_records 44 = .ok (.invokevirtual 189, 3) := by decide +kernel
theorem dL_records_47 : decode cL_records 47 = .ok (.istore 6, 2) := by decide +kernel
theorem dL_records_49 : decode cL_records 49 = .ok (.aload_n 0, 1) := by decide +kernel
theorem dL_records_50 : decode cL_records 50 = .ok (.bipush 13, 2) := by decide +kernel
theorem dL_records_52 : decode cL_records 52 = .ok (.iconst 1, 1) := by decide +kernel
theorem dL_records_53 : decode cL_records 53 = .ok (.iconst 0, 1) := by decide +kernel
theorem dL_records_54 : decode cL_records 54 = .ok (.iconst 0, 1) := by decide +kernel
theorem dL_records_55 : decode cL_records 55 = .ok (.invokestatic 174, 3) := by decide +kernel
theorem dL_records_58 : decode cL_records 58 = .ok (.ifCond .ne 15, 3) := by decide +kernel
theorem dL_records_61 : decode cL_records 61 = .ok (.aload_n 0, 1) := by decide +kernel
theorem dL_records_62 : decode cL_records 62 = .ok (.iconst 1, 1) := by decide +kernel
theorem dL_records_63 : decode cL_records 63 = .ok (.invokevirtual 200, 3) := by decide +kernel
theorem dL_records_66 : decode cL_records 66 = .ok (.ifCond .lt 7, 3) := by decide +kernel
theorem dL_records_69 : decode cL_records 69 = .ok (.iconst 1, 1) := by decide +kernel
theorem dL_records_70 : decode cL_records 70 = .ok (.goto 4, 3) := by decide +kernel
theorem dL_records_73 : decode cL_records 73 = .ok (.iconst 0, 1) := by decide +kernel
theorem dL_records_74 : decode cL_records 74 = .ok (.istore 7, 2) := by decide +kernel
theorem dL_records_76 : decode cL_records 76 = .ok (.aload_n 0, 1) := by decide +kernel
theorem dL_records_77 : decode cL_records 77 = .ok (.iconst 0, 1) := by decide +kernel
theorem dL_records_78 : decode cL_records 78 = .ok (.iconst 0, 1) := by decide +kernel
theorem dL_records_79 : decode cL_records 79 = .ok (.iconst 0, 1) := by decide +kernel
theorem dL_records_80 : decode cL_records 80 = .ok (.iconst 0, 1) := by decide +kernel
theorem dL_records_81 : decode cL_records 81 = .ok (.invokestatic 174, 3) := by decide +kernel
theorem dL_records_84 : decode cL_records 84 = .ok (.istore 8, 2) := by decide +kernel
theorem dL_records_86 : decode cL_records 86 = .ok (.aload_n 1, 1) := by decide +kernel
theorem dL_records_87 : decode cL_records 87 = .ok (.invokestatic 8, 3) := by decide +kernel
theorem dL_records_90 : decode cL_records 90 = .ok (.iconst 5, 1) := by decide +kernel
theorem dL_records_91 : decode cL_records 91 = .ok (.irem, 1) := by decide +kernel
theorem dL_records_92 : decode cL_records 92 = .ok (.istore 9, 2) := by decide +kernel
theorem dL_records_94 : decode cL_records 94 = .ok (.iload 8, 2) := by decide +kernel
theorem dL_records_96 : decode cL_records 96 = .ok (.ifCond .lt 7, 3) := by decide +kernel
theorem dL_records_99 : decode cL_records 99 = .ok (.iconst 1, 1) := by decide +kernel
theorem dL_records_100 : decode cL_records 100 = .ok (.goto 4, 3) := by decide +kernel
theorem dL_records_103 : decode cL_records 103 = .ok (.iconst 0, 1) := by decide +kernel
theorem dL_records_104 : decode cL_records 104 = .ok (.invokestatic 63, 3) := by decide +kernel
theorem dL_records_107 : decode cL_records 107 = .ok (.istore 10, 2) := by decide +kernel
theorem dL_records_109 : decode cL_records 109 = .ok (.aload_n 1, 1) := by decide +kernel
theorem dL_records_110 : decode cL_records 110 = .ok (.invokestatic 8, 3) := by decide +kernel
theorem dL_records_113 : decode cL_records 113 = .ok (.iconst 4, 1) := by decide +kernel
theorem dL_records_114 : decode cL_records 114 = .ok (.irem, 1) := by decide +kernel
theorem dL_records_115 : decode cL_records 115 = .ok (.istore 11, 2) := by decide +kernel
theorem dL_records_117 : decode cL_records 117 = .ok (.iload 11, 2) := by decide +kernel
theorem dL_records_119 : decode cL_records 119 = .ok (.ifCond .le 91, 3) := by decide +kernel
theorem dL_records_122 : decode cL_records 122 = .ok (.aload_n 1, 1) := by decide +kernel
theorem dL_records_123 : decode cL_records 123 = .ok (.invokestatic 8, 3) := by decide +kernel
theorem dL_records_126 : decode cL_records 126 = .ok (.iconst 2, 1) := by decide +kernel
theorem dL_records_127 : decode cL_records 127 = .ok (.irem, 1) := by decide +kernel
theorem dL_records_128 : decode cL_records 128 = .ok (.ifCond .ne 22, 3) := by decide +kernel
theorem dL_records_131 : decode cL_records 131 = .ok (.aload_n 0, 1) := by decide +kernel
theorem dL_records_132 : decode cL_records 132 = .ok (.bipush 16, 2) := by decide +kernel
theorem dL_records_134 : decode cL_records 134 = .ok (.iload 9, 2) := by decide +kernel
theorem dL_records_136 : decode cL_records 136 = .ok (.aload_n 1, 1) := by decide +kernel
theorem dL_records_137 : decode cL_records 137 = .ok (.bipush (-3), 2) := by decide +kernel
theorem dL_records_139 : decode cL_records 139 = .ok (.iconst 3, 1) := by decide +kernel
theorem dL_records_140 : decode cL_records 140 = .ok (.invokestatic 137, 3) := by decide +kernel
theorem dL_records_143 : decode cL_records 143 = .ok (.iconst 0, 1) := by decide +kernel
theorem dL_records_144 : decode cL_records 144 = .ok (.invokestatic 174, 3) := by decide +kernel
theorem dL_records_147 : decode cL_records 147 = .ok (.goto 37, 3) := by decide +kernel
theorem dL_records_150 : decode cL_records 150 = .ok (.aload_n 1, 1) := by decide +kernel
theorem dL_records_151 : decode cL_records 151 = .ok (.invokestatic 8, 3) := by decide +kernel
theorem dL_records_154 : decode cL_records 154 = .ok (.iconst 3, 1) := by decide +kernel
theorem dL_records_155 : decode cL_records 155 = .ok (.irem, 1) := by decide +kernel
theorem dL_records_156 : decode cL_records 156 = .ok (.ifCond .ne 14, 3) := by decide +kernel
theorem dL_records_159 : decode cL_records 159 = .ok (.aload_n 0, 1) := by decide +kernel
theorem dL_records_160 : decode cL_records 160 = .ok (.iconst 4, 1) := by decide +kernel
theorem dL_records_161 : decode cL_records 161 = .ok (.iconst 0, 1) := by decide +kernel
theorem dL_records_162 : decode cL_records 162 = .ok (.iconst 0, 1) := by decide +kernel
theorem dL_records_163 : decode cL_records 163 = .ok (.iconst 0, 1) := by decide +kernel
theorem dL_records_164 : decode cL_records 164 = .ok (.invokestatic 174, 3) := by decide +kernel
theorem dL_records_167 : decode cL_records 167 = .ok (.goto 17, 3) := by decide +kernel
theorem dL_records_170 : decode cL_records 170 = .ok (.aload_n 0, 1) := by decide +kernel
theorem dL_records_171 : decode cL_records 171 = .ok (.iconst 1, 1) := by decide +kernel
theorem dL_records_172 : decode cL_records 172 = .ok (.aload_n 1, 1) := by decide +kernel
theorem dL_records_173 : decode cL_records 173 = .ok (.bipush (-4), 2) := by decide +kernel
theorem dL_records_175 : decode cL_records 175 = .ok (.iconst 4, 1) := by decide +kernel
theorem dL_records_176 : decode cL_records 176 = .ok (.invokestatic 137, 3) := by decide +kernel
theorem dL_records_179 : decode cL_records 179 = .ok (.iconst 0, 1) := by decide +kernel
theorem dL_records_180 : decode cL_records 180 = .ok (.iconst 0, 1) := by decide +kernel
theorem dL_records_181 : decode cL_records 181 = .ok (.invokestatic 174, 3) := by decide +kernel
theorem dL_records_184 : decode cL_records 184 = .ok (.istore 12, 2) := by decide +kernel
theorem dL_records_186 : decode cL_records 186 = .ok (.iload 10, 2) := by decide +kernel
theorem dL_records_188 : decode cL_records 188 = .ok (.iload 12, 2) := by decide +kernel
theorem dL_records_190 : decode cL_records 190 = .ok (.ifCond .lt 7, 3) := by decide +kernel
theorem dL_records_193 : decode cL_records 193 = .ok (.iconst 1, 1) := by decide +kernel
theorem dL_records_194 : decode cL_records 194 = .ok (.goto 4, 3) := by decide +kernel
theorem dL_records_197 : decode cL_records 197 = .ok (.iconst 0, 1) := by decide +kernel
theorem dL_records_198 : decode cL_records 198 = .ok (.invokestatic 63, 3) := by decide +kernel
theorem dL_records_201 : decode cL_records 201 = .ok (.iadd, 1) := by decide +kernel
theorem dL_records_202 : decode cL_records 202 = .ok (.istore 10, 2) := by decide +kernel
theorem dL_records_204 : decode cL_records 204 = .ok (.iinc 11 (-1), 3) := by decide +kernel
theorem dL_records_207 : decode cL_records 207 = .ok (.goto (-90), 3) := by decide +kernel
theorem dL_records_210 : decode cL_records 210 = .ok (.iload 7, 2) := by decide +kernel
theorem dL_records_212 : decode cL_records 212 = .ok (.ifCond .eq 30, 3) := by decide +kernel
theorem dL_records_215 : decode cL_records 215 = .ok (.aload_n 0, 1) := by decide +kernel
theorem dL_records_216 : decode cL_records 216 = .ok (.iconst 0, 1) := by decide +kernel
theorem dL_records_217 : decode cL_records 217 = .ok (.invokevirtual 200, 3) := by decide +kernel
theorem dL_records_220 : decode cL_records 220 = .ok (.iload 10, 2) := by decide +kernel
theorem dL_records_222 : decode cL_records 222 = .ok (.if_icmp .ne 20, 3) := by decide +kernel
theorem dL_records_225 : decode cL_records 225 = .ok (.aload_n 0, 1) := by decide +kernel
theorem dL_records_226 : decode cL_records 226 = .ok (.bipush 13, 2) := by decide +kernel
theorem dL_records_228 : decode cL_records 228 = .ok (.iconst 0, 1) := by decide +kernel
theorem dL_records_229 : decode cL_records 229 = .ok (.iconst 0, 1) := by decide +kernel
theorem dL_records_230 : decode cL_records 230 = .ok (.iconst 0, 1) := by decide +kernel
theorem dL_records_231 : decode cL_records 231 = .ok (.invokestatic 174, 3) := by decide +kernel
theorem dL_records_234 : decode cL_records 234 = .ok (.iconst 1, 1) := by decide +kernel
theorem dL_records_235 : decode cL_records 235 = .ok (.if_icmp .ne 7, 3) := by decide +kernel
theorem dL_records_238 : decode cL_records 238 = .ok (.iconst 1, 1) := by decide +kernel
theorem dL_records_239 : decode cL_records 239 = .ok (.goto 4, 3) := by decide +kernel
theorem dL_records_242 : decode cL_records 242 = .ok (.iconst 0, 1) := by decide +kernel
theorem dL_records_243 : decode cL_records 243 = .ok (.istore 7, 2) := by decide +kernel
theorem dL_records_245 : decode cL_records 245 = .ok (.iload 8, 2) := by decide +kernel
theorem dL_records_247 : decode cL_records 247 = .ok (.ifCond .ge 6, 3) := by decide +kernel
theorem dL_records_250 : decode cL_records 250 = .ok (.iload 7, 2) := by decide +kernel
theorem dL_records_252 : decode cL_records 252 = .ok (.ireturn, 1) := by decide +kernel
theorem dL_records_253 : decode cL_records 253 = .ok (.aload_n 0, 1) := by decide +kernel
theorem dL_records_254 : decode cL_records 254 = .ok (.aload_n 2, 1) := by decide +kernel
theorem dL_records_255 : decode cL_records 255 = .ok (.iconst 1, 1) := by decide +kernel
theorem dL_records_256 : decode cL_records 256 = .ok (.aaload, 1) := by decide +kernel
theorem dL_records_257 : decode cL_records 257 = .ok (.invokestatic 151, 3) := by decide +kernel
theorem dL_records_260 : decode cL_records 260 = .ok (.iload 7, 2) := by decide +kernel
theorem dL_records_262 : decode cL_records 262 = .ok (.ifCond .eq 43, 3) := by decide +kernel
theorem dL_records_265 : decode cL_records 265 = .ok (.aload_n 0, 1) := by decide +kernel
theorem dL_records_266 : decode cL_records 266 = .ok (.iconst 1, 1) := by decide +kernel
theorem dL_records_267 : decode cL_records 267 = .ok (.invokevirtual 189, 3) := by decide +kernel
theorem dL_records_270 : decode cL_records 270 = .ok (.iload 6, 2) := by decide +kernel
theorem dL_records_272 : decode cL_records 272 = .ok (.iconst 1, 1) := by decide +kernel
theorem dL_records_273 : decode cL_records 273 = .ok (.iadd, 1) := by decide +kernel
theorem dL_records_274 : decode cL_records 274 = .ok (.if_icmp .ne 31, 3) := by decide +kernel
theorem dL_records_277 : decode cL_records 277 = .ok (.aload_n 0, 1) := by decide +kernel
theorem dL_records_278 : decode cL_records 278 = .ok (.bipush 10, 2) := by decide +kernel
theorem dL_records_280 : decode cL_records 280 = .ok (.iconst 1, 1) := by decide +kernel
theorem dL_records_281 : decode cL_records 281 = .ok (.iconst 0, 1) := by decide +kernel
theorem dL_records_282 : decode cL_records 282 = .ok (.iconst 0, 1) := by decide +kernel
theorem dL_records_283 : decode cL_records 283 = .ok (.invokestatic 174, 3) := by decide +kernel
theorem dL_records_286 : decode cL_records 286 = .ok (.iconst 1, 1) := by decide +kernel
theorem dL_records_287 : decode cL_records 287 = .ok (.if_icmp .ne 18, 3) := by decide +kernel
theorem dL_records_290 : decode cL_records 290 = .ok (.aload_n 0, 1) := by decide +kernel
theorem dL_records_291 : decode cL_records 291 = .ok (.aload_n 2, 1) := by decide +kernel
theorem dL_records_292 : decode cL_records 292 = .ok (.iconst 0, 1) := by decide +kernel
theorem dL_records_293 : decode cL_records 293 = .ok (.aaload, 1) := by decide +kernel
theorem dL_records_294 : decode cL_records 294 = .ok (.aload_n 3, 1) := by decide +kernel
theorem dL_records_295 : decode cL_records 295 = .ok (.invokestatic 178, 3) := by decide +kernel
theorem dL_records_298 : decode cL_records 298 = .ok (.ifCond .eq 7, 3) := by decide +kernel
theorem dL_records_301 : decode cL_records 301 = .ok (.iconst 1, 1) := by decide +kernel
theorem dL_records_302 : decode cL_records 302 = .ok (.goto 4, 3) := by decide +kernel
theorem dL_records_305 : decode cL_records 305 = .ok (.iconst 0, 1) := by decide +kernel
theorem dL_records_306 : decode cL_records 306 = .ok (.istore 7, 2) := by decide +kernel
theorem dL_records_308 : decode cL_records 308 = .ok (.aload_n 0, 1) := by decide +kernel
theorem dL_records_309 : decode cL_records 309 = .ok (.bipush 24, 2) := by decide +kernel
theorem dL_records_311 : decode cL_records 311 = .ok (.iconst 1, 1) := by decide +kernel
theorem dL_records_312 : decode cL_records 312 = .ok (.iconst 0, 1) := by decide +kernel
theorem dL_records_313 : decode cL_records 313 = .ok (.iconst 0, 1) := by decide +kernel
theorem dL_records_314 : decode cL_records 314 = .ok (.invokestatic 174, 3) := by decide +kernel
theorem dL_records_317 : decode cL_records 317 = .ok (.istore 11, 2) := by decide +kernel
theorem dL_records_319 : decode cL_records 319 = .ok (.iload 11, 2) := by decide +kernel
theorem dL_records_321 : decode cL_records 321 = .ok (.ifCond .ne 36, 3) := by decide +kernel
theorem dL_records_324 : decode cL_records 324 = .ok (.iload 7, 2) := by decide +kernel
theorem dL_records_326 : decode cL_records 326 = .ok (.ifCond .eq 29, 3) := by decide +kernel
theorem dL_records_329 : decode cL_records 329 = .ok (.aload_n 0, 1) := by decide +kernel
theorem dL_records_330 : decode cL_records 330 = .ok (.iconst 0, 1) := by decide +kernel
theorem dL_records_331 : decode cL_records 331 = .ok (.invokevirtual 189, 3) := by decide +kernel
theorem dL_records_334 : decode cL_records 334 = .ok (.sipush 150, 3) := by decide +kernel
theorem dL_records_337 : decode cL_records 337 = .ok (.if_icmp .ne 18, 3) := by decide +kernel
theorem dL_records_340 : decode cL_records 340 = .ok (.aload_n 0, 1) := by decide +kernel
theorem dL_records_341 : decode cL_records 341 = .ok (.aload_n 2, 1) := by decide +kernel
theorem dL_records_342 : decode cL_records 342 = .ok (.iconst 0, 1) := by decide +kernel
theorem dL_records_343 : decode cL_records 343 = .ok (.aaload, 1) := by decide +kernel
theorem dL_records_344 : decode cL_records 344 = .ok (.aload_n 3, 1) := by decide +kernel
theorem dL_records_345 : decode cL_records 345 = .ok (.invokestatic 178, 3) := by decide +kernel
theorem dL_records_348 : decode cL_records 348 = .ok (.ifCond .eq 7, 3) := by decide +kernel
theorem dL_records_351 : decode cL_records 351 = .ok (.iconst 1, 1) := by decide +kernel
theorem dL_records_352 : decode cL_records 352 = .ok (.goto 4, 3) := by decide +kernel
theorem dL_records_355 : decode cL_records 355 = .ok (.iconst 0, 1) := by decide +kernel
theorem dL_records_356 : decode cL_records 356 = .ok (.ireturn, 1) := by decide +kernel
theorem dL_records_357 : decode cL_records 357 = .ok (.iload 7, 2) := by decide +kernel
theorem dL_records_359 : decode cL_records 359 = .ok (.ifCond .eq 85, 3) := by decide +kernel
theorem dL_records_362 : decode cL_records 362 = .ok (.iload 11, 2) := by decide +kernel
theorem dL_records_364 : decode cL_records 364 = .ok (.iload 10, 2) := by decide +kernel
theorem dL_records_366 : decode cL_records 366 = .ok (.if_icmp .ne 78, 3) := by decide +kernel
theorem dL_records_369 : decode cL_records 369 = .ok (.aload_n 0, 1) := by decide +kernel
theorem dL_records_370 : decode cL_records 370 = .ok (.aload_n 2, 1) := by decide +kernel
theorem dL_records_371 : decode cL_records 371 = .ok (.iconst 1, 1) := by decide +kernel
theorem dL_records_372 : decode cL_records 372 = .ok (.aaload, 1) := by decide +kernel
theorem dL_records_373 : decode cL_records 373 = .ok (.aload_n 3, 1) := by decide +kernel
theorem dL_records_374 : decode cL_records 374 = .ok (.invokestatic 178, 3) := by decide +kernel
theorem dL_records_377 : decode cL_records 377 = .ok (.ifCond .eq 67, 3) := by decide +kernel
theorem dL_records_380 : decode cL_records 380 = .ok (.aload_n 0, 1) := by decide +kernel
theorem dL_records_381 : decode cL_records 381 = .ok (.iconst 1, 1) := by decide +kernel
theorem dL_records_382 : decode cL_records 382 = .ok (.invokevirtual 189, 3) := by decide +kernel
theorem dL_records_385 : decode cL_records 385 = .ok (.iload 6, 2) := by decide +kernel
theorem dL_records_387 : decode cL_records 387 = .ok (.iconst 1, 1) := by decide +kernel
theorem dL_records_388 : decode cL_records 388 = .ok (.iadd, 1) := by decide +kernel
theorem dL_records_389 : decode cL_records 389 = .ok (.if_icmp .ne 55, 3) := by decide +kernel
theorem dL_records_392 : decode cL_records 392 = .ok (.aload_n 0, 1) := by decide +kernel
theorem dL_records_393 : decode cL_records 393 = .ok (.bipush 10, 2) := by decide +kernel
theorem dL_records_395 : decode cL_records 395 = .ok (.iconst 1, 1) := by decide +kernel
theorem dL_records_396 : decode cL_records 396 = .ok (.iconst 0, 1) := by decide +kernel
theorem dL_records_397 : decode cL_records 397 = .ok (.iconst 0, 1) := by decide +kernel
theorem dL_records_398 : decode cL_records 398 = .ok (.invokestatic 174, 3) := by decide +kernel
theorem dL_records_401 : decode cL_records 401 = .ok (.iconst 1, 1) := by decide +kernel
theorem dL_records_402 : decode cL_records 402 = .ok (.if_icmp .ne 42, 3) := by decide +kernel
theorem dL_records_405 : decode cL_records 405 = .ok (.aload_n 0, 1) := by decide +kernel
theorem dL_records_406 : decode cL_records 406 = .ok (.aload_n 2, 1) := by decide +kernel
theorem dL_records_407 : decode cL_records 407 = .ok (.iconst 0, 1) := by decide +kernel
theorem dL_records_408 : decode cL_records 408 = .ok (.aaload, 1) := by decide +kernel
theorem dL_records_409 : decode cL_records 409 = .ok (.aload_n 3, 1) := by decide +kernel
theorem dL_records_410 : decode cL_records 410 = .ok (.invokestatic 178, 3) := by decide +kernel
theorem dL_records_413 : decode cL_records 413 = .ok (.ifCond .eq 31, 3) := by decide +kernel
theorem dL_records_416 : decode cL_records 416 = .ok (.aload_n 0, 1) := by decide +kernel
theorem dL_records_417 : decode cL_records 417 = .ok (.bipush 11, 2) := by decide +kernel
theorem dL_records_419 : decode cL_records 419 = .ok (.iconst 1, 1) := by decide +kernel
theorem dL_records_420 : decode cL_records 420 = .ok (.iconst 0, 1) := by decide +kernel
theorem dL_records_421 : decode cL_records 421 = .ok (.iconst 0, 1) := by decide +kernel
theorem dL_records_422 : decode cL_records 422 = .ok (.invokestatic 174, 3) := by decide +kernel
theorem dL_records_425 : decode cL_records 425 = .ok (.iconst 1, 1) := by decide +kernel
theorem dL_records_426 : decode cL_records 426 = .ok (.if_icmp .ne 18, 3) := by decide +kernel
theorem dL_records_429 : decode cL_records 429 = .ok (.aload_n 0, 1) := by decide +kernel
theorem dL_records_430 : decode cL_records 430 = .ok (.aload_n 2, 1) := by decide +kernel
theorem dL_records_431 : decode cL_records 431 = .ok (.iconst 1, 1) := by decide +kernel
theorem dL_records_432 : decode cL_records 432 = .ok (.aaload, 1) := by decide +kernel
theorem dL_records_433 : decode cL_records 433 = .ok (.aload_n 3, 1) := by decide +kernel
theorem dL_records_434 : decode cL_records 434 = .ok (.invokestatic 178, 3) := by decide +kernel
theorem dL_records_437 : decode cL_records 437 = .ok (.ifCond .eq 7, 3) := by decide +kernel
theorem dL_records_440 : decode cL_records 440 = .ok (.iconst 1, 1) := by decide +kernel
theorem dL_records_441 : decode cL_records 441 = .ok (.goto 4, 3) := by decide +kernel
theorem dL_records_444 : decode cL_records 444 = .ok (.iconst 0, 1) := by decide +kernel
theorem dL_records_445 : decode cL_records 445 = .ok (.ireturn, 1) := by decide +kernel
theorem dL_plays_0 : decode cL_plays 0 = .ok (.new 15, 3) := by decide +kernel
theorem dL_plays_3 : decode cL_plays 3 = .ok (.dup, 1) := by decide +kernel
theorem dL_plays_4 : decode cL_plays 4 = .ok (.invokespecial 203, 3) := by decide +kernel
theorem dL_plays_7 : decode cL_plays 7 = .ok (.astore 6, 2) := by decide +kernel
theorem dL_plays_9 : decode cL_plays 9 = .ok (.aload_n 1, 1) := by decide +kernel
theorem dL_plays_10 : decode cL_plays 10 = .ok (.bipush 39, 2) := by decide +kernel
theorem dL_plays_12 : decode cL_plays 12 = .ok (.aaload, 1) := by decide +kernel
theorem dL_plays_13 : decode cL_plays 13 = .ok (.astore 7, 2) := by decide +kernel
theorem dL_plays_15 : decode cL_plays 15 = .ok (.aload_n 1, 1) := by decide +kernel
theorem dL_plays_16 : decode cL_plays 16 = .ok (.bipush 40, 2) := by decide +kernel
theorem dL_plays_18 : decode cL_plays 18 = .ok (.aaload, 1) := by decide +kernel
theorem dL_plays_19 : decode cL_plays 19 = .ok (.astore 8, 2) := by decide +kernel
theorem dL_plays_21 : decode cL_plays 21 = .ok (.aload 6, 2) := by decide +kernel
theorem dL_plays_23 : decode cL_plays 23 = .ok (.iconst 0, 1) := by decide +kernel
theorem dL_plays_24 : decode cL_plays 24 = .ok (.invokevirtual 134, 3) := by decide +kernel
theorem dL_plays_27 : decode cL_plays 27 = .ok (.ifCond .ne 69, 3) := by decide +kernel
theorem dL_plays_30 : decode cL_plays 30 = .ok (.aload 6, 2) := by decide +kernel
theorem dL_plays_32 : decode cL_plays 32 = .ok (.iconst 1, 1) := by decide +kernel
theorem dL_plays_33 : decode cL_plays 33 = .ok (.invokevirtual 134, 3) := by decide +kernel
theorem dL_plays_36 : decode cL_plays 36 = .ok (.iconst 1, 1) := by decide +kernel
theorem dL_plays_37 : decode cL_plays 37 = .ok (.if_icmp .ne 59, 3) := by decide +kernel
theorem dL_plays_40 : decode cL_plays 40 = .ok (.aload 6, 2) := by decide +kernel
theorem dL_plays_42 : decode cL_plays 42 = .ok (.iconst 0, 1) := by decide +kernel
theorem dL_plays_43 : decode cL_plays 43 = .ok (.invokevirtual 141, 3) := by decide +kernel
theorem dL_plays_46 : decode cL_plays 46 = .ok (.ifCond .ne 50, 3) := by decide +kernel
theorem dL_plays_49 : decode cL_plays 49 = .ok (.aload 6, 2) := by decide +kernel
theorem dL_plays_51 : decode cL_plays 51 = .ok (.bipush 9, 2) := by decide +kernel
theorem dL_plays_53 : decode cL_plays 53 = .ok (.iconst 0, 1) := by decide +kernel
theorem dL_plays_54 : decode cL_plays 54 = .ok (.iconst 0, 1) := by decide +kernel
theorem dL_plays_55 : decode cL_plays 55 = .ok (.iconst 0, 1) := by decide +kernel
theorem dL_plays_56 : decode cL_plays 56 = .ok (.invokestatic 174, 3) := by decide +kernel
theorem dL_plays_59 : decode cL_plays 59 = .ok (.ldc 123, 2) := by decide +kernel
theorem dL_plays_61 : decode cL_plays 61 = .ok (.if_icmp .ne 35, 3) := by decide +kernel
theorem dL_plays_64 : decode cL_plays 64 = .ok (.aload 6, 2) := by decide +kernel
theorem dL_plays_66 : decode cL_plays 66 = .ok (.bipush 10, 2) := by decide +kernel
theorem dL_plays_68 : decode cL_plays 68 = .ok (.iconst 1, 1) := by decide +kernel
theorem dL_plays_69 : decode cL_plays 69 = .ok (.iconst 0, 1) := by decide +kernel
theorem dL_plays_70 : decode cL_plays 70 = .ok (.iconst 0, 1) := by decide +kernel
theorem dL_plays_71 : decode cL_plays 71 = .ok (.invokestatic 174, 3) := by decide +kernel
theorem dL_plays_74 : decode cL_plays 74 = .ok (.ifCond .ne 22, 3) := by decide +kernel
theorem dL_plays_77 : decode cL_plays 77 = .ok (.aload 6, 2) := by decide +kernel
theorem dL_plays_79 : decode cL_plays 79 = .ok (.bipush 12, 2) := by decide +kernel
theorem dL_plays_81 : decode cL_plays 81 = .ok (.iconst 0, 1) := by decide +kernel
theorem dL_plays_82 : decode cL_plays 82 = .ok (.iconst 0, 1) := by decide +kernel
theorem dL_plays_83 : decode cL_plays 83 = .ok (.iconst 0, 1) := by decide +kernel
theorem dL_plays_84 : decode cL_plays 84 = .ok (.invokestatic 174, 3) := by decide +kernel
theorem dL_plays_87 : decode cL_plays 87 = .ok (.ldc 126, 2) := by decide +kernel
theorem dL_plays_89 : decode cL_plays 89 = .ok (.if_icmp .ne 7, 3) := by decide +kernel
theorem dL_plays_92 : decode cL_plays 92 = .ok (.iconst 1, 1) := by decide +kernel
theorem dL_plays_93 : decode cL_plays 93 = .ok (.goto 4, 3) := by decide +kernel
theorem dL_plays_96 : decode cL_plays 96 = .ok (.iconst 0, 1) := by decide +kernel
theorem dL_plays_97 : decode cL_plays 97 = .ok (.istore 9, 2) := by decide +kernel
theorem dL_plays_99 : decode cL_plays 99 = .ok (.iconst 0, 1) := by decide +kernel
theorem dL_plays_100 : decode cL_plays 100 = .ok (.istore 10, 2) := by decide +kernel
theorem dL_plays_102 : decode cL_plays 102 = .ok (.iload 10, 2) := by decide +kernel
theorem dL_plays_104 : decode cL_plays 104 = .ok (.bipush 16, 2) := by decide +kernel
theorem dL_plays_106 : decode cL_plays 106 = .ok (.if_icmp .ge 310, 3) := by decide +kernel
theorem dL_plays_109 : decode cL_plays 109 = .ok (.iload 9, 2) := by decide +kernel
theorem dL_plays_111 : decode cL_plays 111 = .ok (.ifCond .eq 305, 3) := by decide +kernel
theorem dL_plays_114 : decode cL_plays 114 = .ok (.aload_n 0, 1) := by decide +kernel
theorem dL_plays_115 : decode cL_plays 115 = .ok (.invokestatic 8, 3) := by decide +kernel
theorem dL_plays_118 : decode cL_plays 118 = .ok (.bipush 10, 2) := by decide +kernel
theorem dL_plays_120 : decode cL_plays 120 = .ok (.irem, 1) := by decide +kernel
theorem dL_plays_121 : decode cL_plays 121 = .ok (.istore 11, 2) := by decide +kernel
theorem dL_plays_123 : decode cL_plays 123 = .ok (.aload 6, 2) := by decide +kernel
theorem dL_plays_125 : decode cL_plays 125 = .ok (.iconst 0, 1) := by decide +kernel
theorem dL_plays_126 : decode cL_plays 126 = .ok (.invokevirtual 134, 3) := by decide +kernel
theorem dL_plays_129 : decode cL_plays 129 = .ok (.sipush 350, 3) := by decide +kernel
theorem dL_plays_132 : decode cL_plays 132 = .ok (.if_icmp .le 22, 3) := by decide +kernel
theorem dL_plays_135 : decode cL_plays 135 = .ok (.aload 6, 2) := by decide +kernel
theorem dL_plays_137 : decode cL_plays 137 = .ok (.iconst 3, 1) := by decide +kernel
theorem dL_plays_138 : decode cL_plays 138 = .ok (.bipush 100, 2) := by decide +kernel
theorem dL_plays_140 : decode cL_plays 140 = .ok (.sipush 300, 3) := by decide +kernel
theorem dL_plays_143 : decode cL_plays 143 = .ok (.iconst 0, 1) := by decide +kernel
theorem dL_plays_144 : decode cL_plays 144 = .ok (.invokestatic 174, 3) := by decide +kernel
theorem dL_plays_147 : decode cL_plays 147 = .ok (.ldc 192, 2) := by decide +kernel
theorem dL_plays_149 : decode cL_plays 149 = .ok (.if_icmp .ne 5, 3) := by decide +kernel
theorem dL_plays_152 : decode cL_plays 152 = .ok (.iconst 0, 1) := by decide +kernel
theorem dL_plays_153 : decode cL_plays 153 = .ok (.ireturn, 1) := by decide +kernel
theorem dL_plays_154 : decode cL_plays 154 = .ok (.iload 11, 2) := by decide +kernel
theorem dL_plays_156 : decode cL_plays 156 = .ok (.iconst 2, 1) := by decide +kernel
theorem dL_plays_157 : decode cL_plays 157 = .ok (.if_icmp .ge 21, 3) := by decide +kernel
theorem dL_plays_160 : decode cL_plays 160 = .ok (.aload 6, 2) := by decide +kernel
theorem dL_plays_162 : decode cL_plays 162 = .ok (.aload_n 0, 1) := by decide +kernel
theorem dL_plays_163 : decode cL_plays 163 = .ok (.aload 7, 2) := by decide +kernel
theorem dL_plays_165 : decode cL_plays 165 = .ok (.aload 8, 2) := by decide +kernel
theorem dL_plays_167 : decode cL_plays 167 = .ok (.aload_n 2, 1) := by decide +kernel
theorem dL_plays_168 : decode cL_plays 168 = .ok (.aload 4, 2) := by decide +kernel
theorem dL_plays_170 : decode cL_plays 170 = .ok (.invokestatic 204, 3) := by decide +kernel
theorem dL_plays_173 : decode cL_plays 173 = .ok (.istore 9, 2) := by decide +kernel
theorem dL_plays_175 : decode cL_plays 175 = .ok (.goto 212, 3) := by decide +kernel
theorem dL_plays_178 : decode cL_plays 178 = .ok (.iload 11, 2) := by decide +kernel
theorem dL_plays_180 : decode cL_plays 180 = .ok (.iconst 2, 1) := by decide +kernel
theorem dL_plays_181 : decode cL_plays 181 = .ok (.if_icmp .ne 22, 3) := by decide +kernel
theorem dL_plays_184 : decode cL_plays 184 = .ok (.aload 6, 2) := by decide +kernel
theorem dL_plays_186 : decode cL_plays 186 = .ok (.aload_n 0, 1) := by decide +kernel
theorem dL_plays_187 : decode cL_plays 187 = .ok (.aload 7, 2) := by decide +kernel
theorem dL_plays_189 : decode cL_plays 189 = .ok (.aload 8, 2) := by decide +kernel
theorem dL_plays_191 : decode cL_plays 191 = .ok (.aload_n 2, 1) := by decide +kernel
theorem dL_plays_192 : decode cL_plays 192 = .ok (.aload_n 3, 1) := by decide +kernel
theorem dL_plays_193 : decode cL_plays 193 = .ok (.aload 5, 2) := by decide +kernel
theorem dL_plays_195 : decode cL_plays 195 = .ok (.invokestatic 208, 3) := by decide +kernel
theorem dL_plays_198 : decode cL_plays 198 = .ok (.istore 9, 2) := by decide +kernel
theorem dL_plays_200 : decode cL_plays 200 = .ok (.goto 187, 3) := by decide +kernel
theorem dL_plays_203 : decode cL_plays 203 = .ok (.iload 11, 2) := by decide +kernel
theorem dL_plays_205 : decode cL_plays 205 = .ok (.iconst 5, 1) := by decide +kernel
theorem dL_plays_206 : decode cL_plays 206 = .ok (.if_icmp .ge 20, 3) := by decide +kernel
theorem dL_plays_209 : decode cL_plays 209 = .ok (.aload 6, 2) := by decide +kernel
theorem dL_plays_211 : decode cL_plays 211 = .ok (.aload_n 0, 1) := by decide +kernel
theorem dL_plays_212 : decode cL_plays 212 = .ok (.aload_n 1, 1) := by decide +kernel
theorem dL_plays_213 : decode cL_plays 213 = .ok (.aload 8, 2) := by decide +kernel
theorem dL_plays_215 : decode cL_plays 215 = .ok (.aload_n 2, 1) := by decide +kernel
theorem dL_plays_216 : decode cL_plays 216 = .ok (.aload 4, 2) := by decide +kernel
theorem dL_plays_218 : decode cL_plays 218 = .ok (.invokestatic 212, 3) := by decide +kernel
theorem dL_plays_221 : decode cL_plays 221 = .ok (.istore 9, 2) := by decide +kernel
theorem dL_plays_223 : decode cL_plays 223 = .ok (.goto 164, 3) := by decide +kernel
theorem dL_plays_226 : decode cL_plays 226 = .ok (.iload 11, 2) := by decide +kernel
theorem dL_plays_228 : decode cL_plays 228 = .ok (.iconst 5, 1) := by decide +kernel
theorem dL_plays_229 : decode cL_plays 229 = .ok (.if_icmp .ne 18, 3) := by decide +kernel
theorem dL_plays_232 : decode cL_plays 232 = .ok (.aload 6, 2) := by decide +kernel
theorem dL_plays_234 : decode cL_plays 234 = .ok (.aload_n 0, 1) := by decide +kernel
theorem dL_plays_235 : decode cL_plays 235 = .ok (.aload_n 1, 1) := by decide +kernel
theorem dL_plays_236 : decode cL_plays 236 = .ok (.aload 8, 2) := by decide +kernel
theorem dL_plays_238 : decode cL_plays 238 = .ok (.aload_n 2, 1) := by decide +kernel
theorem dL_plays_239 : decode cL_plays 239 = .ok (.invokestatic 216, 3) := by decide +kernel
theorem dL_plays_242 : decode cL_plays 242 = .ok (.istore 9, 2) := by decide +kernel
theorem dL_plays_244 : decode cL_plays 244 = .ok (.goto 143, 3) := by decide +kernel
theorem dL_plays_247 : decode cL_plays 247 = .ok (.iload 11, 2) := by decide +kernel
theorem dL_plays_249 : decode cL_plays 249 = .ok (.bipush 8, 2) := by decide +kernel
theorem dL_plays_251 : decode cL_plays 251 = .ok (.if_icmp .ge 16, 3) := by decide +kernel
theorem dL_plays_254 : decode cL_plays 254 = .ok (.aload 6, 2) := by decide +kernel
theorem dL_plays_256 : decode cL_plays 256 = .ok (.aload_n 0, 1) := by decide +kernel
theorem dL_plays_257 : decode cL_plays 257 = .ok (.aload 4, 2) := by decide +kernel
theorem dL_plays_259 : decode cL_plays 259 = .ok (.invokestatic 196, 3) := by decide +kernel
theorem dL_plays_262 : decode cL_plays 262 = .ok (.istore 9, 2) := by decide +kernel
theorem dL_plays_264 : decode cL_plays 264 = .ok (.goto 123, 3) := by decide +kernel
theorem dL_plays_267 : decode cL_plays 267 = .ok (.iload 11, 2) := by decide +kernel
theorem dL_plays_269 : decode cL_plays 269 = .ok (.bipush 8, 2) := by decide +kernel
theorem dL_plays_271 : decode cL_plays 271 = .ok (.if_icmp .ne 75, 3) := by decide +kernel
theorem dL_plays_274 : decode cL_plays 274 = .ok (.aload 6, 2) := by decide +kernel
theorem dL_plays_276 : decode cL_plays 276 = .ok (.invokevirtual 220, 3) := by decide +kernel
theorem dL_plays_279 : decode cL_plays 279 = .ok (.aload 6, 2) := by decide +kernel
theorem dL_plays_281 : decode cL_plays 281 = .ok (.iconst 1, 1) := by decide +kernel
theorem dL_plays_282 : decode cL_plays 282 = .ok (.invokevirtual 134, 3) := by decide +kernel
theorem dL_plays_285 : decode cL_plays 285 = .ok (.if_icmp .ne 55, 3) := by decide +kernel
theorem dL_plays_288 : decode cL_plays 288 = .ok (.aload 6, 2) := by decide +kernel
theorem dL_plays_290 : decode cL_plays 290 = .ok (.invokevirtual 223, 3) := by decide +kernel
theorem dL_plays_293 : decode cL_plays 293 = .ok (.ifCond .ne 47, 3) := by decide +kernel
theorem dL_plays_296 : decode cL_plays 296 = .ok (.aload 6, 2) := by decide +kernel
theorem dL_plays_298 : decode cL_plays 298 = .ok (.invokevirtual 226, 3) := by decide +kernel
theorem dL_plays_301 : decode cL_plays 301 = .ok (.fconst 1, 1) := by decide +kernel
theorem dL_plays_302 : decode cL_plays 302 = .ok (.fcmp .l, 1) := by decide +kernel
theorem dL_plays_303 : decode cL_plays 303 = .ok (.ifCond .ne 37, 3) := by decide +kernel
theorem dL_plays_306 : decode cL_plays 306 = .ok (.aload 6, 2) := by decide +kernel
theorem dL_plays_308 : decode cL_plays 308 = .ok (.aload_n 0, 1) := by decide +kernel
theorem dL_plays_309 : decode cL_plays 309 = .ok (.aload_n 2, 1) := by decide +kernel
theorem dL_plays_310 : decode cL_plays 310 = .ok (.invokestatic 193, 3) := by decide +kernel
theorem dL_plays_313 : decode cL_plays 313 = .ok (.ldc 192, 2) := by decide +kernel
theorem dL_plays_315 : decode cL_plays 315 = .ok (.if_icmp .le 25, 3) := by decide +kernel
theorem dL_plays_318 : decode cL_plays 318 = .ok (.aload 6, 2) := by decide +kernel
theorem dL_plays_320 : decode cL_plays 320 = .ok (.invokevirtual 223, 3) := by decide +kernel
theorem dL_plays_323 : decode cL_plays 323 = .ok (.ifCond .lt 17, 3) := by decide +kernel
theorem dL_plays_326 : decode cL_plays 326 = .ok (.aload 6, 2) := by decide +kernel
theorem dL_plays_328 : decode cL_plays 328 = .ok (.invokevirtual 226, 3) := by decide +kernel
theorem dL_plays_331 : decode cL_plays 331 = .ok (.fconst 1, 1) := by decide +kernel
theorem dL_plays_332 : decode cL_plays 332 = .ok (.fcmp .g, 1) := by decide +kernel
theorem dL_plays_333 : decode cL_plays 333 = .ok (.ifCond .gt 7, 3) := by decide +kernel
theorem dL_plays_336 : decode cL_plays 336 = .ok (.iconst 1, 1) := by decide +kernel
theorem dL_plays_337 : decode cL_plays 337 = .ok (.goto 4, 3) := by decide +kernel
theorem dL_plays_340 : decode cL_plays 340 = .ok (.iconst 0, 1) := by decide +kernel
theorem dL_plays_341 : decode cL_plays 341 = .ok (.istore 9, 2) := by decide +kernel
theorem dL_plays_343 : decode cL_plays 343 = .ok (.goto 44, 3) := by decide +kernel
theorem dL_plays_346 : decode cL_plays 346 = .ok (.aload_n 0, 1) := by decide +kernel
theorem dL_plays_347 : decode cL_plays 347 = .ok (.invokestatic 8, 3) := by decide +kernel
theorem dL_plays_350 : decode cL_plays 350 = .ok (.iconst 2, 1) := by decide +kernel
theorem dL_plays_351 : decode cL_plays 351 = .ok (.irem, 1) := by decide +kernel
theorem dL_plays_352 : decode cL_plays 352 = .ok (.ifCond .ne 16, 3) := by decide +kernel
theorem dL_plays_355 : decode cL_plays 355 = .ok (.aload 6, 2) := by decide +kernel
theorem dL_plays_357 : decode cL_plays 357 = .ok (.aload_n 0, 1) := by decide +kernel
theorem dL_plays_358 : decode cL_plays 358 = .ok (.aload_n 1, 1) := by decide +kernel
theorem dL_plays_359 : decode cL_plays 359 = .ok (.aload 8, 2) := by decide +kernel
theorem dL_plays_361 : decode cL_plays 361 = .ok (.aload_n 2, 1) := by decide +kernel
theorem dL_plays_362 : decode cL_plays 362 = .ok (.invokestatic 230, 3) := by decide +kernel
theorem dL_plays_365 : decode cL_plays 365 = .ok (.goto 20, 3) := by decide +kernel
theorem dL_plays_368 : decode cL_plays 368 = .ok (.aload 6, 2) := by decide +kernel
theorem dL_plays_370 : decode cL_plays 370 = .ok (.aload_n 0, 1) := by decide +kernel
theorem dL_plays_371 : decode cL_plays 371 = .ok (.aload_n 2, 1) := by decide +kernel
theorem dL_plays_372 : decode cL_plays 372 = .ok (.invokestatic 193, 3) := by decide +kernel
theorem dL_plays_375 : decode cL_plays 375 = .ok (.ldc 192, 2) := by decide +kernel
theorem dL_plays_377 : decode cL_plays 377 = .ok (.if_icmp .le 7, 3) := by decide +kernel
theorem dL_plays_380 : decode cL_plays 380 = .ok (.iconst 1, 1) := by decide +kernel
theorem dL_plays_381 : decode cL_plays 381 = .ok (.goto 4, 3) := by decide +kernel
theorem dL_plays_384 : decode cL_plays 384 = .ok (.iconst 0, 1) := by decide +kernel
theorem dL_plays_385 : decode cL_plays 385 = .ok (.istore 9, 2) := by decide +kernel
theorem dL_plays_387 : decode cL_plays 387 = .ok (.iload 9, 2) := by decide +kernel
theorem dL_plays_389 : decode cL_plays 389 = .ok (.ifCond .eq 18, 3) := by decide +kernel
theorem dL_plays_392 : decode cL_plays 392 = .ok (.aload 6, 2) := by decide +kernel
theorem dL_plays_394 : decode cL_plays 394 = .ok (.aload_n 0, 1) := by decide +kernel
theorem dL_plays_395 : decode cL_plays 395 = .ok (.aload 8, 2) := by decide +kernel
theorem dL_plays_397 : decode cL_plays 397 = .ok (.invokestatic 233, 3) := by decide +kernel
theorem dL_plays_400 : decode cL_plays 400 = .ok (.ifCond .eq 7, 3) := by decide +kernel
theorem dL_plays_403 : decode cL_plays 403 = .ok (.iconst 1, 1) := by decide +kernel
theorem dL_plays_404 : decode cL_plays 404 = .ok (.goto 4, 3) := by decide +kernel
theorem dL_plays_407 : decode cL_plays 407 = .ok (.iconst 0, 1) := by decide +kernel
theorem dL_plays_408 : decode cL_plays 408 = .ok (.istore 9, 2) := by decide +kernel
theorem dL_plays_410 : decode cL_plays 410 = .ok (.iinc 10 1, 3) := by decide +kernel
theorem dL_plays_413 : decode cL_plays 413 = .ok (.goto (-311), 3) := by decide +kernel
theorem dL_plays_416 : decode cL_plays 416 = .ok (.aload 6, 2) := by decide +kernel
theorem dL_plays_418 : decode cL_plays 418 = .ok (.iconst 0, 1) := by decide +kernel
theorem dL_plays_419 : decode cL_plays 419 = .ok (.invokevirtual 134, 3) := by decide +kernel
theorem dL_plays_422 : decode cL_plays 422 = .ok (.istore 10, 2) := by decide +kernel
theorem dL_plays_424 : decode cL_plays 424 = .ok (.iload 9, 2) := by decide +kernel
theorem dL_plays_426 : decode cL_plays 426 = .ok (.ifCond .eq 134, 3) := by decide +kernel
theorem dL_plays_429 : decode cL_plays 429 = .ok (.aload 6, 2) := by decide +kernel
theorem dL_plays_431 : decode cL_plays 431 = .ok (.iconst 2, 1) := by decide +kernel
theorem dL_plays_432 : decode cL_plays 432 = .ok (.iconst 0, 1) := by decide +kernel
theorem dL_plays_433 : decode cL_plays 433 = .ok (.iload 10, 2) := by decide +kernel
theorem dL_plays_435 : decode cL_plays 435 = .ok (.iconst 1, 1) := by decide +kernel
theorem dL_plays_436 : decode cL_plays 436 = .ok (.iadd, 1) := by decide +kernel
theorem dL_plays_437 : decode cL_plays 437 = .ok (.iconst 0, 1) := by decide +kernel
theorem dL_plays_438 : decode cL_plays 438 = .ok (.invokestatic 174, 3) := by decide +kernel
theorem dL_plays_441 : decode cL_plays 441 = .ok (.ldc 117, 2) := by decide +kernel
theorem dL_plays_443 : decode cL_plays 443 = .ok (.if_icmp .ne 117, 3) := by decide +kernel
theorem dL_plays_446 : decode cL_plays 446 = .ok (.aload 6, 2) := by decide +kernel
theorem dL_plays_448 : decode cL_plays 448 = .ok (.iconst 2, 1) := by decide +kernel
theorem dL_plays_449 : decode cL_plays 449 = .ok (.iconst 0, 1) := by decide +kernel
theorem dL_plays_450 : decode cL_plays 450 = .ok (.iconst (-1), 1) := by decide +kernel
theorem dL_plays_451 : decode cL_plays 451 = .ok (.iconst 0, 1) := by decide +kernel
theorem dL_plays_452 : decode cL_plays 452 = .ok (.invokestatic 174, 3) := by decide +kernel
theorem dL_plays_455 : decode cL_plays 455 = .ok (.ldc 117, 2) := by decide +kernel
theorem dL_plays_457 : decode cL_plays 457 = .ok (.if_icmp .ne 103, 3) := by decide +kernel
theorem dL_plays_460 : decode cL_plays 460 = .ok (.aload 6, 2) := by decide +kernel
theorem dL_plays_462 : decode cL_plays 462 = .ok (.iconst 1, 1) := by decide +kernel
theorem dL_plays_463 : decode cL_plays 463 = .ok (.bipush 101, 2) := by decide +kernel
theorem dL_plays_465 : decode cL_plays 465 = .ok (.iconst 0, 1) := by decide +kernel
theorem dL_plays_466 : decode cL_plays 466 = .ok (.iconst 0, 1) := by decide +kernel
theorem dL_plays_467 : decode cL_plays 467 = .ok (.invokestatic 174, 3) := by decide +kernel
theorem dL_plays_470 : decode cL_plays 470 = .ok (.ldc 120, 2) := by decide +kernel
theorem dL_plays_472 : decode cL_plays 472 = .ok (.if_icmp .ne 88, 3) := by decide +kernel
theorem dL_plays_475 : decode cL_plays 475 = .ok (.aload 6, 2) := by decide +kernel
theorem dL_plays_477 : decode cL_plays 477 = .ok (.bipush 26, 2) := by decide +kernel
theorem dL_plays_479 : decode cL_plays 479 = .ok (.iload 10, 2) := by decide +kernel
theorem dL_plays_481 : decode cL_plays 481 = .ok (.iconst 0, 1) := by decide +kernel
theorem dL_plays_482 : decode cL_plays 482 = .ok (.iconst 0, 1) := by decide +kernel
theorem dL_plays_483 : decode cL_plays 483 = .ok (.invokestatic 174, 3) := by decide +kernel
theorem dL_plays_486 : decode cL_plays 486 = .ok (.ldc 117, 2) := by decide +kernel
theorem dL_plays_488 : decode cL_plays 488 = .ok (.if_icmp .ne 72, 3) := by decide +kernel
theorem dL_plays_491 : decode cL_plays 491 = .ok (.aload 6, 2) := by decide +kernel
theorem dL_plays_493 : decode cL_plays 493 = .ok (.bipush 27, 2) := by decide +kernel
theorem dL_plays_495 : decode cL_plays 495 = .ok (.iload 10, 2) := by decide +kernel
theorem dL_plays_497 : decode cL_plays 497 = .ok (.iconst 1, 1) := by decide +kernel
theorem dL_plays_498 : decode cL_plays 498 = .ok (.iadd, 1) := by decide +kernel
theorem dL_plays_499 : decode cL_plays 499 = .ok (.iconst 0, 1) := by decide +kernel
theorem dL_plays_500 : decode cL_plays 500 = .ok (.iconst 0, 1) := by decide +kernel
theorem dL_plays_501 : decode cL_plays 501 = .ok (.invokestatic 174, 3) := by decide +kernel
theorem dL_plays_504 : decode cL_plays 504 = .ok (.ldc 117, 2) := by decide +kernel
theorem dL_plays_506 : decode cL_plays 506 = .ok (.if_icmp .ne 54, 3) := by decide +kernel
theorem dL_plays_509 : decode cL_plays 509 = .ok (.aload 6, 2) := by decide +kernel
theorem dL_plays_511 : decode cL_plays 511 = .ok (.bipush 16, 2) := by decide +kernel
theorem dL_plays_513 : decode cL_plays 513 = .ok (.iconst 5, 1) := by decide +kernel
theorem dL_plays_514 : decode cL_plays 514 = .ok (.iconst 0, 1) := by decide +kernel
theorem dL_plays_515 : decode cL_plays 515 = .ok (.iconst 0, 1) := by decide +kernel
theorem dL_plays_516 : decode cL_plays 516 = .ok (.invokestatic 174, 3) := by decide +kernel
theorem dL_plays_519 : decode cL_plays 519 = .ok (.ldc 120, 2) := by decide +kernel
theorem dL_plays_521 : decode cL_plays 521 = .ok (.if_icmp .ne 39, 3) := by decide +kernel
theorem dL_plays_524 : decode cL_plays 524 = .ok (.aload 6, 2) := by decide +kernel
theorem dL_plays_526 : decode cL_plays 526 = .ok (.bipush 24, 2) := by decide +kernel
theorem dL_plays_528 : decode cL_plays 528 = .ok (.iconst 0, 1) := by decide +kernel
theorem dL_plays_529 : decode cL_plays 529 = .ok (.iconst 0, 1) := by decide +kernel
theorem dL_plays_530 : decode cL_plays 530 = .ok (.iconst 0, 1) := by decide +kernel
theorem dL_plays_531 : decode cL_plays 531 = .ok (.invokestatic 174, 3) := by decide +kernel
theorem dL_plays_534 : decode cL_plays 534 = .ok (.ldc 120, 2) := by decide +kernel
theorem dL_plays_536 : decode cL_plays 536 = .ok (.if_icmp .ne 24, 3) := by decide +kernel
theorem dL_plays_539 : decode cL_plays 539 = .ok (.aload 6, 2) := by decide +kernel
theorem dL_plays_541 : decode cL_plays 541 = .ok (.bipush 10, 2) := by decide +kernel
theorem dL_plays_543 : decode cL_plays 543 = .ok (.sipush 151, 3) := by decide +kernel
theorem dL_plays_546 : decode cL_plays 546 = .ok (.iconst 0, 1) := by decide +kernel
theorem dL_plays_547 : decode cL_plays 547 = .ok (.iconst 0, 1) := by decide +kernel
theorem dL_plays_548 : decode cL_plays 548 = .ok (.invokestatic 174, 3) := by decide +kernel
theorem dL_plays_551 : decode cL_plays 551 = .ok (.ldc 120, 2) := by decide +kernel
theorem dL_plays_553 : decode cL_plays 553 = .ok (.if_icmp .ne 7, 3) := by decide +kernel
theorem dL_plays_556 : decode cL_plays 556 = .ok (.iconst 1, 1) := by decide +kernel
theorem dL_plays_557 : decode cL_plays 557 = .ok (.goto 4, 3) := by decide +kernel
theorem dL_plays_560 : decode cL_plays 560 = .ok (.iconst 0, 1) := by decide +kernel
theorem dL_plays_561 : decode cL_plays 561 = .ok (.istore 9, 2) := by decide +kernel
theorem dL_plays_563 : decode cL_plays 563 = .ok (.iload 9, 2) := by decide +kernel
theorem dL_plays_565 : decode cL_plays 565 = .ok (.ifCond .eq 15, 3) := by decide +kernel
theorem dL_plays_568 : decode cL_plays 568 = .ok (.aload 6, 2) := by decide +kernel
theorem dL_plays_570 : decode cL_plays 570 = .ok (.invokevirtual 236, 3) := by decide +kernel
theorem dL_plays_573 : decode cL_plays 573 = .ok (.ifCond .ne 7, 3) := by decide +kernel
theorem dL_plays_576 : decode cL_plays 576 = .ok (.iconst 1, 1) := by decide +kernel
theorem dL_plays_577 : decode cL_plays 577 = .ok (.goto 4, 3) := by decide +kernel
theorem dL_plays_580 : decode cL_plays 580 = .ok (.iconst 0, 1) := by decide +kernel
theorem dL_plays_581 : decode cL_plays 581 = .ok (.ireturn, 1) := by decide +kernel
theorem dL_law_0 : decode cL_law 0 = .ok (.iconst 1, 1) := by decide +kernel
theorem dL_law_1 : decode cL_law 1 = .ok (.newarray .int, 2) := by decide +kernel
theorem dL_law_3 : decode cL_law 3 = .ok (.dup, 1) := by decide +kernel
theorem dL_law_4 : decode cL_law 4 = .ok (.iconst 0, 1) := by decide +kernel
theorem dL_law_5 : decode cL_law 5 = .ok (.ldc 239, 2) := by decide +kernel
theorem dL_law_7 : decode cL_law 7 = .ok (.iastore, 1) := by decide +kernel
theorem dL_law_8 : decode cL_law 8 = .ok (.astore_n 1, 1) := by decide +kernel
theorem dL_law_9 : decode cL_law 9 = .ok (.iconst 0, 1) := by decide +kernel
theorem dL_law_10 : decode cL_law 10 = .ok (.istore_n 2, 1) := by decide +kernel
theorem dL_law_11 : decode cL_law 11 = .ok (.iload_n 2, 1) := by decide +kernel
theorem dL_law_12 : decode cL_law 12 = .ok (.aload_n 0, 1) := by decide +kernel
theorem dL_law_13 : decode cL_law 13 = .ok (.arraylength, 1) := by decide +kernel
theorem dL_law_14 : decode cL_law 14 = .ok (.if_icmp .ge 22, 3) := by decide +kernel
theorem dL_law_17 : decode cL_law 17 = .ok (.aload_n 1, 1) := by decide +kernel
theorem dL_law_18 : decode cL_law 18 = .ok (.iconst 0, 1) := by decide +kernel
theorem dL_law_19 : decode cL_law 19 = .ok (.bipush 31, 2) := by decide +kernel
theorem dL_law_21 : decode cL_law 21 = .ok (.aload_n 1, 1) := by decide +kernel
theorem dL_law_22 : decode cL_law 22 = .ok (.iconst 0, 1) := by decide +kernel
theorem dL_law_23 : decode cL_law 23 = .ok (.iaload, 1) := by decide +kernel
theorem dL_law_24 : decode cL_law 24 = .ok (.imul, 1) := by decide +kernel
theorem dL_law_25 : decode cL_law 25 = .ok (.aload_n 0, 1) := by decide +kernel
theorem dL_law_26 : decode cL_law 26 = .ok (.iload_n 2, 1) := by decide +kernel
theorem dL_law_27 : decode cL_law 27 = .ok (.iaload, 1) := by decide +kernel
theorem dL_law_28 : decode cL_law 28 = .ok (.iadd, 1) := by decide +kernel
theorem dL_law_29 : decode cL_law 29 = .ok (.iastore, 1) := by decide +kernel
theorem dL_law_30 : decode cL_law 30 = .ok (.iinc 2 1, 3) := by decide +kernel
theorem dL_law_33 : decode cL_law 33 = .ok (.goto (-22), 3) := by decide +kernel
theorem dL_law_36 : decode cL_law 36 = .ok (.bipush 41, 2) := by decide +kernel
theorem dL_law_38 : decode cL_law 38 = .ok (.sipush 3500, 3) := by decide +kernel
theorem dL_law_41 : decode cL_law 41 = .ok (.multianewarray 240 2, 4) := by decide +kernel
theorem dL_law_45 : decode cL_law 45 = .ok (.astore_n 2, 1) := by decide +kernel
theorem dL_law_46 : decode cL_law 46 = .ok (.bipush 40, 2) := by decide +kernel
theorem dL_law_48 : decode cL_law 48 = .ok (.newarray .int, 2) := by decide +kernel
theorem dL_law_50 : decode cL_law 50 = .ok (.astore_n 3, 1) := by decide +kernel
theorem dL_law_51 : decode cL_law 51 = .ok (.bipush 8, 2) := by decide +kernel
theorem dL_law_53 : decode cL_law 53 = .ok (.newarray .int, 2) := by decide +kernel
theorem dL_law_55 : decode cL_law 55 = .ok (.astore 4, 2) := by decide +kernel
theorem dL_law_57 : decode cL_law 57 = .ok (.bipush 16, 2) := by decide +kernel
theorem dL_law_59 : decode cL_law 59 = .ok (.newarray .boolean, 2) := by decide +kernel
theorem dL_law_61 : decode cL_law 61 = .ok (.astore 5, 2) := by decide +kernel
theorem dL_law_63 : decode cL_law 63 = .ok (.sipush 3500, 3) := by decide +kernel
theorem dL_law_66 : decode cL_law 66 = .ok (.newarray .boolean, 2) := by decide +kernel
theorem dL_law_68 : decode cL_law 68 = .ok (.astore 6, 2) := by decide +kernel
theorem dL_law_70 : decode cL_law 70 = .ok (.aload_n 1, 1) := by decide +kernel
theorem dL_law_71 : decode cL_law 71 = .ok (.aload_n 2, 1) := by decide +kernel
theorem dL_law_72 : decode cL_law 72 = .ok (.aload_n 3, 1) := by decide +kernel
theorem dL_law_73 : decode cL_law 73 = .ok (.aload 4, 2) := by decide +kernel
theorem dL_law_75 : decode cL_law 75 = .ok (.aload 5, 2) := by decide +kernel
theorem dL_law_77 : decode cL_law 77 = .ok (.aload 6, 2) := by decide +kernel
theorem dL_law_79 : decode cL_law 79 = .ok (.invokestatic 242, 3) := by decide +kernel
theorem dL_law_82 : decode cL_law 82 = .ok (.ireturn, 1) := by decide +kernel

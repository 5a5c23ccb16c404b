/-! ===== decoded ===== -/
theorem d145_4 : decode (mm_cb 145) 4 = .ok (.invokespecial 51, 3) := by decide +kernel
theorem d145_7 : decode (mm_cb 145) 7 = .ok (.astore_n 1, 1) := by decide +kernel
theorem d145_8 : decode (mm_cb 145) 8 = .ok (.new 52, 3) := by decide +kernel
theorem d145_11 : decode (mm_cb 145) 11 = .ok (.dup, 1) := by decide +kernel
theorem d145_12 : decode (mm_cb 145) 12 = .ok (.invokespecial 54, 3) := by decide +kernel
theorem d145_15 : decode (mm_cb 145) 15 = .ok (.astore_n 2, 1) := by decide +kernel
theorem d145_16 : decode (mm_cb 145) 16 = .ok (.iconst 1, 1) := by decide +kernel
theorem d145_17 : decode (mm_cb 145) 17 = .ok (.newarray .long, 2) := by decide +kernel
theorem d145_19 : decode (mm_cb 145) 19 = .ok (.astore_n 3, 1) := by decide +kernel
theorem d145_20 : decode (mm_cb 145) 20 = .ok (.iconst 0, 1) := by decide +kernel
theorem d145_21 : decode (mm_cb 145) 21 = .ok (.istore 4, 2) := by decide +kernel
theorem d145_23 : decode (mm_cb 145) 23 = .ok (.iload 4, 2) := by decide +kernel
theorem d145_25 : decode (mm_cb 145) 25 = .ok (.aload_n 0, 1) := by decide +kernel
theorem d145_26 : decode (mm_cb 145) 26 = .ok (.arraylength, 1) := by decide +kernel
theorem d145_27 : decode (mm_cb 145) 27 = .ok (.bipush 6, 2) := by decide +kernel
theorem d145_29 : decode (mm_cb 145) 29 = .ok (.isub, 1) := by decide +kernel
theorem d145_30 : decode (mm_cb 145) 30 = .ok (.if_icmp .gt 948, 3) := by decide +kernel
theorem d145_33 : decode (mm_cb 145) 33 = .ok (.aload_n 0, 1) := by decide +kernel
theorem d145_34 : decode (mm_cb 145) 34 = .ok (.iload 4, 2) := by decide +kernel
theorem d145_36 : decode (mm_cb 145) 36 = .ok (.iaload, 1) := by decide +kernel
theorem d145_37 : decode (mm_cb 145) 37 = .ok (.bipush 15, 2) := by decide +kernel
theorem d145_39 : decode (mm_cb 145) 39 = .ok (.iand, 1) := by decide +kernel
theorem d145_40 : decode (mm_cb 145) 40 = .ok (.tableswitch 932 0 13 #[72, 176, 243, 355, 422, 534, 559, 627, 695, 751, 762, 830, 905, 918], 72) := by decide +kernel
theorem d145_112 : decode (mm_cb 145) 112 = .ok (.aload_n 1, 1) := by decide +kernel
theorem d145_113 : decode (mm_cb 145) 113 = .ok (.aload_n 0, 1) := by decide +kernel
theorem d145_114 : decode (mm_cb 145) 114 = .ok (.iload 4, 2) := by decide +kernel
theorem d145_116 : decode (mm_cb 145) 116 = .ok (.iconst 1, 1) := by decide +kernel
theorem d145_117 : decode (mm_cb 145) 117 = .ok (.iadd, 1) := by decide +kernel
theorem d145_118 : decode (mm_cb 145) 118 = .ok (.iaload, 1) := by decide +kernel
theorem d145_119 : decode (mm_cb 145) 119 = .ok (.aload_n 0, 1) := by decide +kernel
theorem d145_120 : decode (mm_cb 145) 120 = .ok (.iload 4, 2) := by decide +kernel
theorem d145_122 : decode (mm_cb 145) 122 = .ok (.iconst 2, 1) := by decide +kernel
theorem d145_123 : decode (mm_cb 145) 123 = .ok (.iadd, 1) := by decide +kernel
theorem d145_124 : decode (mm_cb 145) 124 = .ok (.iaload, 1) := by decide +kernel
theorem d145_125 : decode (mm_cb 145) 125 = .ok (.aload_n 0, 1) := by decide +kernel
theorem d145_126 : decode (mm_cb 145) 126 = .ok (.iload 4, 2) := by decide +kernel
theorem d145_128 : decode (mm_cb 145) 128 = .ok (.iconst 3, 1) := by decide +kernel
theorem d145_129 : decode (mm_cb 145) 129 = .ok (.iadd, 1) := by decide +kernel
theorem d145_130 : decode (mm_cb 145) 130 = .ok (.iaload, 1) := by decide +kernel
theorem d145_131 : decode (mm_cb 145) 131 = .ok (.aload_n 0, 1) := by decide +kernel
theorem d145_132 : decode (mm_cb 145) 132 = .ok (.iload 4, 2) := by decide +kernel
theorem d145_134 : decode (mm_cb 145) 134 = .ok (.iconst 4, 1) := by decide +kernel
theorem d145_135 : decode (mm_cb 145) 135 = .ok (.iadd, 1) := by decide +kernel
theorem d145_136 : decode (mm_cb 145) 136 = .ok (.iaload, 1) := by decide +kernel
theorem d145_137 : decode (mm_cb 145) 137 = .ok (.aload_n 0, 1) := by decide +kernel
theorem d145_138 : decode (mm_cb 145) 138 = .ok (.iload 4, 2) := by decide +kernel
theorem d145_140 : decode (mm_cb 145) 140 = .ok (.iconst 5, 1) := by decide +kernel
theorem d145_141 : decode (mm_cb 145) 141 = .ok (.iadd, 1) := by decide +kernel
theorem d145_142 : decode (mm_cb 145) 142 = .ok (.iaload, 1) := by decide +kernel
theorem d145_143 : decode (mm_cb 145) 143 = .ok (.aload_n 3, 1) := by decide +kernel
theorem d145_144 : decode (mm_cb 145) 144 = .ok (.invokestatic 55, 3) := by decide +kernel
theorem d145_147 : decode (mm_cb 145) 147 = .ok (.istore 5, 2) := by decide +kernel
theorem d145_149 : decode (mm_cb 145) 149 = .ok (.aload_n 2, 1) := by decide +kernel
theorem d145_150 : decode (mm_cb 145) 150 = .ok (.aload_n 0, 1) := by decide +kernel
theorem d145_151 : decode (mm_cb 145) 151 = .ok (.iload 4, 2) := by decide +kernel
theorem d145_153 : decode (mm_cb 145) 153 = .ok (.iconst 1, 1) := by decide +kernel
theorem d145_154 : decode (mm_cb 145) 154 = .ok (.iadd, 1) := by decide +kernel
theorem d145_155 : decode (mm_cb 145) 155 = .ok (.iaload, 1) := by decide +kernel
theorem d145_156 : decode (mm_cb 145) 156 = .ok (.aload_n 0, 1) := by decide +kernel
theorem d145_157 : decode (mm_cb 145) 157 = .ok (.iload 4, 2) := by decide +kernel
theorem d145_159 : decode (mm_cb 145) 159 = .ok (.iconst 2, 1) := by decide +kernel
theorem d145_160 : decode (mm_cb 145) 160 = .ok (.iadd, 1) := by decide +kernel
theorem d145_161 : decode (mm_cb 145) 161 = .ok (.iaload, 1) := by decide +kernel
theorem d145_162 : decode (mm_cb 145) 162 = .ok (.aload_n 0, 1) := by decide +kernel
theorem d145_163 : decode (mm_cb 145) 163 = .ok (.iload 4, 2) := by decide +kernel
theorem d145_165 : decode (mm_cb 145) 165 = .ok (.iconst 3, 1) := by decide +kernel
theorem d145_166 : decode (mm_cb 145) 166 = .ok (.iadd, 1) := by decide +kernel
theorem d145_167 : decode (mm_cb 145) 167 = .ok (.iaload, 1) := by decide +kernel
theorem d145_168 : decode (mm_cb 145) 168 = .ok (.aload_n 0, 1) := by decide +kernel
theorem d145_169 : decode (mm_cb 145) 169 = .ok (.iload 4, 2) := by decide +kernel
theorem d145_171 : decode (mm_cb 145) 171 = .ok (.iconst 4, 1) := by decide +kernel
theorem d145_172 : decode (mm_cb 145) 172 = .ok (.iadd, 1) := by decide +kernel
theorem d145_173 : decode (mm_cb 145) 173 = .ok (.iaload, 1) := by decide +kernel
theorem d145_174 : decode (mm_cb 145) 174 = .ok (.aload_n 0, 1) := by decide +kernel
theorem d145_175 : decode (mm_cb 145) 175 = .ok (.iload 4, 2) := by decide +kernel
theorem d145_177 : decode (mm_cb 145) 177 = .ok (.iconst 5, 1) := by decide +kernel
theorem d145_178 : decode (mm_cb 145) 178 = .ok (.iadd, 1) := by decide +kernel
theorem d145_179 : decode (mm_cb 145) 179 = .ok (.iaload, 1) := by decide +kernel
theorem d145_180 : decode (mm_cb 145) 180 = .ok (.invokevirtual 60, 3) := by decide +kernel
theorem d145_183 : decode (mm_cb 145) 183 = .ok (.istore 6, 2) := by decide +kernel
theorem d145_185 : decode (mm_cb 145) 185 = .ok (.aload_n 2, 1) := by decide +kernel
theorem d145_186 : decode (mm_cb 145) 186 = .ok (.invokevirtual 61, 3) := by decide +kernel
theorem d145_189 : decode (mm_cb 145) 189 = .ok (.iload 5, 2) := by decide +kernel
theorem d145_191 : decode (mm_cb 145) 191 = .ok (.if_icmp .eq 5, 3) := by decide +kernel
theorem d145_194 : decode (mm_cb 145) 194 = .ok (.iconst 0, 1) := by decide +kernel
theorem d145_195 : decode (mm_cb 145) 195 = .ok (.ireturn, 1) := by decide +kernel
theorem d145_196 : decode (mm_cb 145) 196 = .ok (.iload 5, 2) := by decide +kernel
theorem d145_198 : decode (mm_cb 145) 198 = .ok (.ifCond .ne 15, 3) := by decide +kernel
theorem d145_201 : decode (mm_cb 145) 201 = .ok (.aload_n 3, 1) := by decide +kernel
theorem d145_202 : decode (mm_cb 145) 202 = .ok (.iconst 0, 1) := by decide +kernel
theorem d145_203 : decode (mm_cb 145) 203 = .ok (.laload, 1) := by decide +kernel
theorem d145_204 : decode (mm_cb 145) 204 = .ok (.iload 6, 2) := by decide +kernel
theorem d145_206 : decode (mm_cb 145) 206 = .ok (.i2l, 1) := by decide +kernel
theorem d145_207 : decode (mm_cb 145) 207 = .ok (.lcmp, 1) := by decide +kernel
theorem d145_208 : decode (mm_cb 145) 208 = .ok (.ifCond .eq 5, 3) := by decide +kernel
theorem d145_211 : decode (mm_cb 145) 211 = .ok (.iconst 0, 1) := by decide +kernel
theorem d145_212 : decode (mm_cb 145) 212 = .ok (.ireturn, 1) := by decide +kernel
theorem d145_213 : decode (mm_cb 145) 213 = .ok (.goto 759, 3) := by decide +kernel
theorem d145_216 : decode (mm_cb 145) 216 = .ok (.aload_n 1, 1) := by decide +kernel
theorem d145_217 : decode (mm_cb 145) 217 = .ok (.aload_n 0, 1) := by decide +kernel
theorem d145_218 : decode (mm_cb 145) 218 = .ok (.iload 4, 2) := by decide +kernel
theorem d145_220 : decode (mm_cb 145) 220 = .ok (.iconst 1, 1) := by decide +kernel
theorem d145_221 : decode (mm_cb 145) 221 = .ok (.iadd, 1) := by decide +kernel
theorem d145_222 : decode (mm_cb 145) 222 = .ok (.iaload, 1) := by decide +kernel
theorem d145_223 : decode (mm_cb 145) 223 = .ok (.aload_n 0, 1) := by decide +kernel
theorem d145_224 : decode (mm_cb 145) 224 = .ok (.iload 4, 2) := by decide +kernel
theorem d145_226 : decode (mm_cb 145) 226 = .ok (.iconst 2, 1) := by decide +kernel
theorem d145_227 : decode (mm_cb 145) 227 = .ok (.iadd, 1) := by decide +kernel
theorem d145_228 : decode (mm_cb 145) 228 = .ok (.iaload, 1) := by decide +kernel
theorem d145_229 : decode (mm_cb 145) 229 = .ok (.aload_n 3, 1) := by decide +kernel
theorem d145_230 : decode (mm_cb 145) 230 = .ok (.invokestatic 65, 3) := by decide +kernel
theorem d145_233 : decode (mm_cb 145) 233 = .ok (.istore 5, 2) := by decide +kernel
theorem d145_235 : decode (mm_cb 145) 235 = .ok (.aload_n 2, 1) := by decide +kernel
theorem d145_236 : decode (mm_cb 145) 236 = .ok (.aload_n 0, 1) := by decide +kernel
theorem d145_237 : decode (mm_cb 145) 237 = .ok (.iload 4, 2) := by decide +kernel
theorem d145_239 : decode (mm_cb 145) 239 = .ok (.iconst 1, 1) := by decide +kernel
theorem d145_240 : decode (mm_cb 145) 240 = .ok (.iadd, 1) := by decide +kernel
theorem d145_241 : decode (mm_cb 145) 241 = .ok (.iaload, 1) := by decide +kernel
theorem d145_242 : decode (mm_cb 145) 242 = .ok (.aload_n 0, 1) := by decide +kernel
theorem d145_243 : decode (mm_cb 145) 243 = .ok (.iload 4, 2) := by decide +kernel
theorem d145_245 : decode (mm_cb 145) 245 = .ok (.iconst 2, 1) := by decide +kernel
theorem d145_246 : decode (mm_cb 145) 246 = .ok (.iadd, 1) := by decide +kernel
theorem d145_247 : decode (mm_cb 145) 247 = .ok (.iaload, 1) := by decide +kernel
theorem d145_248 : decode (mm_cb 145) 248 = .ok (.invokevirtual 68, 3) := by decide +kernel
theorem d145_251 : decode (mm_cb 145) 251 = .ok (.lstore 6, 2) := by decide +kernel
theorem d145_253 : decode (mm_cb 145) 253 = .ok (.aload_n 2, 1) := by decide +kernel
theorem d145_254 : decode (mm_cb 145) 254 = .ok (.invokevirtual 61, 3) := by decide +kernel
theorem d145_257 : decode (mm_cb 145) 257 = .ok (.iload 5, 2) := by decide +kernel
theorem d145_259 : decode (mm_cb 145) 259 = .ok (.if_icmp .eq 5, 3) := by decide +kernel
theorem d145_262 : decode (mm_cb 145) 262 = .ok (.iconst 0, 1) := by decide +kernel
theorem d145_263 : decode (mm_cb 145) 263 = .ok (.ireturn, 1) := by decide +kernel
theorem d145_264 : decode (mm_cb 145) 264 = .ok (.iload 5, 2) := by decide +kernel
theorem d145_266 : decode (mm_cb 145) 266 = .ok (.ifCond .ne 14, 3) := by decide +kernel
theorem d145_269 : decode (mm_cb 145) 269 = .ok (.aload_n 3, 1) := by decide +kernel
theorem d145_270 : decode (mm_cb 145) 270 = .ok (.iconst 0, 1) := by decide +kernel
theorem d145_271 : decode (mm_cb 145) 271 = .ok (.laload, 1) := by decide +kernel
theorem d145_272 : decode (mm_cb 145) 272 = .ok (.lload 6, 2) := by decide +kernel
theorem d145_274 : decode (mm_cb 145) 274 = .ok (.lcmp, 1) := by decide +kernel
theorem d145_275 : decode (mm_cb 145) 275 = .ok (.ifCond .eq 5, 3) := by decide +kernel
theorem d145_278 : decode (mm_cb 145) 278 = .ok (.iconst 0, 1) := by decide +kernel
theorem d145_279 : decode (mm_cb 145) 279 = .ok (.ireturn, 1) := by decide +kernel
theorem d145_280 : decode (mm_cb 145) 280 = .ok (.goto 692, 3) := by decide +kernel
theorem d145_283 : decode (mm_cb 145) 283 = .ok (.aload_n 1, 1) := by decide +kernel
theorem d145_284 : decode (mm_cb 145) 284 = .ok (.aload_n 0, 1) := by decide +kernel
theorem d145_285 : decode (mm_cb 145) 285 = .ok (.iload 4, 2) := by decide +kernel
theorem d145_287 : decode (mm_cb 145) 287 = .ok (.iconst 1, 1) := by decide +kernel
theorem d145_288 : decode (mm_cb 145) 288 = .ok (.iadd, 1) := by decide +kernel
theorem d145_289 : decode (mm_cb 145) 289 = .ok (.iaload, 1) := by decide +kernel
theorem d145_290 : decode (mm_cb 145) 290 = .ok (.aload_n 0, 1) := by decide +kernel
theorem d145_291 : decode (mm_cb 145) 291 = .ok (.iload 4, 2) := by decide +kernel
theorem d145_293 : decode (mm_cb 145) 293 = .ok (.iconst 2, 1) := by decide +kernel
theorem d145_294 : decode (mm_cb 145) 294 = .ok (.iadd, 1) := by decide +kernel
theorem d145_295 : decode (mm_cb 145) 295 = .ok (.iaload, 1) := by decide +kernel
theorem d145_296 : decode (mm_cb 145) 296 = .ok (.aload_n 0, 1) := by decide +kernel
theorem d145_297 : decode (mm_cb 145) 297 = .ok (.iload 4, 2) := by decide +kernel
theorem d145_299 : decode (mm_cb 145) 299 = .ok (.iconst 3, 1) := by decide +kernel
theorem d145_300 : decode (mm_cb 145) 300 = .ok (.iadd, 1) := by decide +kernel
theorem d145_301 : decode (mm_cb 145) 301 = .ok (.iaload, 1) := by decide +kernel
theorem d145_302 : decode (mm_cb 145) 302 = .ok (.i2l, 1) := by decide +kernel
theorem d145_303 : decode (mm_cb 145) 303 = .ok (.bipush 32, 2) := by decide +kernel
theorem d145_305 : decode (mm_cb 145) 305 = .ok (.lshl, 1) := by decide +kernel
theorem d145_306 : decode (mm_cb 145) 306 = .ok (.aload_n 0, 1) := by decide +kernel
theorem d145_307 : decode (mm_cb 145) 307 = .ok (.iload 4, 2) := by decide +kernel
theorem d145_309 : decode (mm_cb 145) 309 = .ok (.iconst 4, 1) := by decide +kernel
theorem d145_310 : decode (mm_cb 145) 310 = .ok (.iadd, 1) := by decide +kernel
theorem d145_311 : decode (mm_cb 145) 311 = .ok (.iaload, 1) := by decide +kernel
theorem d145_312 : decode (mm_cb 145) 312 = .ok (.i2l, 1) := by decide +kernel
theorem d145_313 : decode (mm_cb 145) 313 = .ok (.ldc2_w 69, 3) := by decide +kernel
theorem d145_316 : decode (mm_cb 145) 316 = .ok (.land, 1) := by decide +kernel
theorem d145_317 : decode (mm_cb 145) 317 = .ok (.lor, 1) := by decide +kernel
theorem d145_318 : decode (mm_cb 145) 318 = .ok (.aload_n 3, 1) := by decide +kernel
theorem d145_319 : decode (mm_cb 145) 319 = .ok (.invokestatic 71, 3) := by decide +kernel
theorem d145_322 : decode (mm_cb 145) 322 = .ok (.istore 5, 2) := by decide +kernel
theorem d145_324 : decode (mm_cb 145) 324 = .ok (.aload_n 2, 1) := by decide +kernel
theorem d145_325 : decode (mm_cb 145) 325 = .ok (.aload_n 0, 1) := by decide +kernel
theorem d145_326 : decode (mm_cb 145) 326 = .ok (.iload 4, 2) := by decide +kernel
theorem d145_328 : decode (mm_cb 145) 328 = .ok (.iconst 1, 1) := by decide +kernel
theorem d145_329 : decode (mm_cb 145) 329 = .ok (.iadd, 1) := by decide +kernel
theorem d145_330 : decode (mm_cb 145) 330 = .ok (.iaload, 1) := by decide +kernel
theorem d145_331 : decode (mm_cb 145) 331 = .ok (.aload_n 0, 1) := by decide +kernel
theorem d145_332 : decode (mm_cb 145) 332 = .ok (.iload 4, 2) := by decide +kernel
theorem d145_334 : decode (mm_cb 145) 334 = .ok (.iconst 2, 1) := by decide +kernel
theorem d145_335 : decode (mm_cb 145) 335 = .ok (.iadd, 1) := by decide +kernel
theorem d145_336 : decode (mm_cb 145) 336 = .ok (.iaload, 1) := by decide +kernel
theorem d145_337 : decode (mm_cb 145) 337 = .ok (.aload_n 0, 1) := by decide +kernel
theorem d145_338 : decode (mm_cb 145) 338 = .ok (.iload 4, 2) := by decide +kernel
theorem d145_340 : decode (mm_cb 145) 340 = .ok (.iconst 3, 1) := by decide +kernel
theorem d145_341 : decode (mm_cb 145) 341 = .ok (.iadd, 1) := by decide +kernel
theorem d145_342 : decode (mm_cb 145) 342 = .ok (.iaload, 1) := by decide +kernel
theorem d145_343 : decode (mm_cb 145) 343 = .ok (.i2l, 1) := by decide +kernel
theorem d145_344 : decode (mm_cb 145) 344 = .ok (.bipush 32, 2) := by decide +kernel
theorem d145_346 : decode (mm_cb 145) 346 = .ok (.lshl, 1) := by decide +kernel
theorem d145_347 : decode (mm_cb 145) 347 = .ok (.aload_n 0, 1) := by decide +kernel
theorem d145_348 : decode (mm_cb 145) 348 = .ok (.iload 4, 2) := by decide +kernel
theorem d145_350 : decode (mm_cb 145) 350 = .ok (.iconst 4, 1) := by decide +kernel
theorem d145_351 : decode (mm_cb 145) 351 = .ok (.iadd, 1) := by decide +kernel
theorem d145_352 : decode (mm_cb 145) 352 = .ok (.iaload, 1) := by decide +kernel
theorem d145_353 : decode (mm_cb 145) 353 = .ok (.i2l, 1) := by decide +kernel
theorem d145_354 : decode (mm_cb 145) 354 = .ok (.ldc2_w 69, 3) := by decide +kernel
theorem d145_357 : decode (mm_cb 145) 357 = .ok (.land, 1) := by decide +kernel
theorem d145_358 : decode (mm_cb 145) 358 = .ok (.lor, 1) := by decide +kernel
theorem d145_359 : decode (mm_cb 145) 359 = .ok (.invokevirtual 74, 3) := by decide +kernel
theorem d145_362 : decode (mm_cb 145) 362 = .ok (.istore 6, 2) := by decide +kernel
theorem d145_364 : decode (mm_cb 145) 364 = .ok (.aload_n 2, 1) := by decide +kernel
theorem d145_365 : decode (mm_cb 145) 365 = .ok (.invokevirtual 61, 3) := by decide +kernel
theorem d145_368 : decode (mm_cb 145) 368 = .ok (.iload 5, 2) := by decide +kernel
theorem d145_370 : decode (mm_cb 145) 370 = .ok (.if_icmp .eq 5, 3) := by decide +kernel
theorem d145_373 : decode (mm_cb 145) 373 = .ok (.iconst 0, 1) := by decide +kernel
theorem d145_374 : decode (mm_cb 145) 374 = .ok (.ireturn, 1) := by decide +kernel
theorem d145_375 : decode (mm_cb 145) 375 = .ok (.iload 5, 2) := by decide +kernel
theorem d145_377 : decode (mm_cb 145) 377 = .ok (.ifCond .ne 15, 3) := by decide +kernel
theorem d145_380 : decode (mm_cb 145) 380 = .ok (.aload_n 3, 1) := by decide +kernel
theorem d145_381 : decode (mm_cb 145) 381 = .ok (.iconst 0, 1) := by decide +kernel
theorem d145_382 : decode (mm_cb 145) 382 = .ok (.laload, 1) := by decide +kernel
theorem d145_383 : decode (mm_cb 145) 383 = .ok (.iload 6, 2) := by decide +kernel
theorem d145_385 : decode (mm_cb 145) 385 = .ok (.i2l, 1) := by decide +kernel
theorem d145_386 : decode (mm_cb 145) 386 = .ok (.lcmp, 1) := by decide +kernel
theorem d145_387 : decode (mm_cb 145) 387 = .ok (.ifCond .eq 5, 3) := by decide +kernel
theorem d145_390 : decode (mm_cb 145) 390 = .ok (.iconst 0, 1) := by decide +kernel
theorem d145_391 : decode (mm_cb 145) 391 = .ok (.ireturn, 1) := by decide +kernel
theorem d145_392 : decode (mm_cb 145) 392 = .ok (.goto 580, 3) := by decide +kernel
theorem d145_395 : decode (mm_cb 145) 395 = .ok (.aload_n 1, 1) := by decide +kernel
theorem d145_396 : decode (mm_cb 145) 396 = .ok (.aload_n 0, 1) := by decide +kernel
theorem d145_397 : decode (mm_cb 145) 397 = .ok (.iload 4, 2) := by decide +kernel
theorem d145_399 : decode (mm_cb 145) 399 = .ok (.iconst 1, 1) := by decide +kernel
theorem d145_400 : decode (mm_cb 145) 400 = .ok (.iadd, 1) := by decide +kernel
theorem d145_401 : decode (mm_cb 145) 401 = .ok (.iaload, 1) := by decide +kernel
theorem d145_402 : decode (mm_cb 145) 402 = .ok (.aload_n 0, 1) := by decide +kernel
theorem d145_403 : decode (mm_cb 145) 403 = .ok (.iload 4, 2) := by decide +kernel
theorem d145_405 : decode (mm_cb 145) 405 = .ok (.iconst 2, 1) := by decide +kernel
theorem d145_406 : decode (mm_cb 145) 406 = .ok (.iadd, 1) := by decide +kernel
theorem d145_407 : decode (mm_cb 145) 407 = .ok (.iaload, 1) := by decide +kernel
theorem d145_408 : decode (mm_cb 145) 408 = .ok (.aload_n 3, 1) := by decide +kernel
theorem d145_409 : decode (mm_cb 145) 409 = .ok (.invokestatic 75, 3) := by decide +kernel
theorem d145_412 : decode (mm_cb 145) 412 = .ok (.istore 5, 2) := by decide +kernel
theorem d145_414 : decode (mm_cb 145) 414 = .ok (.aload_n 2, 1) := by decide +kernel
theorem d145_415 : decode (mm_cb 145) 415 = .ok (.aload_n 0, 1) := by decide +kernel
theorem d145_416 : decode (mm_cb 145) 416 = .ok (.iload 4, 2) := by decide +kernel
theorem d145_418 : decode (mm_cb 145) 418 = .ok (.iconst 1, 1) := by decide +kernel
theorem d145_419 : decode (mm_cb 145) 419 = .ok (.iadd, 1) := by decide +kernel
theorem d145_420 : decode (mm_cb 145) 420 = .ok (.iaload, 1) := by decide +kernel
theorem d145_421 : decode (mm_cb 145) 421 = .ok (.aload_n 0, 1) := by decide +kernel
theorem d145_422 : decode (mm_cb 145) 422 = .ok (.iload 4, 2) := by decide +kernel
theorem d145_424 : decode (mm_cb 145) 424 = .ok (.iconst 2, 1) := by decide +kernel
theorem d145_425 : decode (mm_cb 145) 425 = .ok (.iadd, 1) := by decide +kernel
theorem d145_426 : decode (mm_cb 145) 426 = .ok (.iaload, 1) := by decide +kernel
theorem d145_427 : decode (mm_cb 145) 427 = .ok (.invokevirtual 77, 3) := by decide +kernel
theorem d145_430 : decode (mm_cb 145) 430 = .ok (.lstore 6, 2) := by decide +kernel
theorem d145_432 : decode (mm_cb 145) 432 = .ok (.aload_n 2, 1) := by decide +kernel
theorem d145_433 : decode (mm_cb 145) 433 = .ok (.invokevirtual 61, 3) := by decide +kernel
theorem d145_436 : decode (mm_cb 145) 436 = .ok (.iload 5, 2) := by decide +kernel
theorem d145_438 : decode (mm_cb 145) 438 = .ok (.if_icmp .eq 5, 3) := by decide +kernel
theorem d145_441 : decode (mm_cb 145) 441 = .ok (.iconst 0, 1) := by decide +kernel
theorem d145_442 : decode (mm_cb 145) 442 = .ok (.ireturn, 1) := by decide +kernel
theorem d145_443 : decode (mm_cb 145) 443 = .ok (.iload 5, 2) := by decide +kernel
theorem d145_445 : decode (mm_cb 145) 445 = .ok (.ifCond .ne 14, 3) := by decide +kernel
theorem d145_448 : decode (mm_cb 145) 448 = .ok (.aload_n 3, 1) := by decide +kernel
theorem d145_449 : decode (mm_cb 145) 449 = .ok (.iconst 0, 1) := by decide +kernel
theorem d145_450 : decode (mm_cb 145) 450 = .ok (.laload, 1) := by decide +kernel
theorem d145_451 : decode (mm_cb 145) 451 = .ok (.lload 6, 2) := by decide +kernel
theorem d145_453 : decode (mm_cb 145) 453 = .ok (.lcmp, 1) := by decide +kernel
theorem d145_454 : decode (mm_cb 145) 454 = .ok (.ifCond .eq 5, 3) := by decide +kernel
theorem d145_457 : decode (mm_cb 145) 457 = .ok (.iconst 0, 1) := by decide +kernel
theorem d145_458 : decode (mm_cb 145) 458 = .ok (.ireturn, 1) := by decide +kernel
theorem d145_459 : decode (mm_cb 145) 459 = .ok (.goto 513, 3) := by decide +kernel
theorem d145_462 : decode (mm_cb 145) 462 = .ok (.aload_n 1, 1) := by decide +kernel
theorem d145_463 : decode (mm_cb 145) 463 = .ok (.aload_n 0, 1) := by decide +kernel
theorem d145_464 : decode (mm_cb 145) 464 = .ok (.iload 4, 2) := by decide +kernel
theorem d145_466 : decode (mm_cb 145) 466 = .ok (.iconst 1, 1) := by decide +kernel
theorem d145_467 : decode (mm_cb 145) 467 = .ok (.iadd, 1) := by decide +kernel
theorem d145_468 : decode (mm_cb 145) 468 = .ok (.iaload, 1) := by decide +kernel
theorem d145_469 : decode (mm_cb 145) 469 = .ok (.aload_n 0, 1) := by decide +kernel
theorem d145_470 : decode (mm_cb 145) 470 = .ok (.iload 4, 2) := by decide +kernel
theorem d145_472 : decode (mm_cb 145) 472 = .ok (.iconst 2, 1) := by decide +kernel
theorem d145_473 : decode (mm_cb 145) 473 = .ok (.iadd, 1) := by decide +kernel
theorem d145_474 : decode (mm_cb 145) 474 = .ok (.iaload, 1) := by decide +kernel
theorem d145_475 : decode (mm_cb 145) 475 = .ok (.aload_n 0, 1) := by decide +kernel
theorem d145_476 : decode (mm_cb 145) 476 = .ok (.iload 4, 2) := by decide +kernel
theorem d145_478 : decode (mm_cb 145) 478 = .ok (.iconst 3, 1) := by decide +kernel
theorem d145_479 : decode (mm_cb 145) 479 = .ok (.iadd, 1) := by decide +kernel
theorem d145_480 : decode (mm_cb 145) 480 = .ok (.iaload, 1) := by decide +kernel
theorem d145_481 : decode (mm_cb 145) 481 = .ok (.i2l, 1) := by decide +kernel
theorem d145_482 : decode (mm_cb 145) 482 = .ok (.bipush 32, 2) := by decide +kernel
theorem d145_484 : decode (mm_cb 145) 484 = .ok (.lshl, 1) := by decide +kernel
theorem d145_485 : decode (mm_cb 145) 485 = .ok (.aload_n 0, 1) := by decide +kernel
theorem d145_486 : decode (mm_cb 145) 486 = .ok (.iload 4, 2) := by decide +kernel
theorem d145_488 : decode (mm_cb 145) 488 = .ok (.iconst 4, 1) := by decide +kernel
theorem d145_489 : decode (mm_cb 145) 489 = .ok (.iadd, 1) := by decide +kernel
theorem d145_490 : decode (mm_cb 145) 490 = .ok (.iaload, 1) := by decide +kernel
theorem d145_491 : decode (mm_cb 145) 491 = .ok (.i2l, 1) := by decide +kernel
theorem d145_492 : decode (mm_cb 145) 492 = .ok (.ldc2_w 69, 3) := by decide +kernel
theorem d145_495 : decode (mm_cb 145) 495 = .ok (.land, 1) := by decide +kernel
theorem d145_496 : decode (mm_cb 145) 496 = .ok (.lor, 1) := by decide +kernel
theorem d145_497 : decode (mm_cb 145) 497 = .ok (.aload_n 3, 1) := by decide +kernel
theorem d145_498 : decode (mm_cb 145) 498 = .ok (.invokestatic 78, 3) := by decide +kernel
theorem d145_501 : decode (mm_cb 145) 501 = .ok (.istore 5, 2) := by decide +kernel
theorem d145_503 : decode (mm_cb 145) 503 = .ok (.aload_n 2, 1) := by decide +kernel
theorem d145_504 : decode (mm_cb 145) 504 = .ok (.aload_n 0, 1) := by decide +kernel
theorem d145_505 : decode (mm_cb 145) 505 = .ok (.iload 4, 2) := by decide +kernel
theorem d145_507 : decode (mm_cb 145) 507 = .ok (.iconst 1, 1) := by decide +kernel
theorem d145_508 : decode (mm_cb 145) 508 = .ok (.iadd, 1) := by decide +kernel
theorem d145_509 : decode (mm_cb 145) 509 = .ok (.iaload, 1) := by decide +kernel
theorem d145_510 : decode (mm_cb 145) 510 = .ok (.aload_n 0, 1) := by decide +kernel
theorem d145_511 : decode (mm_cb 145) 511 = .ok (.iload 4, 2) := by decide +kernel
theorem d145_513 : decode (mm_cb 145) 513 = .ok (.iconst 2, 1) := by decide +kernel
theorem d145_514 : decode (mm_cb 145) 514 = .ok (.iadd, 1) := by decide +kernel
theorem d145_515 : decode (mm_cb 145) 515 = .ok (.iaload, 1) := by decide +kernel
theorem d145_516 : decode (mm_cb 145) 516 = .ok (.aload_n 0, 1) := by decide +kernel
theorem d145_517 : decode (mm_cb 145) 517 = .ok (.iload 4, 2) := by decide +kernel
theorem d145_519 : decode (mm_cb 145) 519 = .ok (.iconst 3, 1) := by decide +kernel
theorem d145_520 : decode (mm_cb 145) 520 = .ok (.iadd, 1) := by decide +kernel
theorem d145_521 : decode (mm_cb 145) 521 = .ok (.iaload, 1) := by decide +kernel
theorem d145_522 : decode (mm_cb 145) 522 = .ok (.i2l, 1) := by decide +kernel
theorem d145_523 : decode (mm_cb 145) 523 = .ok (.bipush 32, 2) := by decide +kernel
theorem d145_525 : decode (mm_cb 145) 525 = .ok (.lshl, 1) := by decide +kernel
theorem d145_526 : decode (mm_cb 145) 526 = .ok (.aload_n 0, 1) := by decide +kernel
theorem d145_527 : decode (mm_cb 145) 527 = .ok (.iload 4, 2) := by decide +kernel
theorem d145_529 : decode (mm_cb 145) 529 = .ok (.iconst 4, 1) := by decide +kernel
theorem d145_530 : decode (mm_cb 145) 530 = .ok (.iadd, 1) := by decide +kernel
theorem d145_531 : decode (mm_cb 145) 531 = .ok (.iaload, 1) := by decide +kernel
theorem d145_532 : decode (mm_cb 145) 532 = .ok (.i2l, 1) := by decide +kernel
theorem d145_533 : decode (mm_cb 145) 533 = .ok (.ldc2_w 69, 3) := by decide +kernel
theorem d145_536 : decode (mm_cb 145) 536 = .ok (.land, 1) := by decide +kernel
theorem d145_537 : decode (mm_cb 145) 537 = .ok (.lor, 1) := by decide +kernel
theorem d145_538 : decode (mm_cb 145) 538 = .ok (.invokevirtual 80, 3) := by decide +kernel
theorem d145_541 : decode (mm_cb 145) 541 = .ok (.istore 6, 2) := by decide +kernel
theorem d145_543 : decode (mm_cb 145) 543 = .ok (.aload_n 2, 1) := by decide +kernel
theorem d145_544 : decode (mm_cb 145) 544 = .ok (.invokevirtual 61, 3) := by decide +kernel
theorem d145_547 : decode (mm_cb 145) 547 = .ok (.iload 5, 2) := by decide +kernel
theorem d145_549 : decode (mm_cb 145) 549 = .ok (.if_icmp .eq 5, 3) := by decide +kernel
theorem d145_552 : decode (mm_cb 145) 552 = .ok (.iconst 0, 1) := by decide +kernel
theorem d145_553 : decode (mm_cb 145) 553 = .ok (.ireturn, 1) := by decide +kernel
theorem d145_554 : decode (mm_cb 145) 554 = .ok (.iload 5, 2) := by decide +kernel
theorem d145_556 : decode (mm_cb 145) 556 = .ok (.ifCond .ne 15, 3) := by decide +kernel
theorem d145_559 : decode (mm_cb 145) 559 = .ok (.aload_n 3, 1) := by decide +kernel
theorem d145_560 : decode (mm_cb 145) 560 = .ok (.iconst 0, 1) := by decide +kernel
theorem d145_561 : decode (mm_cb 145) 561 = .ok (.laload, 1) := by decide +kernel
theorem d145_562 : decode (mm_cb 145) 562 = .ok (.iload 6, 2) := by decide +kernel
theorem d145_564 : decode (mm_cb 145) 564 = .ok (.i2l, 1) := by decide +kernel
theorem d145_565 : decode (mm_cb 145) 565 = .ok (.lcmp, 1) := by decide +kernel
theorem d145_566 : decode (mm_cb 145) 566 = .ok (.ifCond .eq 5, 3) := by decide +kernel
theorem d145_569 : decode (mm_cb 145) 569 = .ok (.iconst 0, 1) := by decide +kernel
theorem d145_570 : decode (mm_cb 145) 570 = .ok (.ireturn, 1) := by decide +kernel
theorem d145_571 : decode (mm_cb 145) 571 = .ok (.goto 401, 3) := by decide +kernel
theorem d145_574 : decode (mm_cb 145) 574 = .ok (.aload_n 1, 1) := by decide +kernel
theorem d145_575 : decode (mm_cb 145) 575 = .ok (.aload_n 0, 1) := by decide +kernel
theorem d145_576 : decode (mm_cb 145) 576 = .ok (.iload 4, 2) := by decide +kernel
theorem d145_578 : decode (mm_cb 145) 578 = .ok (.iconst 1, 1) := by decide +kernel
theorem d145_579 : decode (mm_cb 145) 579 = .ok (.iadd, 1) := by decide +kernel
theorem d145_580 : decode (mm_cb 145) 580 = .ok (.iaload, 1) := by decide +kernel
theorem d145_581 : decode (mm_cb 145) 581 = .ok (.invokevirtual 81, 3) := by decide +kernel
theorem d145_584 : decode (mm_cb 145) 584 = .ok (.aload_n 2, 1) := by decide +kernel
theorem d145_585 : decode (mm_cb 145) 585 = .ok (.aload_n 0, 1) := by decide +kernel
theorem d145_586 : decode (mm_cb 145) 586 = .ok (.iload 4, 2) := by decide +kernel
theorem d145_588 : decode (mm_cb 145) 588 = .ok (.iconst 1, 1) := by decide +kernel
theorem d145_589 : decode (mm_cb 145) 589 = .ok (.iadd, 1) := by decide +kernel
theorem d145_590 : decode (mm_cb 145) 590 = .ok (.iaload, 1) := by decide +kernel
theorem d145_591 : decode (mm_cb 145) 591 = .ok (.invokevirtual 84, 3) := by decide +kernel
theorem d145_594 : decode (mm_cb 145) 594 = .ok (.if_icmp .eq 378, 3) := by decide +kernel
theorem d145_597 : decode (mm_cb 145) 597 = .ok (.iconst 0, 1) := by decide +kernel
theorem d145_598 : decode (mm_cb 145) 598 = .ok (.ireturn, 1) := by decide +kernel
theorem d145_599 : decode (mm_cb 145) 599 = .ok (.aload_n 1, 1) := by decide +kernel
theorem d145_600 : decode (mm_cb 145) 600 = .ok (.aload_n 0, 1) := by decide +kernel
theorem d145_601 : decode (mm_cb 145) 601 = .ok (.iload 4, 2) := by decide +kernel
theorem d145_603 : decode (mm_cb 145) 603 = .ok (.iconst 1, 1) := by decide +kernel
theorem d145_604 : decode (mm_cb 145) 604 = .ok (.iadd, 1) := by decide +kernel
theorem d145_605 : decode (mm_cb 145) 605 = .ok (.iaload, 1) := by decide +kernel
theorem d145_606 : decode (mm_cb 145) 606 = .ok (.aload_n 0, 1) := by decide +kernel
theorem d145_607 : decode (mm_cb 145) 607 = .ok (.iload 4, 2) := by decide +kernel
theorem d145_609 : decode (mm_cb 145) 609 = .ok (.iconst 2, 1) := by decide +kernel
theorem d145_610 : decode (mm_cb 145) 610 = .ok (.iadd, 1) := by decide +kernel
theorem d145_611 : decode (mm_cb 145) 611 = .ok (.iaload, 1) := by decide +kernel
theorem d145_612 : decode (mm_cb 145) 612 = .ok (.aload_n 3, 1) := by decide +kernel
theorem d145_613 : decode (mm_cb 145) 613 = .ok (.invokestatic 85, 3) := by decide +kernel
theorem d145_616 : decode (mm_cb 145) 616 = .ok (.istore 5, 2) := by decide +kernel
theorem d145_618 : decode (mm_cb 145) 618 = .ok (.aload_n 2, 1) := by decide +kernel
theorem d145_619 : decode (mm_cb 145) 619 = .ok (.aload_n 0, 1) := by decide +kernel
theorem d145_620 : decode (mm_cb 145) 620 = .ok (.iload 4, 2) := by decide +kernel
theorem d145_622 : decode (mm_cb 145) 622 = .ok (.iconst 1, 1) := by decide +kernel
theorem d145_623 : decode (mm_cb 145) 623 = .ok (.iadd, 1) := by decide +kernel
theorem d145_624 : decode (mm_cb 145) 624 = .ok (.iaload, 1) := by decide +kernel
theorem d145_625 : decode (mm_cb 145) 625 = .ok (.aload_n 0, 1) := by decide +kernel
theorem d145_626 : decode (mm_cb 145) 626 = .ok (.iload 4, 2) := by decide +kernel
theorem d145_628 : decode (mm_cb 145) 628 = .ok (.iconst 2, 1) := by decide +kernel
theorem d145_629 : decode (mm_cb 145) 629 = .ok (.iadd, 1) := by decide +kernel
theorem d145_630 : decode (mm_cb 145) 630 = .ok (.iaload, 1) := by decide +kernel
theorem d145_631 : decode (mm_cb 145) 631 = .ok (.invokevirtual 87, 3) := by decide +kernel
theorem d145_634 : decode (mm_cb 145) 634 = .ok (.istore 6, 2) := by decide +kernel
theorem d145_636 : decode (mm_cb 145) 636 = .ok (.aload_n 2, 1) := by decide +kernel
theorem d145_637 : decode (mm_cb 145) 637 = .ok (.invokevirtual 61, 3) := by decide +kernel
theorem d145_640 : decode (mm_cb 145) 640 = .ok (.iload 5, 2) := by decide +kernel
theorem d145_642 : decode (mm_cb 145) 642 = .ok (.if_icmp .eq 5, 3) := by decide +kernel
theorem d145_645 : decode (mm_cb 145) 645 = .ok (.iconst 0, 1) := by decide +kernel
theorem d145_646 : decode (mm_cb 145) 646 = .ok (.ireturn, 1) := by decide +kernel
theorem d145_647 : decode (mm_cb 145) 647 = .ok (.iload 5, 2) := by decide +kernel
theorem d145_649 : decode (mm_cb 145) 649 = .ok (.ifCond .ne 15, 3) := by decide +kernel
theorem d145_652 : decode (mm_cb 145) 652 = .ok (.aload_n 3, 1) := by decide +kernel
theorem d145_653 : decode (mm_cb 145) 653 = .ok (.iconst 0, 1) := by decide +kernel
theorem d145_654 : decode (mm_cb 145) 654 = .ok (.laload, 1) := by decide +kernel
theorem d145_655 : decode (mm_cb 145) 655 = .ok (.iload 6, 2) := by decide +kernel
theorem d145_657 : decode (mm_cb 145) 657 = .ok (.i2l, 1) := by decide +kernel
theorem d145_658 : decode (mm_cb 145) 658 = .ok (.lcmp, 1) := by decide +kernel
theorem d145_659 : decode (mm_cb 145) 659 = .ok (.ifCond .eq 5, 3) := by decide +kernel
theorem d145_662 : decode (mm_cb 145) 662 = .ok (.iconst 0, 1) := by decide +kernel
theorem d145_663 : decode (mm_cb 145) 663 = .ok (.ireturn, 1) := by decide +kernel
theorem d145_664 : decode (mm_cb 145) 664 = .ok (.goto 308, 3) := by decide +kernel
theorem d145_667 : decode (mm_cb 145) 667 = .ok (.aload_n 1, 1) := by decide +kernel
theorem d145_668 : decode (mm_cb 145) 668 = .ok (.aload_n 0, 1) := by decide +kernel
theorem d145_669 : decode (mm_cb 145) 669 = .ok (.iload 4, 2) := by decide +kernel
theorem d145_671 : decode (mm_cb 145) 671 = .ok (.iconst 1, 1) := by decide +kernel
theorem d145_672 : decode (mm_cb 145) 672 = .ok (.iadd, 1) := by decide +kernel
theorem d145_673 : decode (mm_cb 145) 673 = .ok (.iaload, 1) := by decide +kernel
theorem d145_674 : decode (mm_cb 145) 674 = .ok (.aload_n 0, 1) := by decide +kernel
theorem d145_675 : decode (mm_cb 145) 675 = .ok (.iload 4, 2) := by decide +kernel
theorem d145_677 : decode (mm_cb 145) 677 = .ok (.iconst 2, 1) := by decide +kernel
theorem d145_678 : decode (mm_cb 145) 678 = .ok (.iadd, 1) := by decide +kernel
theorem d145_679 : decode (mm_cb 145) 679 = .ok (.iaload, 1) := by decide +kernel
theorem d145_680 : decode (mm_cb 145) 680 = .ok (.aload_n 3, 1) := by decide +kernel
theorem d145_681 : decode (mm_cb 145) 681 = .ok (.invokestatic 88, 3) := by decide +kernel
theorem d145_684 : decode (mm_cb 145) 684 = .ok (.istore 5, 2) := by decide +kernel
theorem d145_686 : decode (mm_cb 145) 686 = .ok (.aload_n 2, 1) := by decide +kernel
theorem d145_687 : decode (mm_cb 145) 687 = .ok (.aload_n 0, 1) := by decide +kernel
theorem d145_688 : decode (mm_cb 145) 688 = .ok (.iload 4, 2) := by decide +kernel
theorem d145_690 : decode (mm_cb 145) 690 = .ok (.iconst 1, 1) := by decide +kernel
theorem d145_691 : decode (mm_cb 145) 691 = .ok (.iadd, 1) := by decide +kernel
theorem d145_692 : decode (mm_cb 145) 692 = .ok (.iaload, 1) := by decide +kernel
theorem d145_693 : decode (mm_cb 145) 693 = .ok (.aload_n 0, 1) := by decide +kernel
theorem d145_694 : decode (mm_cb 145) 694 = .ok (.iload 4, 2) := by decide +kernel
theorem d145_696 : decode (mm_cb 145) 696 = .ok (.iconst 2, 1) := by decide +kernel
theorem d145_697 : decode (mm_cb 145) 697 = .ok (.iadd, 1) := by decide +kernel
theorem d145_698 : decode (mm_cb 145) 698 = .ok (.iaload, 1) := by decide +kernel
theorem d145_699 : decode (mm_cb 145) 699 = .ok (.invokevirtual 90, 3) := by decide +kernel
theorem d145_702 : decode (mm_cb 145) 702 = .ok (.istore 6, 2) := by decide +kernel
theorem d145_704 : decode (mm_cb 145) 704 = .ok (.aload_n 2, 1) := by decide +kernel
theorem d145_705 : decode (mm_cb 145) 705 = .ok (.invokevirtual 61, 3) := by decide +kernel
theorem d145_708 : decode (mm_cb 145) 708 = .ok (.iload 5, 2) := by decide +kernel
theorem d145_710 : decode (mm_cb 145) 710 = .ok (.if_icmp .eq 5, 3) := by decide +kernel
theorem d145_713 : decode (mm_cb 145) 713 = .ok (.iconst 0, 1) := by decide +kernel
theorem d145_714 : decode (mm_cb 145) 714 = .ok (.ireturn, 1) := by decide +kernel
theorem d145_715 : decode (mm_cb 145) 715 = .ok (.iload 5, 2) := by decide +kernel
theorem d145_717 : decode (mm_cb 145) 717 = .ok (.ifCond .ne 15, 3) := by decide +kernel
theorem d145_720 : decode (mm_cb 145) 720 = .ok (.aload_n 3, 1) := by decide +kernel
theorem d145_721 : decode (mm_cb 145) 721 = .ok (.iconst 0, 1) := by decide +kernel
theorem d145_722 : decode (mm_cb 145) 722 = .ok (.laload, 1) := by decide +kernel
theorem d145_723 : decode (mm_cb 145) 723 = .ok (.iload 6, 2) := by decide +kernel
theorem d145_725 : decode (mm_cb 145) 725 = .ok (.i2l, 1) := by decide +kernel
theorem d145_726 : decode (mm_cb 145) 726 = .ok (.lcmp, 1) := by decide +kernel
theorem d145_727 : decode (mm_cb 145) 727 = .ok (.ifCond .eq 5, 3) := by decide +kernel
theorem d145_730 : decode (mm_cb 145) 730 = .ok (.iconst 0, 1) := by decide +kernel
theorem d145_731 : decode (mm_cb 145) 731 = .ok (.ireturn, 1) := by decide +kernel
theorem d145_732 : decode (mm_cb 145) 732 = .ok (.goto 240, 3) := by decide +kernel
theorem d145_735 : decode (mm_cb 145) 735 = .ok (.aload_n 1, 1) := by decide +kernel
theorem d145_736 : decode (mm_cb 145) 736 = .ok (.aload_n 0, 1) := by decide +kernel
theorem d145_737 : decode (mm_cb 145) 737 = .ok (.iload 4, 2) := by decide +kernel
theorem d145_739 : decode (mm_cb 145) 739 = .ok (.iconst 1, 1) := by decide +kernel
theorem d145_740 : decode (mm_cb 145) 740 = .ok (.iadd, 1) := by decide +kernel
theorem d145_741 : decode (mm_cb 145) 741 = .ok (.iaload, 1) := by decide +kernel
theorem d145_742 : decode (mm_cb 145) 742 = .ok (.aload_n 3, 1) := by decide +kernel
theorem d145_743 : decode (mm_cb 145) 743 = .ok (.invokestatic 91, 3) := by decide +kernel
theorem d145_746 : decode (mm_cb 145) 746 = .ok (.istore 5, 2) := by decide +kernel
theorem d145_748 : decode (mm_cb 145) 748 = .ok (.aload_n 2, 1) := by decide +kernel
theorem d145_749 : decode (mm_cb 145) 749 = .ok (.aload_n 0, 1) := by decide +kernel
theorem d145_750 : decode (mm_cb 145) 750 = .ok (.iload 4, 2) := by decide +kernel
theorem d145_752 : decode (mm_cb 145) 752 = .ok (.iconst 1, 1) := by decide +kernel
theorem d145_753 : decode (mm_cb 145) 753 = .ok (.iadd, 1) := by decide +kernel
theorem d145_754 : decode (mm_cb 145) 754 = .ok (.iaload, 1) := by decide +kernel
theorem d145_755 : decode (mm_cb 145) 755 = .ok (.invokevirtual 94, 3) := by decide +kernel
theorem d145_758 : decode (mm_cb 145) 758 = .ok (.istore 6, 2) := by decide +kernel
theorem d145_760 : decode (mm_cb 145) 760 = .ok (.aload_n 2, 1) := by decide +kernel
theorem d145_761 : decode (mm_cb 145) 761 = .ok (.invokevirtual 61, 3) := by decide +kernel
theorem d145_764 : decode (mm_cb 145) 764 = .ok (.iload 5, 2) := by decide +kernel
theorem d145_766 : decode (mm_cb 145) 766 = .ok (.if_icmp .eq 5, 3) := by decide +kernel
theorem d145_769 : decode (mm_cb 145) 769 = .ok (.iconst 0, 1) := by decide +kernel
theorem d145_770 : decode (mm_cb 145) 770 = .ok (.ireturn, 1) := by decide +kernel
theorem d145_771 : decode (mm_cb 145) 771 = .ok (.iload 5, 2) := by decide +kernel
theorem d145_773 : decode (mm_cb 145) 773 = .ok (.ifCond .ne 15, 3) := by decide +kernel
theorem d145_776 : decode (mm_cb 145) 776 = .ok (.aload_n 3, 1) := by decide +kernel
theorem d145_777 : decode (mm_cb 145) 777 = .ok (.iconst 0, 1) := by decide +kernel
theorem d145_778 : decode (mm_cb 145) 778 = .ok (.laload, 1) := by decide +kernel
theorem d145_779 : decode (mm_cb 145) 779 = .ok (.iload 6, 2) := by decide +kernel
theorem d145_781 : decode (mm_cb 145) 781 = .ok (.i2l, 1) := by decide +kernel
theorem d145_782 : decode (mm_cb 145) 782 = .ok (.lcmp, 1) := by decide +kernel
theorem d145_783 : decode (mm_cb 145) 783 = .ok (.ifCond .eq 5, 3) := by decide +kernel
theorem d145_786 : decode (mm_cb 145) 786 = .ok (.iconst 0, 1) := by decide +kernel
theorem d145_787 : decode (mm_cb 145) 787 = .ok (.ireturn, 1) := by decide +kernel
theorem d145_788 : decode (mm_cb 145) 788 = .ok (.goto 184, 3) := by decide +kernel
theorem d145_791 : decode (mm_cb 145) 791 = .ok (.aload_n 1, 1) := by decide +kernel
theorem d145_792 : decode (mm_cb 145) 792 = .ok (.invokevirtual 95, 3) := by decide +kernel
theorem d145_795 : decode (mm_cb 145) 795 = .ok (.aload_n 2, 1) := by decide +kernel
theorem d145_796 : decode (mm_cb 145) 796 = .ok (.invokevirtual 98, 3) := by decide +kernel
theorem d145_799 : decode (mm_cb 145) 799 = .ok (.goto 173, 3) := by decide +kernel
theorem d145_802 : decode (mm_cb 145) 802 = .ok (.aload_n 1, 1) := by decide +kernel
theorem d145_803 : decode (mm_cb 145) 803 = .ok (.aload_n 0, 1) := by decide +kernel
theorem d145_804 : decode (mm_cb 145) 804 = .ok (.iload 4, 2) := by decide +kernel
theorem d145_806 : decode (mm_cb 145) 806 = .ok (.iconst 1, 1) := by decide +kernel
theorem d145_807 : decode (mm_cb 145) 807 = .ok (.iadd, 1) := by decide +kernel
theorem d145_808 : decode (mm_cb 145) 808 = .ok (.iaload, 1) := by decide +kernel
theorem d145_809 : decode (mm_cb 145) 809 = .ok (.aload_n 0, 1) := by decide +kernel
theorem d145_810 : decode (mm_cb 145) 810 = .ok (.iload 4, 2) := by decide +kernel
theorem d145_812 : decode (mm_cb 145) 812 = .ok (.iconst 2, 1) := by decide +kernel
theorem d145_813 : decode (mm_cb 145) 813 = .ok (.iadd, 1) := by decide +kernel
theorem d145_814 : decode (mm_cb 145) 814 = .ok (.iaload, 1) := by decide +kernel
theorem d145_815 : decode (mm_cb 145) 815 = .ok (.aload_n 3, 1) := by decide +kernel
theorem d145_816 : decode (mm_cb 145) 816 = .ok (.invokestatic 99, 3) := by decide +kernel
theorem d145_819 : decode (mm_cb 145) 819 = .ok (.istore 5, 2) := by decide +kernel
theorem d145_821 : decode (mm_cb 145) 821 = .ok (.aload_n 2, 1) := by decide +kernel
theorem d145_822 : decode (mm_cb 145) 822 = .ok (.aload_n 0, 1) := by decide +kernel
theorem d145_823 : decode (mm_cb 145) 823 = .ok (.iload 4, 2) := by decide +kernel
theorem d145_825 : decode (mm_cb 145) 825 = .ok (.iconst 1, 1) := by decide +kernel
theorem d145_826 : decode (mm_cb 145) 826 = .ok (.iadd, 1) := by decide +kernel
theorem d145_827 : decode (mm_cb 145) 827 = .ok (.iaload, 1) := by decide +kernel
theorem d145_828 : decode (mm_cb 145) 828 = .ok (.aload_n 0, 1) := by decide +kernel
theorem d145_829 : decode (mm_cb 145) 829 = .ok (.iload 4, 2) := by decide +kernel
theorem d145_831 : decode (mm_cb 145) 831 = .ok (.iconst 2, 1) := by decide +kernel
theorem d145_832 : decode (mm_cb 145) 832 = .ok (.iadd, 1) := by decide +kernel
theorem d145_833 : decode (mm_cb 145) 833 = .ok (.iaload, 1) := by decide +kernel
theorem d145_834 : decode (mm_cb 145) 834 = .ok (.invokevirtual 101, 3) := by decide +kernel
theorem d145_837 : decode (mm_cb 145) 837 = .ok (.istore 6, 2) := by decide +kernel
theorem d145_839 : decode (mm_cb 145) 839 = .ok (.aload_n 2, 1) := by decide +kernel
theorem d145_840 : decode (mm_cb 145) 840 = .ok (.invokevirtual 61, 3) := by decide +kernel
theorem d145_843 : decode (mm_cb 145) 843 = .ok (.iload 5, 2) := by decide +kernel
theorem d145_845 : decode (mm_cb 145) 845 = .ok (.if_icmp .eq 5, 3) := by decide +kernel
theorem d145_848 : decode (mm_cb 145) 848 = .ok (.iconst 0, 1) := by decide +kernel
theorem d145_849 : decode (mm_cb 145) 849 = .ok (.ireturn, 1) := by decide +kernel
theorem d145_850 : decode (mm_cb 145) 850 = .ok (.iload 5, 2) := by decide +kernel
theorem d145_852 : decode (mm_cb 145) 852 = .ok (.ifCond .ne 15, 3) := by decide +kernel
theorem d145_855 : decode (mm_cb 145) 855 = .ok (.aload_n 3, 1) := by decide +kernel
theorem d145_856 : decode (mm_cb 145) 856 = .ok (.iconst 0, 1) := by decide +kernel
theorem d145_857 : decode (mm_cb 145) 857 = .ok (.laload, 1) := by decide +kernel
theorem d145_858 : decode (mm_cb 145) 858 = .ok (.iload 6, 2) := by decide +kernel
theorem d145_860 : decode (mm_cb 145) 860 = .ok (.i2l, 1) := by decide +kernel
theorem d145_861 : decode (mm_cb 145) 861 = .ok (.lcmp, 1) := by decide +kernel
theorem d145_862 : decode (mm_cb 145) 862 = .ok (.ifCond .eq 5, 3) := by decide +kernel
theorem d145_865 : decode (mm_cb 145) 865 = .ok (.iconst 0, 1) := by decide +kernel
theorem d145_866 : decode (mm_cb 145) 866 = .ok (.ireturn, 1) := by decide +kernel
theorem d145_867 : decode (mm_cb 145) 867 = .ok (.goto 105, 3) := by decide +kernel
theorem d145_870 : decode (mm_cb 145) 870 = .ok (.aload_n 1, 1) := by decide +kernel
theorem d145_871 : decode (mm_cb 145) 871 = .ok (.aload_n 0, 1) := by decide +kernel
theorem d145_872 : decode (mm_cb 145) 872 = .ok (.iload 4, 2) := by decide +kernel
theorem d145_874 : decode (mm_cb 145) 874 = .ok (.iconst 1, 1) := by decide +kernel
theorem d145_875 : decode (mm_cb 145) 875 = .ok (.iadd, 1) := by decide +kernel
theorem d145_876 : decode (mm_cb 145) 876 = .ok (.iaload, 1) := by decide +kernel
theorem d145_877 : decode (mm_cb 145) 877 = .ok (.aload_n 0, 1) := by decide +kernel
theorem d145_878 : decode (mm_cb 145) 878 = .ok (.iload 4, 2) := by decide +kernel
theorem d145_880 : decode (mm_cb 145) 880 = .ok (.iconst 2, 1) := by decide +kernel
theorem d145_881 : decode (mm_cb 145) 881 = .ok (.iadd, 1) := by decide +kernel
theorem d145_882 : decode (mm_cb 145) 882 = .ok (.iaload, 1) := by decide +kernel
theorem d145_883 : decode (mm_cb 145) 883 = .ok (.aload_n 3, 1) := by decide +kernel
theorem d145_884 : decode (mm_cb 145) 884 = .ok (.invokestatic 102, 3) := by decide +kernel
theorem d145_887 : decode (mm_cb 145) 887 = .ok (.istore 5, 2) := by decide +kernel
theorem d145_889 : decode (mm_cb 145) 889 = .ok (.aload_n 2, 1) := by decide +kernel
theorem d145_890 : decode (mm_cb 145) 890 = .ok (.aload_n 0, 1) := by decide +kernel
theorem d145_891 : decode (mm_cb 145) 891 = .ok (.iload 4, 2) := by decide +kernel
theorem d145_893 : decode (mm_cb 145) 893 = .ok (.iconst 1, 1) := by decide +kernel
theorem d145_894 : decode (mm_cb 145) 894 = .ok (.iadd, 1) := by decide +kernel
theorem d145_895 : decode (mm_cb 145) 895 = .ok (.iaload, 1) := by decide +kernel
theorem d145_896 : decode (mm_cb 145) 896 = .ok (.aload_n 0, 1) := by decide +kernel
theorem d145_897 : decode (mm_cb 145) 897 = .ok (.iload 4, 2) := by decide +kernel
theorem d145_899 : decode (mm_cb 145) 899 = .ok (.iconst 2, 1) := by decide +kernel
theorem d145_900 : decode (mm_cb 145) 900 = .ok (.iadd, 1) := by decide +kernel
theorem d145_901 : decode (mm_cb 145) 901 = .ok (.iaload, 1) := by decide +kernel
theorem d145_902 : decode (mm_cb 145) 902 = .ok (.invokevirtual 104, 3) := by decide +kernel
theorem d145_905 : decode (mm_cb 145) 905 = .ok (.istore 6, 2) := by decide +kernel
theorem d145_907 : decode (mm_cb 145) 907 = .ok (.aload_n 2, 1) := by decide +kernel
theorem d145_908 : decode (mm_cb 145) 908 = .ok (.invokevirtual 61, 3) := by decide +kernel
theorem d145_911 : decode (mm_cb 145) 911 = .ok (.iload 5, 2) := by decide +kernel
theorem d145_913 : decode (mm_cb 145) 913 = .ok (.if_icmp .eq 5, 3) := by decide +kernel
theorem d145_916 : decode (mm_cb 145) 916 = .ok (.iconst 0, 1) := by decide +kernel
theorem d145_917 : decode (mm_cb 145) 917 = .ok (.ireturn, 1) := by decide +kernel
theorem d145_918 : decode (mm_cb 145) 918 = .ok (.iload 5, 2) := by decide +kernel
theorem d145_920 : decode (mm_cb 145) 920 = .ok (.ifCond .ne 22, 3) := by decide +kernel
theorem d145_923 : decode (mm_cb 145) 923 = .ok (.aload_n 3, 1) := by decide +kernel
theorem d145_924 : decode (mm_cb 145) 924 = .ok (.iconst 0, 1) := by decide +kernel
theorem d145_925 : decode (mm_cb 145) 925 = .ok (.laload, 1) := by decide +kernel
theorem d145_926 : decode (mm_cb 145) 926 = .ok (.iload 6, 2) := by decide +kernel
theorem d145_928 : decode (mm_cb 145) 928 = .ok (.ifCond .eq 7, 3) := by decide +kernel
theorem d145_931 : decode (mm_cb 145) 931 = .ok (.lconst 1, 1) := by decide +kernel
theorem d145_932 : decode (mm_cb 145) 932 = .ok (.goto 4, 3) := by decide +kernel
theorem d145_935 : decode (mm_cb 145) 935 = .ok (.lconst 0, 1) := by decide +kernel
theorem d145_936 : decode (mm_cb 145) 936 = .ok (.lcmp, 1) := by decide +kernel
theorem d145_937 : decode (mm_cb 145) 937 = .ok (.ifCond .eq 5, 3) := by decide +kernel
theorem d145_940 : decode (mm_cb 145) 940 = .ok (.iconst 0, 1) := by decide +kernel
theorem d145_941 : decode (mm_cb 145) 941 = .ok (.ireturn, 1) := by decide +kernel
theorem d145_942 : decode (mm_cb 145) 942 = .ok (.goto 30, 3) := by decide +kernel
theorem d145_945 : decode (mm_cb 145) 945 = .ok (.aload_n 1, 1) := by decide +kernel
theorem d145_946 : decode (mm_cb 145) 946 = .ok (.invokevirtual 105, 3) := by decide +kernel
theorem d145_949 : decode (mm_cb 145) 949 = .ok (.aload_n 2, 1) := by decide +kernel
theorem d145_950 : decode (mm_cb 145) 950 = .ok (.invokevirtual 108, 3) := by decide +kernel
theorem d145_953 : decode (mm_cb 145) 953 = .ok (.if_icmp .eq 19, 3) := by decide +kernel
theorem d145_956 : decode (mm_cb 145) 956 = .ok (.iconst 0, 1) := by decide +kernel
theorem d145_957 : decode (mm_cb 145) 957 = .ok (.ireturn, 1) := by decide +kernel
theorem d145_958 : decode (mm_cb 145) 958 = .ok (.aload_n 1, 1) := by decide +kernel
theorem d145_959 : decode (mm_cb 145) 959 = .ok (.invokevirtual 109, 3) := by decide +kernel
theorem d145_962 : decode (mm_cb 145) 962 = .ok (.aload_n 2, 1) := by decide +kernel
theorem d145_963 : decode (mm_cb 145) 963 = .ok (.invokevirtual 113, 3) := by decide +kernel
theorem d145_966 : decode (mm_cb 145) 966 = .ok (.lcmp, 1) := by decide +kernel
theorem d145_967 : decode (mm_cb 145) 967 = .ok (.ifCond .eq 5, 3) := by decide +kernel
theorem d145_970 : decode (mm_cb 145) 970 = .ok (.iconst 0, 1) := by decide +kernel
theorem d145_971 : decode (mm_cb 145) 971 = .ok (.ireturn, 1) := by decide +kernel
theorem d145_972 : decode (mm_cb 145) 972 = .ok (.iinc 4 6, 3) := by decide +kernel
theorem d145_975 : decode (mm_cb 145) 975 = .ok (.goto (-952), 3) := by decide +kernel
theorem d145_978 : decode (mm_cb 145) 978 = .ok (.iconst 1, 1) := by decide +kernel
theorem d145_979 : decode (mm_cb 145) 979 = .ok (.ireturn, 1) := by decide +kernel

theorem d_Law_load_0 : decode b_Law_load 0 = .ok (.aload_n 1, 1) := by decide +kernel
theorem d_Law_load_1 : decode b_Law_load 1 = .ok (.iconst 0, 1) := by decide +kernel
theorem d_Law_load_2 : decode b_Law_load 2 = .ok (.aload_n 0, 1) := by decide +kernel
theorem d_Law_load_3 : decode b_Law_load 3 = .ok (.invokevirtual 7, 3) := by decide +kernel
theorem d_Law_load_6 : decode b_Law_load 6 = .ok (.i2l, 1) := by decide +kernel
theorem d_Law_load_7 : decode b_Law_load 7 = .ok (.lastore, 1) := by decide +kernel
theorem d_Law_load_8 : decode b_Law_load 8 = .ok (.goto 6, 3) := by decide +kernel
theorem d_Law_load_11 : decode b_Law_load 11 = .ok (.astore_n 2, 1) := by decide +kernel
theorem d_Law_load_12 : decode b_Law_load 12 = .ok (.iconst 1, 1) := by decide +kernel
theorem d_Law_load_13 : decode b_Law_load 13 = .ok (.ireturn, 1) := by decide +kernel
theorem d_Law_load_14 : decode b_Law_load 14 = .ok (.iconst 0, 1) := by decide +kernel
theorem d_Law_load_15 : decode b_Law_load 15 = .ok (.ireturn, 1) := by decide +kernel
theorem d_Law_register_0 : decode b_Law_register 0 = .ok (.aload_n 3, 1) := by decide +kernel
theorem d_Law_register_1 : decode b_Law_register 1 = .ok (.iconst 0, 1) := by decide +kernel
theorem d_Law_register_2 : decode b_Law_register 2 = .ok (.aload_n 0, 1) := by decide +kernel
theorem d_Law_register_3 : decode b_Law_register 3 = .ok (.iload_n 1, 1) := by decide +kernel
theorem d_Law_register_4 : decode b_Law_register 4 = .ok (.iload_n 2, 1) := by decide +kernel
theorem d_Law_register_5 : decode b_Law_register 5 = .ok (.invokevirtual 15, 3) := by decide +kernel
theorem d_Law_register_8 : decode b_Law_register 8 = .ok (.i2l, 1) := by decide +kernel
theorem d_Law_register_9 : decode b_Law_register 9 = .ok (.lastore, 1) := by decide +kernel
theorem d_Law_register_10 : decode b_Law_register 10 = .ok (.goto 7, 3) := by decide +kernel
theorem d_Law_register_13 : decode b_Law_register 13 = .ok (.astore 4, 2) := by decide +kernel
theorem d_Law_register_15 : decode b_Law_register 15 = .ok (.iconst 1, 1) := by decide +kernel
theorem d_Law_register_16 : decode b_Law_register 16 = .ok (.ireturn, 1) := by decide +kernel
theorem d_Law_register_17 : decode b_Law_register 17 = .ok (.iconst 0, 1) := by decide +kernel
theorem d_Law_register_18 : decode b_Law_register 18 = .ok (.ireturn, 1) := by decide +kernel
theorem d_Law_law_0 : decode code 0 = .ok (.new 8, 3) := by decide +kernel
theorem d_Law_law_3 : decode code 3 = .ok (.dup, 1) := by decide +kernel
theorem d_Law_law_4 : decode code 4 = .ok (.invokespecial 21, 3) := by decide +kernel
theorem d_Law_law_7 : decode code 7 = .ok (.astore_n 1, 1) := by decide +kernel
theorem d_Law_law_8 : decode code 8 = .ok (.new 22, 3) := by decide +kernel
theorem d_Law_law_11 : decode code 11 = .ok (.dup, 1) := by decide +kernel
theorem d_Law_law_12 : decode code 12 = .ok (.invokespecial 24, 3) := by decide +kernel
theorem d_Law_law_15 : decode code 15 = .ok (.astore_n 2, 1) := by decide +kernel
theorem d_Law_law_16 : decode code 16 = .ok (.iconst 1, 1) := by decide +kernel
theorem d_Law_law_17 : decode code 17 = .ok (.newarray .long, 2) := by decide +kernel
theorem d_Law_law_19 : decode code 19 = .ok (.astore_n 3, 1) := by decide +kernel
theorem d_Law_law_20 : decode code 20 = .ok (.iconst 0, 1) := by decide +kernel
theorem d_Law_law_21 : decode code 21 = .ok (.istore 4, 2) := by decide +kernel
theorem d_Law_law_23 : decode code 23 = .ok (.iload 4, 2) := by decide +kernel
theorem d_Law_law_25 : decode code 25 = .ok (.aload_n 0, 1) := by decide +kernel
theorem d_Law_law_26 : decode code 26 = .ok (.arraylength, 1) := by decide +kernel
theorem d_Law_law_27 : decode code 27 = .ok (.iconst 4, 1) := by decide +kernel
theorem d_Law_law_28 : decode code 28 = .ok (.isub, 1) := by decide +kernel
theorem d_Law_law_29 : decode code 29 = .ok (.if_icmp .gt 726, 3) := by decide +kernel
theorem d_Law_law_32 : decode code 32 = .ok (.aload_n 0, 1) := by decide +kernel
theorem d_Law_law_33 : decode code 33 = .ok (.iload 4, 2) := by decide +kernel
theorem d_Law_law_35 : decode code 35 = .ok (.iaload, 1) := by decide +kernel
theorem d_Law_law_36 : decode code 36 = .ok (.bipush 31, 2) := by decide +kernel
theorem d_Law_law_38 : decode code 38 = .ok (.iand, 1) := by decide +kernel
theorem d_Law_law_39 : decode code 39 = .ok (.tableswitch 710 0 18 #[89, 138, 163, 200, 237, 262, 311, 324, 349, 362, 399, 424, 468, 493, 518, 543, 568, 636, 673], 89) := by decide +kernel
theorem d_Law_law_128 : decode code 128 = .ok (.aload_n 1, 1) := by decide +kernel
theorem d_Law_law_129 : decode code 129 = .ok (.aload_n 0, 1) := by decide +kernel
theorem d_Law_law_130 : decode code 130 = .ok (.iload 4, 2) := by decide +kernel
theorem d_Law_law_132 : decode code 132 = .ok (.iconst 1, 1) := by decide +kernel
theorem d_Law_law_133 : decode code 133 = .ok (.iadd, 1) := by decide +kernel
theorem d_Law_law_134 : decode code 134 = .ok (.iaload, 1) := by decide +kernel
theorem d_Law_law_135 : decode code 135 = .ok (.aload_n 0, 1) := by decide +kernel
theorem d_Law_law_136 : decode code 136 = .ok (.iload 4, 2) := by decide +kernel
theorem d_Law_law_138 : decode code 138 = .ok (.iconst 2, 1) := by decide +kernel
theorem d_Law_law_139 : decode code 139 = .ok (.iadd, 1) := by decide +kernel
theorem d_Law_law_140 : decode code 140 = .ok (.iaload, 1) := by decide +kernel
theorem d_Law_law_141 : decode code 141 = .ok (.aload_n 0, 1) := by decide +kernel
theorem d_Law_law_142 : decode code 142 = .ok (.iload 4, 2) := by decide +kernel
theorem d_Law_law_144 : decode code 144 = .ok (.iconst 3, 1) := by decide +kernel
theorem d_Law_law_145 : decode code 145 = .ok (.iadd, 1) := by decide +kernel
theorem d_Law_law_146 : decode code 146 = .ok (.iaload, 1) := by decide +kernel
theorem d_Law_law_147 : decode code 147 = .ok (.invokevirtual 25, 3) := by decide +kernel
theorem d_Law_law_150 : decode code 150 = .ok (.aload_n 2, 1) := by decide +kernel
theorem d_Law_law_151 : decode code 151 = .ok (.aload_n 0, 1) := by decide +kernel
theorem d_Law_law_152 : decode code 152 = .ok (.iload 4, 2) := by decide +kernel
theorem d_Law_law_154 : decode code 154 = .ok (.iconst 1, 1) := by decide +kernel
theorem d_Law_law_155 : decode code 155 = .ok (.iadd, 1) := by decide +kernel
theorem d_Law_law_156 : decode code 156 = .ok (.iaload, 1) := by decide +kernel
theorem d_Law_law_157 : decode code 157 = .ok (.aload_n 0, 1) := by decide +kernel
theorem d_Law_law_158 : decode code 158 = .ok (.iload 4, 2) := by decide +kernel
theorem d_Law_law_160 : decode code 160 = .ok (.iconst 2, 1) := by decide +kernel
theorem d_Law_law_161 : decode code 161 = .ok (.iadd, 1) := by decide +kernel
theorem d_Law_law_162 : decode code 162 = .ok (.iaload, 1) := by decide +kernel
theorem d_Law_law_163 : decode code 163 = .ok (.aload_n 0, 1) := by decide +kernel
theorem d_Law_law_164 : decode code 164 = .ok (.iload 4, 2) := by decide +kernel
theorem d_Law_law_166 : decode code 166 = .ok (.iconst 3, 1) := by decide +kernel
theorem d_Law_law_167 : decode code 167 = .ok (.iadd, 1) := by decide +kernel
theorem d_Law_law_168 : decode code 168 = .ok (.iaload, 1) := by decide +kernel
theorem d_Law_law_169 : decode code 169 = .ok (.invokevirtual 29, 3) := by decide +kernel
theorem d_Law_law_172 : decode code 172 = .ok (.if_icmp .eq 577, 3) := by decide +kernel
theorem d_Law_law_175 : decode code 175 = .ok (.iconst 0, 1) := by decide +kernel
theorem d_Law_law_176 : decode code 176 = .ok (.ireturn, 1) := by decide +kernel
theorem d_Law_law_177 : decode code 177 = .ok (.aload_n 1, 1) := by decide +kernel
theorem d_Law_law_178 : decode code 178 = .ok (.aload_n 0, 1) := by decide +kernel
theorem d_Law_law_179 : decode code 179 = .ok (.iload 4, 2) := by decide +kernel
theorem d_Law_law_181 : decode code 181 = .ok (.iconst 1, 1) := by decide +kernel
theorem d_Law_law_182 : decode code 182 = .ok (.iadd, 1) := by decide +kernel
theorem d_Law_law_183 : decode code 183 = .ok (.iaload, 1) := by decide +kernel
theorem d_Law_law_184 : decode code 184 = .ok (.invokevirtual 30, 3) := by decide +kernel
theorem d_Law_law_187 : decode code 187 = .ok (.aload_n 2, 1) := by decide +kernel
theorem d_Law_law_188 : decode code 188 = .ok (.aload_n 0, 1) := by decide +kernel
theorem d_Law_law_189 : decode code 189 = .ok (.iload 4, 2) := by decide +kernel
theorem d_Law_law_191 : decode code 191 = .ok (.iconst 1, 1) := by decide +kernel
theorem d_Law_law_192 : decode code 192 = .ok (.iadd, 1) := by decide +kernel
theorem d_Law_law_193 : decode code 193 = .ok (.iaload, 1) := by decide +kernel
theorem d_Law_law_194 : decode code 194 = .ok (.invokevirtual 34, 3) := by decide +kernel
theorem d_Law_law_197 : decode code 197 = .ok (.if_icmp .eq 552, 3) := by decide +kernel
theorem d_Law_law_200 : decode code 200 = .ok (.iconst 0, 1) := by decide +kernel
theorem d_Law_law_201 : decode code 201 = .ok (.ireturn, 1) := by decide +kernel
theorem d_Law_law_202 : decode code 202 = .ok (.aload_n 1, 1) := by decide +kernel
theorem d_Law_law_203 : decode code 203 = .ok (.aload_n 0, 1) := by decide +kernel
theorem d_Law_law_204 : decode code 204 = .ok (.iload 4, 2) := by decide +kernel
theorem d_Law_law_206 : decode code 206 = .ok (.iconst 1, 1) := by decide +kernel
theorem d_Law_law_207 : decode code 207 = .ok (.iadd, 1) := by decide +kernel
theorem d_Law_law_208 : decode code 208 = .ok (.iaload, 1) := by decide +kernel
theorem d_Law_law_209 : decode code 209 = .ok (.aload_n 0, 1) := by decide +kernel
theorem d_Law_law_210 : decode code 210 = .ok (.iload 4, 2) := by decide +kernel
theorem d_Law_law_212 : decode code 212 = .ok (.iconst 2, 1) := by decide +kernel
theorem d_Law_law_213 : decode code 213 = .ok (.iadd, 1) := by decide +kernel
theorem d_Law_law_214 : decode code 214 = .ok (.iaload, 1) := by decide +kernel
theorem d_Law_law_215 : decode code 215 = .ok (.invokevirtual 35, 3) := by decide +kernel
theorem d_Law_law_218 : decode code 218 = .ok (.aload_n 2, 1) := by decide +kernel
theorem d_Law_law_219 : decode code 219 = .ok (.aload_n 0, 1) := by decide +kernel
theorem d_Law_law_220 : decode code 220 = .ok (.iload 4, 2) := by decide +kernel
theorem d_Law_law_222 : decode code 222 = .ok (.iconst 1, 1) := by decide +kernel
theorem d_Law_law_223 : decode code 223 = .ok (.iadd, 1) := by decide +kernel
theorem d_Law_law_224 : decode code 224 = .ok (.iaload, 1) := by decide +kernel
theorem d_Law_law_225 : decode code 225 = .ok (.aload_n 0, 1) := by decide +kernel
theorem d_Law_law_226 : decode code 226 = .ok (.iload 4, 2) := by decide +kernel
theorem d_Law_law_228 : decode code 228 = .ok (.iconst 2, 1) := by decide +kernel
theorem d_Law_law_229 : decode code 229 = .ok (.iadd, 1) := by decide +kernel
theorem d_Law_law_230 : decode code 230 = .ok (.iaload, 1) := by decide +kernel
theorem d_Law_law_231 : decode code 231 = .ok (.invokevirtual 39, 3) := by decide +kernel
theorem d_Law_law_234 : decode code 234 = .ok (.if_icmp .eq 515, 3) := by decide +kernel
theorem d_Law_law_237 : decode code 237 = .ok (.iconst 0, 1) := by decide +kernel
theorem d_Law_law_238 : decode code 238 = .ok (.ireturn, 1) := by decide +kernel
theorem d_Law_law_239 : decode code 239 = .ok (.aload_n 1, 1) := by decide +kernel
theorem d_Law_law_240 : decode code 240 = .ok (.aload_n 0, 1) := by decide +kernel
theorem d_Law_law_241 : decode code 241 = .ok (.iload 4, 2) := by decide +kernel
theorem d_Law_law_243 : decode code 243 = .ok (.iconst 1, 1) := by decide +kernel
theorem d_Law_law_244 : decode code 244 = .ok (.iadd, 1) := by decide +kernel
theorem d_Law_law_245 : decode code 245 = .ok (.iaload, 1) := by decide +kernel
theorem d_Law_law_246 : decode code 246 = .ok (.aload_n 0, 1) := by decide +kernel
theorem d_Law_law_247 : decode code 247 = .ok (.iload 4, 2) := by decide +kernel
theorem d_Law_law_249 : decode code 249 = .ok (.iconst 2, 1) := by decide +kernel
theorem d_Law_law_250 : decode code 250 = .ok (.iadd, 1) := by decide +kernel
theorem d_Law_law_251 : decode code 251 = .ok (.iaload, 1) := by decide +kernel
theorem d_Law_law_252 : decode code 252 = .ok (.invokevirtual 40, 3) := by decide +kernel
theorem d_Law_law_255 : decode code 255 = .ok (.aload_n 2, 1) := by decide +kernel
theorem d_Law_law_256 : decode code 256 = .ok (.aload_n 0, 1) := by decide +kernel
theorem d_Law_law_257 : decode code 257 = .ok (.iload 4, 2) := by decide +kernel
theorem d_Law_law_259 : decode code 259 = .ok (.iconst 1, 1) := by decide +kernel
theorem d_Law_law_260 : decode code 260 = .ok (.iadd, 1) := by decide +kernel
theorem d_Law_law_261 : decode code 261 = .ok (.iaload, 1) := by decide +kernel
theorem d_Law_law_262 : decode code 262 = .ok (.aload_n 0, 1) := by decide +kernel
theorem d_Law_law_263 : decode code 263 = .ok (.iload 4, 2) := by decide +kernel
theorem d_Law_law_265 : decode code 265 = .ok (.iconst 2, 1) := by decide +kernel
theorem d_Law_law_266 : decode code 266 = .ok (.iadd, 1) := by decide +kernel
theorem d_Law_law_267 : decode code 267 = .ok (.iaload, 1) := by decide +kernel
theorem d_Law_law_268 : decode code 268 = .ok (.invokevirtual 43, 3) := by decide +kernel
theorem d_Law_law_271 : decode code 271 = .ok (.if_icmp .eq 478, 3) := by decide +kernel
theorem d_Law_law_274 : decode code 274 = .ok (.iconst 0, 1) := by decide +kernel
theorem d_Law_law_275 : decode code 275 = .ok (.ireturn, 1) := by decide +kernel
theorem d_Law_law_276 : decode code 276 = .ok (.aload_n 1, 1) := by decide +kernel
theorem d_Law_law_277 : decode code 277 = .ok (.aload_n 0, 1) := by decide +kernel
theorem d_Law_law_278 : decode code 278 = .ok (.iload 4, 2) := by decide +kernel
theorem d_Law_law_280 : decode code 280 = .ok (.iconst 1, 1) := by decide +kernel
theorem d_Law_law_281 : decode code 281 = .ok (.iadd, 1) := by decide +kernel
theorem d_Law_law_282 : decode code 282 = .ok (.iaload, 1) := by decide +kernel
theorem d_Law_law_283 : decode code 283 = .ok (.invokevirtual 44, 3) := by decide +kernel
theorem d_Law_law_286 : decode code 286 = .ok (.aload_n 2, 1) := by decide +kernel
theorem d_Law_law_287 : decode code 287 = .ok (.aload_n 0, 1) := by decide +kernel
theorem d_Law_law_288 : decode code 288 = .ok (.iload 4, 2) := by decide +kernel
theorem d_Law_law_290 : decode code 290 = .ok (.iconst 1, 1) := by decide +kernel
theorem d_Law_law_291 : decode code 291 = .ok (.iadd, 1) := by decide +kernel
theorem d_Law_law_292 : decode code 292 = .ok (.iaload, 1) := by decide +kernel
theorem d_Law_law_293 : decode code 293 = .ok (.invokevirtual 48, 3) := by decide +kernel
theorem d_Law_law_296 : decode code 296 = .ok (.if_icmp .eq 453, 3) := by decide +kernel
theorem d_Law_law_299 : decode code 299 = .ok (.iconst 0, 1) := by decide +kernel
theorem d_Law_law_300 : decode code 300 = .ok (.ireturn, 1) := by decide +kernel
theorem d_Law_law_301 : decode code 301 = .ok (.aload_n 1, 1) := by decide +kernel
theorem d_Law_law_302 : decode code 302 = .ok (.aload_n 0, 1) := by decide +kernel
theorem d_Law_law_303 : decode code 303 = .ok (.iload 4, 2) := by decide +kernel
theorem d_Law_law_305 : decode code 305 = .ok (.iconst 1, 1) := by decide +kernel
theorem d_Law_law_306 : decode code 306 = .ok (.iadd, 1) := by decide +kernel
theorem d_Law_law_307 : decode code 307 = .ok (.iaload, 1) := by decide +kernel
theorem d_Law_law_308 : decode code 308 = .ok (.aload_n 0, 1) := by decide +kernel
theorem d_Law_law_309 : decode code 309 = .ok (.iload 4, 2) := by decide +kernel
theorem d_Law_law_311 : decode code 311 = .ok (.iconst 2, 1) := by decide +kernel
theorem d_Law_law_312 : decode code 312 = .ok (.iadd, 1) := by decide +kernel
theorem d_Law_law_313 : decode code 313 = .ok (.iaload, 1) := by decide +kernel
theorem d_Law_law_314 : decode code 314 = .ok (.aload_n 0, 1) := by decide +kernel
theorem d_Law_law_315 : decode code 315 = .ok (.iload 4, 2) := by decide +kernel
theorem d_Law_law_317 : decode code 317 = .ok (.iconst 3, 1) := by decide +kernel
theorem d_Law_law_318 : decode code 318 = .ok (.iadd, 1) := by decide +kernel
theorem d_Law_law_319 : decode code 319 = .ok (.iaload, 1) := by decide +kernel
theorem d_Law_law_320 : decode code 320 = .ok (.invokevirtual 49, 3) := by decide +kernel
theorem d_Law_law_323 : decode code 323 = .ok (.aload_n 2, 1) := by decide +kernel
theorem d_Law_law_324 : decode code 324 = .ok (.aload_n 0, 1) := by decide +kernel
theorem d_Law_law_325 : decode code 325 = .ok (.iload 4, 2) := by decide +kernel
theorem d_Law_law_327 : decode code 327 = .ok (.iconst 1, 1) := by decide +kernel
theorem d_Law_law_328 : decode code 328 = .ok (.iadd, 1) := by decide +kernel
theorem d_Law_law_329 : decode code 329 = .ok (.iaload, 1) := by decide +kernel
theorem d_Law_law_330 : decode code 330 = .ok (.aload_n 0, 1) := by decide +kernel
theorem d_Law_law_331 : decode code 331 = .ok (.iload 4, 2) := by decide +kernel
theorem d_Law_law_333 : decode code 333 = .ok (.iconst 2, 1) := by decide +kernel
theorem d_Law_law_334 : decode code 334 = .ok (.iadd, 1) := by decide +kernel
theorem d_Law_law_335 : decode code 335 = .ok (.iaload, 1) := by decide +kernel
theorem d_Law_law_336 : decode code 336 = .ok (.aload_n 0, 1) := by decide +kernel
theorem d_Law_law_337 : decode code 337 = .ok (.iload 4, 2) := by decide +kernel
theorem d_Law_law_339 : decode code 339 = .ok (.iconst 3, 1) := by decide +kernel
theorem d_Law_law_340 : decode code 340 = .ok (.iadd, 1) := by decide +kernel
theorem d_Law_law_341 : decode code 341 = .ok (.iaload, 1) := by decide +kernel
theorem d_Law_law_342 : decode code 342 = .ok (.invokevirtual 52, 3) := by decide +kernel
theorem d_Law_law_345 : decode code 345 = .ok (.if_icmp .eq 404, 3) := by decide +kernel
theorem d_Law_law_348 : decode code 348 = .ok (.iconst 0, 1) := by decide +kernel
theorem d_Law_law_349 : decode code 349 = .ok (.ireturn, 1) := by decide +kernel
theorem d_Law_law_350 : decode code 350 = .ok (.aload_n 1, 1) := by decide +kernel
theorem d_Law_law_351 : decode code 351 = .ok (.invokevirtual 53, 3) := by decide +kernel
theorem d_Law_law_354 : decode code 354 = .ok (.aload_n 2, 1) := by decide +kernel
theorem d_Law_law_355 : decode code 355 = .ok (.invokevirtual 56, 3) := by decide +kernel
theorem d_Law_law_358 : decode code 358 = .ok (.if_icmp .eq 391, 3) := by decide +kernel
theorem d_Law_law_361 : decode code 361 = .ok (.iconst 0, 1) := by decide +kernel
theorem d_Law_law_362 : decode code 362 = .ok (.ireturn, 1) := by decide +kernel
theorem d_Law_law_363 : decode code 363 = .ok (.aload_n 1, 1) := by decide +kernel
theorem d_Law_law_364 : decode code 364 = .ok (.aload_n 0, 1) := by decide +kernel
theorem d_Law_law_365 : decode code 365 = .ok (.iload 4, 2) := by decide +kernel
theorem d_Law_law_367 : decode code 367 = .ok (.iconst 1, 1) := by decide +kernel
theorem d_Law_law_368 : decode code 368 = .ok (.iadd, 1) := by decide +kernel
theorem d_Law_law_369 : decode code 369 = .ok (.iaload, 1) := by decide +kernel
theorem d_Law_law_370 : decode code 370 = .ok (.invokevirtual 57, 3) := by decide +kernel
theorem d_Law_law_373 : decode code 373 = .ok (.aload_n 2, 1) := by decide +kernel
theorem d_Law_law_374 : decode code 374 = .ok (.aload_n 0, 1) := by decide +kernel
theorem d_Law_law_375 : decode code 375 = .ok (.iload 4, 2) := by decide +kernel
theorem d_Law_law_377 : decode code 377 = .ok (.iconst 1, 1) := by decide +kernel
theorem d_Law_law_378 : decode code 378 = .ok (.iadd, 1) := by decide +kernel
theorem d_Law_law_379 : decode code 379 = .ok (.iaload, 1) := by decide +kernel
theorem d_Law_law_380 : decode code 380 = .ok (.invokevirtual 60, 3) := by decide +kernel
theorem d_Law_law_383 : decode code 383 = .ok (.if_icmp .eq 366, 3) := by decide +kernel
theorem d_Law_law_386 : decode code 386 = .ok (.iconst 0, 1) := by decide +kernel
theorem d_Law_law_387 : decode code 387 = .ok (.ireturn, 1) := by decide +kernel
theorem d_Law_law_388 : decode code 388 = .ok (.aload_n 1, 1) := by decide +kernel
theorem d_Law_law_389 : decode code 389 = .ok (.invokevirtual 61, 3) := by decide +kernel
theorem d_Law_law_392 : decode code 392 = .ok (.aload_n 2, 1) := by decide +kernel
theorem d_Law_law_393 : decode code 393 = .ok (.invokevirtual 64, 3) := by decide +kernel
theorem d_Law_law_396 : decode code 396 = .ok (.if_icmp .eq 353, 3) := by decide +kernel

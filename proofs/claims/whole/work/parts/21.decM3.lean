theorem d_Mo_note_0 : decode b_Mo_note 0 = .ok (.iload_n 1, 1) := by decide +kernel
theorem d_Mo_note_1 : decode b_Mo_note 1 = .ok (.bipush 20, 2) := by decide +kernel
theorem d_Mo_note_3 : decode b_Mo_note 3 = .ok (.iadd, 1) := by decide +kernel
theorem d_Mo_note_4 : decode b_Mo_note 4 = .ok (.iload_n 2, 1) := by decide +kernel
theorem d_Mo_note_5 : decode b_Mo_note 5 = .ok (.if_icmp .le 16, 3) := by decide +kernel
theorem d_Mo_note_8 : decode b_Mo_note 8 = .ok (.aload_n 0, 1) := by decide +kernel
theorem d_Mo_note_9 : decode b_Mo_note 9 = .ok (.bipush 6, 2) := by decide +kernel
theorem d_Mo_note_11 : decode b_Mo_note 11 = .ok (.putfield 92, 3) := by decide +kernel
theorem d_Mo_note_14 : decode b_Mo_note 14 = .ok (.aload_n 0, 1) := by decide +kernel
theorem d_Mo_note_15 : decode b_Mo_note 15 = .ok (.iload_n 1, 1) := by decide +kernel
theorem d_Mo_note_16 : decode b_Mo_note 16 = .ok (.putfield 95, 3) := by decide +kernel
theorem d_Mo_note_19 : decode b_Mo_note 19 = .ok (.iconst (-1), 1) := by decide +kernel
theorem d_Mo_note_20 : decode b_Mo_note 20 = .ok (.ireturn, 1) := by decide +kernel
theorem d_Mo_note_21 : decode b_Mo_note 21 = .ok (.iconst 0, 1) := by decide +kernel
theorem d_Mo_note_22 : decode b_Mo_note 22 = .ok (.istore_n 3, 1) := by decide +kernel
theorem d_Mo_note_23 : decode b_Mo_note 23 = .ok (.iload_n 3, 1) := by decide +kernel
theorem d_Mo_note_24 : decode b_Mo_note 24 = .ok (.bipush 20, 2) := by decide +kernel
theorem d_Mo_note_26 : decode b_Mo_note 26 = .ok (.if_icmp .ge 60, 3) := by decide +kernel
theorem d_Mo_note_29 : decode b_Mo_note 29 = .ok (.iload_n 3, 1) := by decide +kernel
theorem d_Mo_note_30 : decode b_Mo_note 30 = .ok (.invokestatic 118, 3) := by decide +kernel
theorem d_Mo_note_33 : decode b_Mo_note 33 = .ok (.iconst (-1), 1) := by decide +kernel
theorem d_Mo_note_34 : decode b_Mo_note 34 = .ok (.if_icmp .eq 46, 3) := by decide +kernel
theorem d_Mo_note_37 : decode b_Mo_note 37 = .ok (.iload_n 3, 1) := by decide +kernel
theorem d_Mo_note_38 : decode b_Mo_note 38 = .ok (.invokestatic 118, 3) := by decide +kernel
theorem d_Mo_note_41 : decode b_Mo_note 41 = .ok (.aload_n 0, 1) := by decide +kernel
theorem d_Mo_note_42 : decode b_Mo_note 42 = .ok (.getfield 42, 3) := by decide +kernel
theorem d_Mo_note_45 : decode b_Mo_note 45 = .ok (.iload_n 1, 1) := by decide +kernel
theorem d_Mo_note_46 : decode b_Mo_note 46 = .ok (.iload_n 3, 1) := by decide +kernel
theorem d_Mo_note_47 : decode b_Mo_note 47 = .ok (.iadd, 1) := by decide +kernel
theorem d_Mo_note_48 : decode b_Mo_note 48 = .ok (.baload, 1) := by decide +kernel
theorem d_Mo_note_49 : decode b_Mo_note 49 = .ok (.sipush 255, 3) := by decide +kernel
theorem d_Mo_note_52 : decode b_Mo_note 52 = .ok (.iand, 1) := by decide +kernel
theorem d_Mo_note_53 : decode b_Mo_note 53 = .ok (.if_icmp .eq 27, 3) := by decide +kernel
theorem d_Mo_note_56 : decode b_Mo_note 56 = .ok (.aload_n 0, 1) := by decide +kernel
theorem d_Mo_note_57 : decode b_Mo_note 57 = .ok (.bipush 6, 2) := by decide +kernel
theorem d_Mo_note_59 : decode b_Mo_note 59 = .ok (.putfield 92, 3) := by decide +kernel
theorem d_Mo_note_62 : decode b_Mo_note 62 = .ok (.aload_n 0, 1) := by decide +kernel
theorem d_Mo_note_63 : decode b_Mo_note 63 = .ok (.iload_n 3, 1) := by decide +kernel
theorem d_Mo_note_64 : decode b_Mo_note 64 = .ok (.iconst 4, 1) := by decide +kernel
theorem d_Mo_note_65 : decode b_Mo_note 65 = .ok (.if_icmp .ge 7, 3) := by decide +kernel
theorem d_Mo_note_68 : decode b_Mo_note 68 = .ok (.iload_n 1, 1) := by decide +kernel
theorem d_Mo_note_69 : decode b_Mo_note 69 = .ok (.goto 6, 3) := by decide +kernel
theorem d_Mo_note_72 : decode b_Mo_note 72 = .ok (.iload_n 1, 1) := by decide +kernel
theorem d_Mo_note_73 : decode b_Mo_note 73 = .ok (.iload_n 3, 1) := by decide +kernel
theorem d_Mo_note_74 : decode b_Mo_note 74 = .ok (.iadd, 1) := by decide +kernel
theorem d_Mo_note_75 : decode b_Mo_note 75 = .ok (.putfield 95, 3) := by decide +kernel
theorem d_Mo_note_78 : decode b_Mo_note 78 = .ok (.iconst (-1), 1) := by decide +kernel
theorem d_Mo_note_79 : decode b_Mo_note 79 = .ok (.ireturn, 1) := by decide +kernel
theorem d_Mo_note_80 : decode b_Mo_note 80 = .ok (.iinc 3 1, 3) := by decide +kernel
theorem d_Mo_note_83 : decode b_Mo_note 83 = .ok (.goto (-60), 3) := by decide +kernel
theorem d_Mo_note_86 : decode b_Mo_note 86 = .ok (.aload_n 0, 1) := by decide +kernel
theorem d_Mo_note_87 : decode b_Mo_note 87 = .ok (.iload_n 1, 1) := by decide +kernel
theorem d_Mo_note_88 : decode b_Mo_note 88 = .ok (.iconst 4, 1) := by decide +kernel
theorem d_Mo_note_89 : decode b_Mo_note 89 = .ok (.iadd, 1) := by decide +kernel
theorem d_Mo_note_90 : decode b_Mo_note 90 = .ok (.invokevirtual 107, 3) := by decide +kernel
theorem d_Mo_note_93 : decode b_Mo_note 93 = .ok (.istore_n 3, 1) := by decide +kernel
theorem d_Mo_note_94 : decode b_Mo_note 94 = .ok (.ldc2_w 121, 3) := by decide +kernel
theorem d_Mo_note_97 : decode b_Mo_note 97 = .ok (.iload_n 3, 1) := by decide +kernel
theorem d_Mo_note_98 : decode b_Mo_note 98 = .ok (.i2l, 1) := by decide +kernel
theorem d_Mo_note_99 : decode b_Mo_note 99 = .ok (.ldc2_w 123, 3) := by decide +kernel
theorem d_Mo_note_102 : decode b_Mo_note 102 = .ok (.ladd, 1) := by decide +kernel
theorem d_Mo_note_103 : decode b_Mo_note 103 = .ok (.ldc2_w 125, 3) := by decide +kernel
theorem d_Mo_note_106 : decode b_Mo_note 106 = .ok (.ldiv, 1) := by decide +kernel
theorem d_Mo_note_107 : decode b_Mo_note 107 = .ok (.ldc2_w 125, 3) := by decide +kernel
theorem d_Mo_note_110 : decode b_Mo_note 110 = .ok (.lmul, 1) := by decide +kernel
theorem d_Mo_note_111 : decode b_Mo_note 111 = .ok (.ladd, 1) := by decide +kernel
theorem d_Mo_note_112 : decode b_Mo_note 112 = .ok (.lstore 4, 2) := by decide +kernel
theorem d_Mo_note_114 : decode b_Mo_note 114 = .ok (.iconst (-1), 1) := by decide +kernel
theorem d_Mo_note_115 : decode b_Mo_note 115 = .ok (.istore 6, 2) := by decide +kernel
theorem d_Mo_note_117 : decode b_Mo_note 117 = .ok (.iload_n 3, 1) := by decide +kernel
theorem d_Mo_note_118 : decode b_Mo_note 118 = .ok (.ifCond .lt 14, 3) := by decide +kernel
theorem d_Mo_note_121 : decode b_Mo_note 121 = .ok (.iload_n 1, 1) := by decide +kernel
theorem d_Mo_note_122 : decode b_Mo_note 122 = .ok (.i2l, 1) := by decide +kernel
theorem d_Mo_note_123 : decode b_Mo_note 123 = .ok (.lload 4, 2) := by decide +kernel
theorem d_Mo_note_125 : decode b_Mo_note 125 = .ok (.ladd, 1) := by decide +kernel
theorem d_Mo_note_126 : decode b_Mo_note 126 = .ok (.iload_n 2, 1) := by decide +kernel
theorem d_Mo_note_127 : decode b_Mo_note 127 = .ok (.i2l, 1) := by decide +kernel
theorem d_Mo_note_128 : decode b_Mo_note 128 = .ok (.lcmp, 1) := by decide +kernel
theorem d_Mo_note_129 : decode b_Mo_note 129 = .ok (.ifCond .le 11, 3) := by decide +kernel
theorem d_Mo_note_132 : decode b_Mo_note 132 = .ok (.iload_n 1, 1) := by decide +kernel
theorem d_Mo_note_133 : decode b_Mo_note 133 = .ok (.iconst 4, 1) := by decide +kernel
theorem d_Mo_note_134 : decode b_Mo_note 134 = .ok (.iadd, 1) := by decide +kernel
theorem d_Mo_note_135 : decode b_Mo_note 135 = .ok (.istore 6, 2) := by decide +kernel
theorem d_Mo_note_137 : decode b_Mo_note 137 = .ok (.goto 67, 3) := by decide +kernel
theorem d_Mo_note_140 : decode b_Mo_note 140 = .ok (.aload_n 0, 1) := by decide +kernel
theorem d_Mo_note_141 : decode b_Mo_note 141 = .ok (.iload_n 1, 1) := by decide +kernel
theorem d_Mo_note_142 : decode b_Mo_note 142 = .ok (.bipush 8, 2) := by decide +kernel
theorem d_Mo_note_144 : decode b_Mo_note 144 = .ok (.iadd, 1) := by decide +kernel
theorem d_Mo_note_145 : decode b_Mo_note 145 = .ok (.invokevirtual 107, 3) := by decide +kernel
theorem d_Mo_note_148 : decode b_Mo_note 148 = .ok (.iconst 1, 1) := by decide +kernel
theorem d_Mo_note_149 : decode b_Mo_note 149 = .ok (.if_icmp .ne 55, 3) := by decide +kernel
theorem d_Mo_note_152 : decode b_Mo_note 152 = .ok (.iload_n 3, 1) := by decide +kernel
theorem d_Mo_note_153 : decode b_Mo_note 153 = .ok (.bipush 36, 2) := by decide +kernel
theorem d_Mo_note_155 : decode b_Mo_note 155 = .ok (.if_icmp .eq 9, 3) := by decide +kernel
theorem d_Mo_note_158 : decode b_Mo_note 158 = .ok (.iload_n 1, 1) := by decide +kernel
theorem d_Mo_note_159 : decode b_Mo_note 159 = .ok (.iconst 4, 1) := by decide +kernel
theorem d_Mo_note_160 : decode b_Mo_note 160 = .ok (.iadd, 1) := by decide +kernel
theorem d_Mo_note_161 : decode b_Mo_note 161 = .ok (.goto 41, 3) := by decide +kernel
theorem d_Mo_note_164 : decode b_Mo_note 164 = .ok (.aload_n 0, 1) := by decide +kernel
theorem d_Mo_note_165 : decode b_Mo_note 165 = .ok (.iconst 2, 1) := by decide +kernel
theorem d_Mo_note_166 : decode b_Mo_note 166 = .ok (.aload_n 0, 1) := by decide +kernel
theorem d_Mo_note_167 : decode b_Mo_note 167 = .ok (.iload_n 1, 1) := by decide +kernel
theorem d_Mo_note_168 : decode b_Mo_note 168 = .ok (.bipush 20, 2) := by decide +kernel
theorem d_Mo_note_170 : decode b_Mo_note 170 = .ok (.iadd, 1) := by decide +kernel
theorem d_Mo_note_171 : decode b_Mo_note 171 = .ok (.invokevirtual 107, 3) := by decide +kernel
theorem d_Mo_note_174 : decode b_Mo_note 174 = .ok (.invokevirtual 58, 3) := by decide +kernel
theorem d_Mo_note_177 : decode b_Mo_note 177 = .ok (.ifCond .eq 10, 3) := by decide +kernel
theorem d_Mo_note_180 : decode b_Mo_note 180 = .ok (.iload_n 1, 1) := by decide +kernel
theorem d_Mo_note_181 : decode b_Mo_note 181 = .ok (.bipush 20, 2) := by decide +kernel
theorem d_Mo_note_183 : decode b_Mo_note 183 = .ok (.iadd, 1) := by decide +kernel
theorem d_Mo_note_184 : decode b_Mo_note 184 = .ok (.goto 18, 3) := by decide +kernel
theorem d_Mo_note_187 : decode b_Mo_note 187 = .ok (.aload_n 0, 1) := by decide +kernel
theorem d_Mo_note_188 : decode b_Mo_note 188 = .ok (.getfield 26, 3) := by decide +kernel
theorem d_Mo_note_191 : decode b_Mo_note 191 = .ok (.iconst 2, 1) := by decide +kernel
theorem d_Mo_note_192 : decode b_Mo_note 192 = .ok (.iaload, 1) := by decide +kernel
theorem d_Mo_note_193 : decode b_Mo_note 193 = .ok (.iconst 3, 1) := by decide +kernel
theorem d_Mo_note_194 : decode b_Mo_note 194 = .ok (.if_icmp .ne 7, 3) := by decide +kernel
theorem d_Mo_note_197 : decode b_Mo_note 197 = .ok (.iload_n 1, 1) := by decide +kernel
theorem d_Mo_note_198 : decode b_Mo_note 198 = .ok (.goto 4, 3) := by decide +kernel
theorem d_Mo_note_201 : decode b_Mo_note 201 = .ok (.iconst (-1), 1) := by decide +kernel
theorem d_Mo_note_202 : decode b_Mo_note 202 = .ok (.istore 6, 2) := by decide +kernel
theorem d_Mo_note_204 : decode b_Mo_note 204 = .ok (.iload 6, 2) := by decide +kernel
theorem d_Mo_note_206 : decode b_Mo_note 206 = .ok (.iconst (-1), 1) := by decide +kernel
theorem d_Mo_note_207 : decode b_Mo_note 207 = .ok (.if_icmp .eq 17, 3) := by decide +kernel
theorem d_Mo_note_210 : decode b_Mo_note 210 = .ok (.aload_n 0, 1) := by decide +kernel
theorem d_Mo_note_211 : decode b_Mo_note 211 = .ok (.bipush 6, 2) := by decide +kernel
theorem d_Mo_note_213 : decode b_Mo_note 213 = .ok (.putfield 92, 3) := by decide +kernel
theorem d_Mo_note_216 : decode b_Mo_note 216 = .ok (.aload_n 0, 1) := by decide +kernel
theorem d_Mo_note_217 : decode b_Mo_note 217 = .ok (.iload 6, 2) := by decide +kernel
theorem d_Mo_note_219 : decode b_Mo_note 219 = .ok (.putfield 95, 3) := by decide +kernel
theorem d_Mo_note_222 : decode b_Mo_note 222 = .ok (.iconst (-1), 1) := by decide +kernel
theorem d_Mo_note_223 : decode b_Mo_note 223 = .ok (.ireturn, 1) := by decide +kernel
theorem d_Mo_note_224 : decode b_Mo_note 224 = .ok (.aload_n 0, 1) := by decide +kernel
theorem d_Mo_note_225 : decode b_Mo_note 225 = .ok (.iload_n 1, 1) := by decide +kernel
theorem d_Mo_note_226 : decode b_Mo_note 226 = .ok (.bipush 8, 2) := by decide +kernel
theorem d_Mo_note_228 : decode b_Mo_note 228 = .ok (.iadd, 1) := by decide +kernel
theorem d_Mo_note_229 : decode b_Mo_note 229 = .ok (.invokevirtual 107, 3) := by decide +kernel
theorem d_Mo_note_232 : decode b_Mo_note 232 = .ok (.iconst 1, 1) := by decide +kernel
theorem d_Mo_note_233 : decode b_Mo_note 233 = .ok (.if_icmp .ne 84, 3) := by decide +kernel
theorem d_Mo_note_236 : decode b_Mo_note 236 = .ok (.aload_n 0, 1) := by decide +kernel
theorem d_Mo_note_237 : decode b_Mo_note 237 = .ok (.getfield 29, 3) := by decide +kernel
theorem d_Mo_note_240 : decode b_Mo_note 240 = .ok (.bipush 6, 2) := by decide +kernel
theorem d_Mo_note_242 : decode b_Mo_note 242 = .ok (.aload_n 0, 1) := by decide +kernel
theorem d_Mo_note_243 : decode b_Mo_note 243 = .ok (.getfield 26, 3) := by decide +kernel
theorem d_Mo_note_246 : decode b_Mo_note 246 = .ok (.iconst 2, 1) := by decide +kernel
theorem d_Mo_note_247 : decode b_Mo_note 247 = .ok (.iaload, 1) := by decide +kernel
theorem d_Mo_note_248 : decode b_Mo_note 248 = .ok (.iadd, 1) := by decide +kernel
theorem d_Mo_note_249 : decode b_Mo_note 249 = .ok (.aload_n 0, 1) := by decide +kernel
theorem d_Mo_note_250 : decode b_Mo_note 250 = .ok (.iload_n 1, 1) := by decide +kernel
theorem d_Mo_note_251 : decode b_Mo_note 251 = .ok (.bipush 20, 2) := by decide +kernel
theorem d_Mo_note_253 : decode b_Mo_note 253 = .ok (.iadd, 1) := by decide +kernel
theorem d_Mo_note_254 : decode b_Mo_note 254 = .ok (.invokevirtual 107, 3) := by decide +kernel
theorem d_Mo_note_257 : decode b_Mo_note 257 = .ok (.iastore, 1) := by decide +kernel
theorem d_Mo_note_258 : decode b_Mo_note 258 = .ok (.iconst 0, 1) := by decide +kernel
theorem d_Mo_note_259 : decode b_Mo_note 259 = .ok (.istore 7, 2) := by decide +kernel
theorem d_Mo_note_261 : decode b_Mo_note 261 = .ok (.iload 7, 2) := by decide +kernel
theorem d_Mo_note_263 : decode b_Mo_note 263 = .ok (.bipush 8, 2) := by decide +kernel
theorem d_Mo_note_265 : decode b_Mo_note 265 = .ok (.if_icmp .ge 42, 3) := by decide +kernel
theorem d_Mo_note_268 : decode b_Mo_note 268 = .ok (.aload_n 0, 1) := by decide +kernel
theorem d_Mo_note_269 : decode b_Mo_note 269 = .ok (.getfield 32, 3) := by decide +kernel
theorem d_Mo_note_272 : decode b_Mo_note 272 = .ok (.bipush 8, 2) := by decide +kernel
theorem d_Mo_note_274 : decode b_Mo_note 274 = .ok (.bipush 6, 2) := by decide +kernel
theorem d_Mo_note_276 : decode b_Mo_note 276 = .ok (.aload_n 0, 1) := by decide +kernel
theorem d_Mo_note_277 : decode b_Mo_note 277 = .ok (.getfield 26, 3) := by decide +kernel
theorem d_Mo_note_280 : decode b_Mo_note 280 = .ok (.iconst 2, 1) := by decide +kernel
theorem d_Mo_note_281 : decode b_Mo_note 281 = .ok (.iaload, 1) := by decide +kernel
theorem d_Mo_note_282 : decode b_Mo_note 282 = .ok (.iadd, 1) := by decide +kernel
theorem d_Mo_note_283 : decode b_Mo_note 283 = .ok (.imul, 1) := by decide +kernel
theorem d_Mo_note_284 : decode b_Mo_note 284 = .ok (.iload 7, 2) := by decide +kernel
theorem d_Mo_note_286 : decode b_Mo_note 286 = .ok (.iadd, 1) := by decide +kernel
theorem d_Mo_note_287 : decode b_Mo_note 287 = .ok (.aload_n 0, 1) := by decide +kernel
theorem d_Mo_note_288 : decode b_Mo_note 288 = .ok (.iload_n 1, 1) := by decide +kernel
theorem d_Mo_note_289 : decode b_Mo_note 289 = .ok (.bipush 24, 2) := by decide +kernel
theorem d_Mo_note_291 : decode b_Mo_note 291 = .ok (.iadd, 1) := by decide +kernel
theorem d_Mo_note_292 : decode b_Mo_note 292 = .ok (.iconst 4, 1) := by decide +kernel
theorem d_Mo_note_293 : decode b_Mo_note 293 = .ok (.iload 7, 2) := by decide +kernel
theorem d_Mo_note_295 : decode b_Mo_note 295 = .ok (.imul, 1) := by decide +kernel
theorem d_Mo_note_296 : decode b_Mo_note 296 = .ok (.iadd, 1) := by decide +kernel
theorem d_Mo_note_297 : decode b_Mo_note 297 = .ok (.invokevirtual 107, 3) := by decide +kernel
theorem d_Mo_note_300 : decode b_Mo_note 300 = .ok (.iastore, 1) := by decide +kernel
theorem d_Mo_note_301 : decode b_Mo_note 301 = .ok (.iinc 7 1, 3) := by decide +kernel
theorem d_Mo_note_304 : decode b_Mo_note 304 = .ok (.goto (-43), 3) := by decide +kernel
theorem d_Mo_note_307 : decode b_Mo_note 307 = .ok (.aload_n 0, 1) := by decide +kernel
theorem d_Mo_note_308 : decode b_Mo_note 308 = .ok (.getfield 26, 3) := by decide +kernel
theorem d_Mo_note_311 : decode b_Mo_note 311 = .ok (.iconst 2, 1) := by decide +kernel
theorem d_Mo_note_312 : decode b_Mo_note 312 = .ok (.dup2, 1) := by decide +kernel
theorem d_Mo_note_313 : decode b_Mo_note 313 = .ok (.iaload, 1) := by decide +kernel
theorem d_Mo_note_314 : decode b_Mo_note 314 = .ok (.iconst 1, 1) := by decide +kernel
theorem d_Mo_note_315 : decode b_Mo_note 315 = .ok (.iadd, 1) := by decide +kernel
theorem d_Mo_note_316 : decode b_Mo_note 316 = .ok (.iastore, 1) := by decide +kernel
theorem d_Mo_note_317 : decode b_Mo_note 317 = .ok (.lload 4, 2) := by decide +kernel
theorem d_Mo_note_319 : decode b_Mo_note 319 = .ok (.l2i, 1) := by decide +kernel
theorem d_Mo_note_320 : decode b_Mo_note 320 = .ok (.ireturn, 1) := by decide +kernel
theorem d_Mo_notesFit_0 : decode b_Mo_notesFit 0 = .ok (.aload_n 0, 1) := by decide +kernel
theorem d_Mo_notesFit_1 : decode b_Mo_notesFit 1 = .ok (.bipush 56, 2) := by decide +kernel
theorem d_Mo_notesFit_3 : decode b_Mo_notesFit 3 = .ok (.invokevirtual 107, 3) := by decide +kernel
theorem d_Mo_notesFit_6 : decode b_Mo_notesFit 6 = .ok (.istore_n 1, 1) := by decide +kernel
theorem d_Mo_notesFit_7 : decode b_Mo_notesFit 7 = .ok (.iload_n 1, 1) := by decide +kernel
theorem d_Mo_notesFit_8 : decode b_Mo_notesFit 8 = .ok (.aload_n 0, 1) := by decide +kernel
theorem d_Mo_notesFit_9 : decode b_Mo_notesFit 9 = .ok (.bipush 68, 2) := by decide +kernel
theorem d_Mo_notesFit_11 : decode b_Mo_notesFit 11 = .ok (.invokevirtual 107, 3) := by decide +kernel
theorem d_Mo_notesFit_14 : decode b_Mo_notesFit 14 = .ok (.iadd, 1) := by decide +kernel
theorem d_Mo_notesFit_15 : decode b_Mo_notesFit 15 = .ok (.istore_n 2, 1) := by decide +kernel
theorem d_Mo_notesFit_16 : decode b_Mo_notesFit 16 = .ok (.iload_n 1, 1) := by decide +kernel
theorem d_Mo_notesFit_17 : decode b_Mo_notesFit 17 = .ok (.iload_n 2, 1) := by decide +kernel
theorem d_Mo_notesFit_18 : decode b_Mo_notesFit 18 = .ok (.if_icmp .ge 24, 3) := by decide +kernel
theorem d_Mo_notesFit_21 : decode b_Mo_notesFit 21 = .ok (.aload_n 0, 1) := by decide +kernel
theorem d_Mo_notesFit_22 : decode b_Mo_notesFit 22 = .ok (.iload_n 1, 1) := by decide +kernel
theorem d_Mo_notesFit_23 : decode b_Mo_notesFit 23 = .ok (.iload_n 2, 1) := by decide +kernel
theorem d_Mo_notesFit_24 : decode b_Mo_notesFit 24 = .ok (.invokevirtual 127, 3) := by decide +kernel
theorem d_Mo_notesFit_27 : decode b_Mo_notesFit 27 = .ok (.istore_n 3, 1) := by decide +kernel
theorem d_Mo_notesFit_28 : decode b_Mo_notesFit 28 = .ok (.iload_n 3, 1) := by decide +kernel
theorem d_Mo_notesFit_29 : decode b_Mo_notesFit 29 = .ok (.iconst (-1), 1) := by decide +kernel
theorem d_Mo_notesFit_30 : decode b_Mo_notesFit 30 = .ok (.if_icmp .ne 5, 3) := by decide +kernel
theorem d_Mo_notesFit_33 : decode b_Mo_notesFit 33 = .ok (.iconst 0, 1) := by decide +kernel
theorem d_Mo_notesFit_34 : decode b_Mo_notesFit 34 = .ok (.ireturn, 1) := by decide +kernel
theorem d_Mo_notesFit_35 : decode b_Mo_notesFit 35 = .ok (.iload_n 1, 1) := by decide +kernel
theorem d_Mo_notesFit_36 : decode b_Mo_notesFit 36 = .ok (.iload_n 3, 1) := by decide +kernel
theorem d_Mo_notesFit_37 : decode b_Mo_notesFit 37 = .ok (.iadd, 1) := by decide +kernel
theorem d_Mo_notesFit_38 : decode b_Mo_notesFit 38 = .ok (.istore_n 1, 1) := by decide +kernel
theorem d_Mo_notesFit_39 : decode b_Mo_notesFit 39 = .ok (.goto (-23), 3) := by decide +kernel
theorem d_Mo_notesFit_42 : decode b_Mo_notesFit 42 = .ok (.iconst 1, 1) := by decide +kernel
theorem d_Mo_notesFit_43 : decode b_Mo_notesFit 43 = .ok (.ireturn, 1) := by decide +kernel
theorem d_Mo_readRegions_0 : decode b_Mo_readRegions 0 = .ok (.iconst 1, 1) := by decide +kernel
theorem d_Mo_readRegions_1 : decode b_Mo_readRegions 1 = .ok (.istore_n 2, 1) := by decide +kernel
theorem d_Mo_readRegions_2 : decode b_Mo_readRegions 2 = .ok (.iload_n 2, 1) := by decide +kernel
theorem d_Mo_readRegions_3 : decode b_Mo_readRegions 3 = .ok (.iload_n 1, 1) := by decide +kernel
theorem d_Mo_readRegions_4 : decode b_Mo_readRegions 4 = .ok (.if_icmp .ge 150, 3) := by decide +kernel
theorem d_Mo_readRegions_7 : decode b_Mo_readRegions 7 = .ok (.bipush 52, 2) := by decide +kernel
theorem d_Mo_readRegions_9 : decode b_Mo_readRegions 9 = .ok (.bipush 32, 2) := by decide +kernel
theorem d_Mo_readRegions_11 : decode b_Mo_readRegions 11 = .ok (.iload_n 2, 1) := by decide +kernel
theorem d_Mo_readRegions_12 : decode b_Mo_readRegions 12 = .ok (.imul, 1) := by decide +kernel
theorem d_Mo_readRegions_13 : decode b_Mo_readRegions 13 = .ok (.iadd, 1) := by decide +kernel
theorem d_Mo_readRegions_14 : decode b_Mo_readRegions 14 = .ok (.istore_n 3, 1) := by decide +kernel
theorem d_Mo_readRegions_15 : decode b_Mo_readRegions 15 = .ok (.bipush 12, 2) := by decide +kernel
theorem d_Mo_readRegions_17 : decode b_Mo_readRegions 17 = .ok (.aload_n 0, 1) := by decide +kernel
theorem d_Mo_readRegions_18 : decode b_Mo_readRegions 18 = .ok (.getfield 23, 3) := by decide +kernel
theorem d_Mo_readRegions_21 : decode b_Mo_readRegions 21 = .ok (.iconst 2, 1) := by decide +kernel
theorem d_Mo_readRegions_22 : decode b_Mo_readRegions 22 = .ok (.iaload, 1) := by decide +kernel
theorem d_Mo_readRegions_23 : decode b_Mo_readRegions 23 = .ok (.iadd, 1) := by decide +kernel
theorem d_Mo_readRegions_24 : decode b_Mo_readRegions 24 = .ok (.istore 4, 2) := by decide +kernel
theorem d_Mo_readRegions_26 : decode b_Mo_readRegions 26 = .ok (.aload_n 0, 1) := by decide +kernel
theorem d_Mo_readRegions_27 : decode b_Mo_readRegions 27 = .ok (.getfield 7, 3) := by decide +kernel
theorem d_Mo_readRegions_30 : decode b_Mo_readRegions 30 = .ok (.iload 4, 2) := by decide +kernel
theorem d_Mo_readRegions_32 : decode b_Mo_readRegions 32 = .ok (.aload_n 0, 1) := by decide +kernel
theorem d_Mo_readRegions_33 : decode b_Mo_readRegions 33 = .ok (.iload_n 3, 1) := by decide +kernel
theorem d_Mo_readRegions_34 : decode b_Mo_readRegions 34 = .ok (.bipush 8, 2) := by decide +kernel
theorem d_Mo_readRegions_36 : decode b_Mo_readRegions 36 = .ok (.iadd, 1) := by decide +kernel
theorem d_Mo_readRegions_37 : decode b_Mo_readRegions 37 = .ok (.invokevirtual 107, 3) := by decide +kernel
theorem d_Mo_readRegions_40 : decode b_Mo_readRegions 40 = .ok (.iastore, 1) := by decide +kernel
theorem d_Mo_readRegions_41 : decode b_Mo_readRegions 41 = .ok (.aload_n 0, 1) := by decide +kernel
theorem d_Mo_readRegions_42 : decode b_Mo_readRegions 42 = .ok (.getfield 13, 3) := by decide +kernel
theorem d_Mo_readRegions_45 : decode b_Mo_readRegions 45 = .ok (.iload 4, 2) := by decide +kernel
theorem d_Mo_readRegions_47 : decode b_Mo_readRegions 47 = .ok (.aload_n 0, 1) := by decide +kernel
theorem d_Mo_readRegions_48 : decode b_Mo_readRegions 48 = .ok (.iload_n 3, 1) := by decide +kernel
theorem d_Mo_readRegions_49 : decode b_Mo_readRegions 49 = .ok (.bipush 20, 2) := by decide +kernel
theorem d_Mo_readRegions_51 : decode b_Mo_readRegions 51 = .ok (.iadd, 1) := by decide +kernel
theorem d_Mo_readRegions_52 : decode b_Mo_readRegions 52 = .ok (.invokevirtual 107, 3) := by decide +kernel
theorem d_Mo_readRegions_55 : decode b_Mo_readRegions 55 = .ok (.iastore, 1) := by decide +kernel
theorem d_Mo_readRegions_56 : decode b_Mo_readRegions 56 = .ok (.aload_n 0, 1) := by decide +kernel
theorem d_Mo_readRegions_57 : decode b_Mo_readRegions 57 = .ok (.getfield 16, 3) := by decide +kernel
theorem d_Mo_readRegions_60 : decode b_Mo_readRegions 60 = .ok (.iload 4, 2) := by decide +kernel
theorem d_Mo_readRegions_62 : decode b_Mo_readRegions 62 = .ok (.aload_n 0, 1) := by decide +kernel
theorem d_Mo_readRegions_63 : decode b_Mo_readRegions 63 = .ok (.iload_n 3, 1) := by decide +kernel
theorem d_Mo_readRegions_64 : decode b_Mo_readRegions 64 = .ok (.bipush 24, 2) := by decide +kernel
theorem d_Mo_readRegions_66 : decode b_Mo_readRegions 66 = .ok (.iadd, 1) := by decide +kernel
theorem d_Mo_readRegions_67 : decode b_Mo_readRegions 67 = .ok (.invokevirtual 107, 3) := by decide +kernel
theorem d_Mo_readRegions_70 : decode b_Mo_readRegions 70 = .ok (.iastore, 1) := by decide +kernel
theorem d_Mo_readRegions_71 : decode b_Mo_readRegions 71 = .ok (.aload_n 0, 1) := by decide +kernel
theorem d_Mo_readRegions_72 : decode b_Mo_readRegions 72 = .ok (.iload_n 3, 1) := by decide +kernel
theorem d_Mo_readRegions_73 : decode b_Mo_readRegions 73 = .ok (.bipush 16, 2) := by decide +kernel
theorem d_Mo_readRegions_75 : decode b_Mo_readRegions 75 = .ok (.iadd, 1) := by decide +kernel
theorem d_Mo_readRegions_76 : decode b_Mo_readRegions 76 = .ok (.invokevirtual 107, 3) := by decide +kernel
theorem d_Mo_readRegions_79 : decode b_Mo_readRegions 79 = .ok (.istore 5, 2) := by decide +kernel
theorem d_Mo_readRegions_81 : decode b_Mo_readRegions 81 = .ok (.iconst 0, 1) := by decide +kernel
theorem d_Mo_readRegions_82 : decode b_Mo_readRegions 82 = .ok (.istore 6, 2) := by decide +kernel
theorem d_Mo_readRegions_84 : decode b_Mo_readRegions 84 = .ok (.iload 6, 2) := by decide +kernel
theorem d_Mo_readRegions_86 : decode b_Mo_readRegions 86 = .ok (.sipush 1024, 3) := by decide +kernel
theorem d_Mo_readRegions_89 : decode b_Mo_readRegions 89 = .ok (.if_icmp .ge 49, 3) := by decide +kernel
theorem d_Mo_readRegions_92 : decode b_Mo_readRegions 92 = .ok (.aload_n 0, 1) := by decide +kernel
theorem d_Mo_readRegions_93 : decode b_Mo_readRegions 93 = .ok (.getfield 19, 3) := by decide +kernel
theorem d_Mo_readRegions_96 : decode b_Mo_readRegions 96 = .ok (.sipush 1024, 3) := by decide +kernel
theorem d_Mo_readRegions_99 : decode b_Mo_readRegions 99 = .ok (.iload 4, 2) := by decide +kernel
theorem d_Mo_readRegions_101 : decode b_Mo_readRegions 101 = .ok (.imul, 1) := by decide +kernel
theorem d_Mo_readRegions_102 : decode b_Mo_readRegions 102 = .ok (.iload 6, 2) := by decide +kernel
theorem d_Mo_readRegions_104 : decode b_Mo_readRegions 104 = .ok (.iadd, 1) := by decide +kernel
theorem d_Mo_readRegions_105 : decode b_Mo_readRegions 105 = .ok (.iload 6, 2) := by decide +kernel
theorem d_Mo_readRegions_107 : decode b_Mo_readRegions 107 = .ok (.iload 5, 2) := by decide +kernel
theorem d_Mo_readRegions_109 : decode b_Mo_readRegions 109 = .ok (.if_icmp .ge 21, 3) := by decide +kernel
theorem d_Mo_readRegions_112 : decode b_Mo_readRegions 112 = .ok (.aload_n 0, 1) := by decide +kernel
theorem d_Mo_readRegions_113 : decode b_Mo_readRegions 113 = .ok (.getfield 42, 3) := by decide +kernel
theorem d_Mo_readRegions_116 : decode b_Mo_readRegions 116 = .ok (.aload_n 0, 1) := by decide +kernel
theorem d_Mo_readRegions_117 : decode b_Mo_readRegions 117 = .ok (.iload_n 3, 1) := by decide +kernel
theorem d_Mo_readRegions_118 : decode b_Mo_readRegions 118 = .ok (.iconst 4, 1) := by decide +kernel
theorem d_Mo_readRegions_119 : decode b_Mo_readRegions 119 = .ok (.iadd, 1) := by decide +kernel
theorem d_Mo_readRegions_120 : decode b_Mo_readRegions 120 = .ok (.invokevirtual 107, 3) := by decide +kernel
theorem d_Mo_readRegions_123 : decode b_Mo_readRegions 123 = .ok (.iload 6, 2) := by decide +kernel
theorem d_Mo_readRegions_125 : decode b_Mo_readRegions 125 = .ok (.iadd, 1) := by decide +kernel
theorem d_Mo_readRegions_126 : decode b_Mo_readRegions 126 = .ok (.baload, 1) := by decide +kernel
theorem d_Mo_readRegions_127 : decode b_Mo_readRegions 127 = .ok (.goto 4, 3) := by decide +kernel
theorem d_Mo_readRegions_130 : decode b_Mo_readRegions 130 = .ok (.iconst 0, 1) := by decide +kernel
theorem d_Mo_readRegions_131 : decode b_Mo_readRegions 131 = .ok (.bastore, 1) := by decide +kernel
theorem d_Mo_readRegions_132 : decode b_Mo_readRegions 132 = .ok (.iinc 6 1, 3) := by decide +kernel
theorem d_Mo_readRegions_135 : decode b_Mo_readRegions 135 = .ok (.goto (-51), 3) := by decide +kernel
theorem d_Mo_readRegions_138 : decode b_Mo_readRegions 138 = .ok (.aload_n 0, 1) := by decide +kernel
theorem d_Mo_readRegions_139 : decode b_Mo_readRegions 139 = .ok (.getfield 23, 3) := by decide +kernel
theorem d_Mo_readRegions_142 : decode b_Mo_readRegions 142 = .ok (.iconst 2, 1) := by decide +kernel
theorem d_Mo_readRegions_143 : decode b_Mo_readRegions 143 = .ok (.dup2, 1) := by decide +kernel
theorem d_Mo_readRegions_144 : decode b_Mo_readRegions 144 = .ok (.iaload, 1) := by decide +kernel
theorem d_Mo_readRegions_145 : decode b_Mo_readRegions 145 = .ok (.iconst 1, 1) := by decide +kernel
theorem d_Mo_readRegions_146 : decode b_Mo_readRegions 146 = .ok (.iadd, 1) := by decide +kernel
theorem d_Mo_readRegions_147 : decode b_Mo_readRegions 147 = .ok (.iastore, 1) := by decide +kernel
theorem d_Mo_readRegions_148 : decode b_Mo_readRegions 148 = .ok (.iinc 2 1, 3) := by decide +kernel
theorem d_Mo_readRegions_151 : decode b_Mo_readRegions 151 = .ok (.goto (-149), 3) := by decide +kernel
theorem d_Mo_readRegions_154 : decode b_Mo_readRegions 154 = .ok (.return_, 1) := by decide +kernel
theorem d_Mo_reads_0 : decode b_Mo_reads 0 = .ok (.aload_n 0, 1) := by decide +kernel
theorem d_Mo_reads_1 : decode b_Mo_reads 1 = .ok (.invokevirtual 131, 3) := by decide +kernel
theorem d_Mo_reads_4 : decode b_Mo_reads 4 = .ok (.ifCond .ne 5, 3) := by decide +kernel
theorem d_Mo_reads_7 : decode b_Mo_reads 7 = .ok (.iconst 0, 1) := by decide +kernel
theorem d_Mo_reads_8 : decode b_Mo_reads 8 = .ok (.ireturn, 1) := by decide +kernel
theorem d_Mo_reads_9 : decode b_Mo_reads 9 = .ok (.aload_n 0, 1) := by decide +kernel
theorem d_Mo_reads_10 : decode b_Mo_reads 10 = .ok (.bipush 44, 2) := by decide +kernel
theorem d_Mo_reads_12 : decode b_Mo_reads 12 = .ok (.invokevirtual 89, 3) := by decide +kernel
theorem d_Mo_reads_15 : decode b_Mo_reads 15 = .ok (.istore_n 1, 1) := by decide +kernel
theorem d_Mo_reads_16 : decode b_Mo_reads 16 = .ok (.iconst 0, 1) := by decide +kernel
theorem d_Mo_reads_17 : decode b_Mo_reads 17 = .ok (.istore_n 2, 1) := by decide +kernel
theorem d_Mo_reads_18 : decode b_Mo_reads 18 = .ok (.iload_n 2, 1) := by decide +kernel
theorem d_Mo_reads_19 : decode b_Mo_reads 19 = .ok (.iload_n 1, 1) := by decide +kernel
theorem d_Mo_reads_20 : decode b_Mo_reads 20 = .ok (.if_icmp .ge 26, 3) := by decide +kernel
theorem d_Mo_reads_23 : decode b_Mo_reads 23 = .ok (.aload_n 0, 1) := by decide +kernel
theorem d_Mo_reads_24 : decode b_Mo_reads 24 = .ok (.iload_n 2, 1) := by decide +kernel
theorem d_Mo_reads_25 : decode b_Mo_reads 25 = .ok (.bipush 52, 2) := by decide +kernel
theorem d_Mo_reads_27 : decode b_Mo_reads 27 = .ok (.bipush 32, 2) := by decide +kernel
theorem d_Mo_reads_29 : decode b_Mo_reads 29 = .ok (.iload_n 1, 1) := by decide +kernel
theorem d_Mo_reads_30 : decode b_Mo_reads 30 = .ok (.imul, 1) := by decide +kernel
theorem d_Mo_reads_31 : decode b_Mo_reads 31 = .ok (.iadd, 1) := by decide +kernel
theorem d_Mo_reads_32 : decode b_Mo_reads 32 = .ok (.invokevirtual 135, 3) := by decide +kernel
theorem d_Mo_reads_35 : decode b_Mo_reads 35 = .ok (.ifCond .ne 5, 3) := by decide +kernel
theorem d_Mo_reads_38 : decode b_Mo_reads 38 = .ok (.iconst 0, 1) := by decide +kernel
theorem d_Mo_reads_39 : decode b_Mo_reads 39 = .ok (.ireturn, 1) := by decide +kernel
theorem d_Mo_reads_40 : decode b_Mo_reads 40 = .ok (.iinc 2 1, 3) := by decide +kernel
theorem d_Mo_reads_43 : decode b_Mo_reads 43 = .ok (.goto (-25), 3) := by decide +kernel
theorem d_Mo_reads_46 : decode b_Mo_reads 46 = .ok (.aload_n 0, 1) := by decide +kernel
theorem d_Mo_reads_47 : decode b_Mo_reads 47 = .ok (.invokevirtual 138, 3) := by decide +kernel
theorem d_Mo_reads_50 : decode b_Mo_reads 50 = .ok (.ifCond .ne 5, 3) := by decide +kernel
theorem d_Mo_reads_53 : decode b_Mo_reads 53 = .ok (.iconst 0, 1) := by decide +kernel
theorem d_Mo_reads_54 : decode b_Mo_reads 54 = .ok (.ireturn, 1) := by decide +kernel
theorem d_Mo_reads_55 : decode b_Mo_reads 55 = .ok (.aload_n 0, 1) := by decide +kernel
theorem d_Mo_reads_56 : decode b_Mo_reads 56 = .ok (.iload_n 1, 1) := by decide +kernel
theorem d_Mo_reads_57 : decode b_Mo_reads 57 = .ok (.invokevirtual 141, 3) := by decide +kernel
theorem d_Mo_reads_60 : decode b_Mo_reads 60 = .ok (.iconst 1, 1) := by decide +kernel
theorem d_Mo_reads_61 : decode b_Mo_reads 61 = .ok (.ireturn, 1) := by decide +kernel
theorem d_Mo_load_0 : decode b_Mo_load 0 = .ok (.aload_n 0, 1) := by decide +kernel
theorem d_Mo_load_1 : decode b_Mo_load 1 = .ok (.iconst 0, 1) := by decide +kernel
theorem d_Mo_load_2 : decode b_Mo_load 2 = .ok (.putfield 45, 3) := by decide +kernel
theorem d_Mo_load_5 : decode b_Mo_load 5 = .ok (.aload_n 0, 1) := by decide +kernel
theorem d_Mo_load_6 : decode b_Mo_load 6 = .ok (.iconst 0, 1) := by decide +kernel
theorem d_Mo_load_7 : decode b_Mo_load 7 = .ok (.putfield 92, 3) := by decide +kernel
theorem d_Mo_load_10 : decode b_Mo_load 10 = .ok (.aload_n 0, 1) := by decide +kernel
theorem d_Mo_load_11 : decode b_Mo_load 11 = .ok (.iconst 0, 1) := by decide +kernel
theorem d_Mo_load_12 : decode b_Mo_load 12 = .ok (.putfield 95, 3) := by decide +kernel
theorem d_Mo_load_15 : decode b_Mo_load 15 = .ok (.aload_n 0, 1) := by decide +kernel
theorem d_Mo_load_16 : decode b_Mo_load 16 = .ok (.getfield 23, 3) := by decide +kernel
theorem d_Mo_load_19 : decode b_Mo_load 19 = .ok (.iconst 2, 1) := by decide +kernel
theorem d_Mo_load_20 : decode b_Mo_load 20 = .ok (.iconst 0, 1) := by decide +kernel
theorem d_Mo_load_21 : decode b_Mo_load 21 = .ok (.iastore, 1) := by decide +kernel
theorem d_Mo_load_22 : decode b_Mo_load 22 = .ok (.aload_n 0, 1) := by decide +kernel
theorem d_Mo_load_23 : decode b_Mo_load 23 = .ok (.getfield 26, 3) := by decide +kernel
theorem d_Mo_load_26 : decode b_Mo_load 26 = .ok (.iconst 2, 1) := by decide +kernel
theorem d_Mo_load_27 : decode b_Mo_load 27 = .ok (.iconst 0, 1) := by decide +kernel
theorem d_Mo_load_28 : decode b_Mo_load 28 = .ok (.iastore, 1) := by decide +kernel
theorem d_Mo_load_29 : decode b_Mo_load 29 = .ok (.aload_n 0, 1) := by decide +kernel
theorem d_Mo_load_30 : decode b_Mo_load 30 = .ok (.invokevirtual 144, 3) := by decide +kernel
theorem d_Mo_load_33 : decode b_Mo_load 33 = .ok (.ifCond .ne 10, 3) := by decide +kernel
theorem d_Mo_load_36 : decode b_Mo_load 36 = .ok (.aload_n 0, 1) := by decide +kernel
theorem d_Mo_load_37 : decode b_Mo_load 37 = .ok (.iconst 1, 1) := by decide +kernel
theorem d_Mo_load_38 : decode b_Mo_load 38 = .ok (.putfield 45, 3) := by decide +kernel
theorem d_Mo_load_41 : decode b_Mo_load 41 = .ok (.iconst 0, 1) := by decide +kernel
theorem d_Mo_load_42 : decode b_Mo_load 42 = .ok (.ireturn, 1) := by decide +kernel
theorem d_Mo_load_43 : decode b_Mo_load 43 = .ok (.aload_n 0, 1) := by decide +kernel
theorem d_Mo_load_44 : decode b_Mo_load 44 = .ok (.getfield 23, 3) := by decide +kernel
theorem d_Mo_load_47 : decode b_Mo_load 47 = .ok (.iconst 1, 1) := by decide +kernel
theorem d_Mo_load_48 : decode b_Mo_load 48 = .ok (.aload_n 0, 1) := by decide +kernel
theorem d_Mo_load_49 : decode b_Mo_load 49 = .ok (.getfield 23, 3) := by decide +kernel
theorem d_Mo_load_52 : decode b_Mo_load 52 = .ok (.iconst 2, 1) := by decide +kernel
theorem d_Mo_load_53 : decode b_Mo_load 53 = .ok (.iaload, 1) := by decide +kernel
theorem d_Mo_load_54 : decode b_Mo_load 54 = .ok (.iastore, 1) := by decide +kernel
theorem d_Mo_load_55 : decode b_Mo_load 55 = .ok (.aload_n 0, 1) := by decide +kernel
theorem d_Mo_load_56 : decode b_Mo_load 56 = .ok (.getfield 26, 3) := by decide +kernel
theorem d_Mo_load_59 : decode b_Mo_load 59 = .ok (.iconst 1, 1) := by decide +kernel
theorem d_Mo_load_60 : decode b_Mo_load 60 = .ok (.aload_n 0, 1) := by decide +kernel
theorem d_Mo_load_61 : decode b_Mo_load 61 = .ok (.getfield 26, 3) := by decide +kernel
theorem d_Mo_load_64 : decode b_Mo_load 64 = .ok (.iconst 2, 1) := by decide +kernel
theorem d_Mo_load_65 : decode b_Mo_load 65 = .ok (.iaload, 1) := by decide +kernel
theorem d_Mo_load_66 : decode b_Mo_load 66 = .ok (.iastore, 1) := by decide +kernel
theorem d_Mo_load_67 : decode b_Mo_load 67 = .ok (.iconst 0, 1) := by decide +kernel
theorem d_Mo_load_68 : decode b_Mo_load 68 = .ok (.istore_n 1, 1) := by decide +kernel
theorem d_Mo_load_69 : decode b_Mo_load 69 = .ok (.iload_n 1, 1) := by decide +kernel
theorem d_Mo_load_70 : decode b_Mo_load 70 = .ok (.bipush 6, 2) := by decide +kernel
theorem d_Mo_load_72 : decode b_Mo_load 72 = .ok (.if_icmp .ge 21, 3) := by decide +kernel
theorem d_Mo_load_75 : decode b_Mo_load 75 = .ok (.aload_n 0, 1) := by decide +kernel
theorem d_Mo_load_76 : decode b_Mo_load 76 = .ok (.bipush 12, 2) := by decide +kernel
theorem d_Mo_load_78 : decode b_Mo_load 78 = .ok (.iload_n 1, 1) := by decide +kernel
theorem d_Mo_load_79 : decode b_Mo_load 79 = .ok (.iadd, 1) := by decide +kernel
theorem d_Mo_load_80 : decode b_Mo_load 80 = .ok (.bipush 6, 2) := by decide +kernel
theorem d_Mo_load_82 : decode b_Mo_load 82 = .ok (.iload_n 1, 1) := by decide +kernel
theorem d_Mo_load_83 : decode b_Mo_load 83 = .ok (.iadd, 1) := by decide +kernel
theorem d_Mo_load_84 : decode b_Mo_load 84 = .ok (.invokevirtual 54, 3) := by decide +kernel
theorem d_Mo_load_87 : decode b_Mo_load 87 = .ok (.iinc 1 1, 3) := by decide +kernel
theorem d_Mo_load_90 : decode b_Mo_load 90 = .ok (.goto (-21), 3) := by decide +kernel
theorem d_Mo_load_93 : decode b_Mo_load 93 = .ok (.iconst 0, 1) := by decide +kernel
theorem d_Mo_load_94 : decode b_Mo_load 94 = .ok (.istore_n 1, 1) := by decide +kernel
theorem d_Mo_load_95 : decode b_Mo_load 95 = .ok (.iload_n 1, 1) := by decide +kernel
theorem d_Mo_load_96 : decode b_Mo_load 96 = .ok (.iconst 3, 1) := by decide +kernel
theorem d_Mo_load_97 : decode b_Mo_load 97 = .ok (.if_icmp .ge 67, 3) := by decide +kernel
theorem d_Mo_load_100 : decode b_Mo_load 100 = .ok (.aload_n 0, 1) := by decide +kernel
theorem d_Mo_load_101 : decode b_Mo_load 101 = .ok (.getfield 29, 3) := by decide +kernel
theorem d_Mo_load_104 : decode b_Mo_load 104 = .ok (.iconst 3, 1) := by decide +kernel
theorem d_Mo_load_105 : decode b_Mo_load 105 = .ok (.iload_n 1, 1) := by decide +kernel
theorem d_Mo_load_106 : decode b_Mo_load 106 = .ok (.iadd, 1) := by decide +kernel
theorem d_Mo_load_107 : decode b_Mo_load 107 = .ok (.aload_n 0, 1) := by decide +kernel
theorem d_Mo_load_108 : decode b_Mo_load 108 = .ok (.getfield 29, 3) := by decide +kernel
theorem d_Mo_load_111 : decode b_Mo_load 111 = .ok (.bipush 6, 2) := by decide +kernel
theorem d_Mo_load_113 : decode b_Mo_load 113 = .ok (.iload_n 1, 1) := by decide +kernel
theorem d_Mo_load_114 : decode b_Mo_load 114 = .ok (.iadd, 1) := by decide +kernel
theorem d_Mo_load_115 : decode b_Mo_load 115 = .ok (.iaload, 1) := by decide +kernel
theorem d_Mo_load_116 : decode b_Mo_load 116 = .ok (.iastore, 1) := by decide +kernel
theorem d_Mo_load_117 : decode b_Mo_load 117 = .ok (.iconst 0, 1) := by decide +kernel
theorem d_Mo_load_118 : decode b_Mo_load 118 = .ok (.istore_n 2, 1) := by decide +kernel
theorem d_Mo_load_119 : decode b_Mo_load 119 = .ok (.iload_n 2, 1) := by decide +kernel
theorem d_Mo_load_120 : decode b_Mo_load 120 = .ok (.bipush 8, 2) := by decide +kernel
theorem d_Mo_load_122 : decode b_Mo_load 122 = .ok (.if_icmp .ge 36, 3) := by decide +kernel
theorem d_Mo_load_125 : decode b_Mo_load 125 = .ok (.aload_n 0, 1) := by decide +kernel
theorem d_Mo_load_126 : decode b_Mo_load 126 = .ok (.getfield 32, 3) := by decide +kernel
theorem d_Mo_load_129 : decode b_Mo_load 129 = .ok (.bipush 8, 2) := by decide +kernel
theorem d_Mo_load_131 : decode b_Mo_load 131 = .ok (.iconst 3, 1) := by decide +kernel
theorem d_Mo_load_132 : decode b_Mo_load 132 = .ok (.iload_n 1, 1) := by decide +kernel
theorem d_Mo_load_133 : decode b_Mo_load 133 = .ok (.iadd, 1) := by decide +kernel
theorem d_Mo_load_134 : decode b_Mo_load 134 = .ok (.imul, 1) := by decide +kernel
theorem d_Mo_load_135 : decode b_Mo_load 135 = .ok (.iload_n 2, 1) := by decide +kernel
theorem d_Mo_load_136 : decode b_Mo_load 136 = .ok (.iadd, 1) := by decide +kernel
theorem d_Mo_load_137 : decode b_Mo_load 137 = .ok (.aload_n 0, 1) := by decide +kernel
theorem d_Mo_load_138 : decode b_Mo_load 138 = .ok (.getfield 32, 3) := by decide +kernel
theorem d_Mo_load_141 : decode b_Mo_load 141 = .ok (.bipush 8, 2) := by decide +kernel
theorem d_Mo_load_143 : decode b_Mo_load 143 = .ok (.bipush 6, 2) := by decide +kernel
theorem d_Mo_load_145 : decode b_Mo_load 145 = .ok (.iload_n 1, 1) := by decide +kernel
theorem d_Mo_load_146 : decode b_Mo_load 146 = .ok (.iadd, 1) := by decide +kernel
theorem d_Mo_load_147 : decode b_Mo_load 147 = .ok (.imul, 1) := by decide +kernel
theorem d_Mo_load_148 : decode b_Mo_load 148 = .ok (.iload_n 2, 1) := by decide +kernel
theorem d_Mo_load_149 : decode b_Mo_load 149 = .ok (.iadd, 1) := by decide +kernel
theorem d_Mo_load_150 : decode b_Mo_load 150 = .ok (.iaload, 1) := by decide +kernel
theorem d_Mo_load_151 : decode b_Mo_load 151 = .ok (.iastore, 1) := by decide +kernel
theorem d_Mo_load_152 : decode b_Mo_load 152 = .ok (.iinc 2 1, 3) := by decide +kernel
theorem d_Mo_load_155 : decode b_Mo_load 155 = .ok (.goto (-36), 3) := by decide +kernel
theorem d_Mo_load_158 : decode b_Mo_load 158 = .ok (.iinc 1 1, 3) := by decide +kernel
theorem d_Mo_load_161 : decode b_Mo_load 161 = .ok (.goto (-66), 3) := by decide +kernel
theorem d_Mo_load_164 : decode b_Mo_load 164 = .ok (.aload_n 0, 1) := by decide +kernel
theorem d_Mo_load_165 : decode b_Mo_load 165 = .ok (.iconst 1, 1) := by decide +kernel
theorem d_Mo_load_166 : decode b_Mo_load 166 = .ok (.putfield 147, 3) := by decide +kernel
theorem d_Mo_load_169 : decode b_Mo_load 169 = .ok (.aload_n 0, 1) := by decide +kernel
theorem d_Mo_load_170 : decode b_Mo_load 170 = .ok (.getfield 23, 3) := by decide +kernel
theorem d_Mo_load_173 : decode b_Mo_load 173 = .ok (.iconst 1, 1) := by decide +kernel
theorem d_Mo_load_174 : decode b_Mo_load 174 = .ok (.iaload, 1) := by decide +kernel
theorem d_Mo_load_175 : decode b_Mo_load 175 = .ok (.ireturn, 1) := by decide +kernel
theorem d_Mo_error_0 : decode b_Mo_error 0 = .ok (.aload_n 0, 1) := by decide +kernel
theorem d_Mo_error_1 : decode b_Mo_error 1 = .ok (.iconst 0, 1) := by decide +kernel
theorem d_Mo_error_2 : decode b_Mo_error 2 = .ok (.putfield 45, 3) := by decide +kernel
theorem d_Mo_error_5 : decode b_Mo_error 5 = .ok (.iload_n 1, 1) := by decide +kernel
theorem d_Mo_error_6 : decode b_Mo_error 6 = .ok (.ifCond .ne 10, 3) := by decide +kernel
theorem d_Mo_error_9 : decode b_Mo_error 9 = .ok (.aload_n 0, 1) := by decide +kernel
theorem d_Mo_error_10 : decode b_Mo_error 10 = .ok (.getfield 92, 3) := by decide +kernel
theorem d_Mo_error_13 : decode b_Mo_error 13 = .ok (.goto 16, 3) := by decide +kernel
theorem d_Mo_error_16 : decode b_Mo_error 16 = .ok (.iload_n 1, 1) := by decide +kernel
theorem d_Mo_error_17 : decode b_Mo_error 17 = .ok (.iconst 1, 1) := by decide +kernel
theorem d_Mo_error_18 : decode b_Mo_error 18 = .ok (.if_icmp .ne 10, 3) := by decide +kernel
theorem d_Mo_error_21 : decode b_Mo_error 21 = .ok (.aload_n 0, 1) := by decide +kernel
theorem d_Mo_error_22 : decode b_Mo_error 22 = .ok (.getfield 95, 3) := by decide +kernel
theorem d_Mo_error_25 : decode b_Mo_error 25 = .ok (.goto 4, 3) := by decide +kernel
theorem d_Mo_error_28 : decode b_Mo_error 28 = .ok (.iconst 0, 1) := by decide +kernel
theorem d_Mo_error_29 : decode b_Mo_error 29 = .ok (.ireturn, 1) := by decide +kernel
theorem d_Mo_core_0 : decode b_Mo_core 0 = .ok (.aload_n 0, 1) := by decide +kernel
theorem d_Mo_core_1 : decode b_Mo_core 1 = .ok (.iconst 0, 1) := by decide +kernel
theorem d_Mo_core_2 : decode b_Mo_core 2 = .ok (.putfield 45, 3) := by decide +kernel
theorem d_Mo_core_5 : decode b_Mo_core 5 = .ok (.aload_n 0, 1) := by decide +kernel
theorem d_Mo_core_6 : decode b_Mo_core 6 = .ok (.getfield 147, 3) := by decide +kernel
theorem d_Mo_core_9 : decode b_Mo_core 9 = .ok (.ifCond .ne 7, 3) := by decide +kernel
theorem d_Mo_core_12 : decode b_Mo_core 12 = .ok (.iconst (-1), 1) := by decide +kernel
theorem d_Mo_core_13 : decode b_Mo_core 13 = .ok (.goto 31, 3) := by decide +kernel
theorem d_Mo_core_16 : decode b_Mo_core 16 = .ok (.iload_n 1, 1) := by decide +kernel
theorem d_Mo_core_17 : decode b_Mo_core 17 = .ok (.ifCond .ne 12, 3) := by decide +kernel
theorem d_Mo_core_20 : decode b_Mo_core 20 = .ok (.aload_n 0, 1) := by decide +kernel
theorem d_Mo_core_21 : decode b_Mo_core 21 = .ok (.getfield 23, 3) := by decide +kernel
theorem d_Mo_core_24 : decode b_Mo_core 24 = .ok (.iconst 1, 1) := by decide +kernel
theorem d_Mo_core_25 : decode b_Mo_core 25 = .ok (.iaload, 1) := by decide +kernel
theorem d_Mo_core_26 : decode b_Mo_core 26 = .ok (.goto 18, 3) := by decide +kernel
theorem d_Mo_core_29 : decode b_Mo_core 29 = .ok (.iload_n 1, 1) := by decide +kernel
theorem d_Mo_core_30 : decode b_Mo_core 30 = .ok (.iconst 1, 1) := by decide +kernel
theorem d_Mo_core_31 : decode b_Mo_core 31 = .ok (.if_icmp .ne 12, 3) := by decide +kernel
theorem d_Mo_core_34 : decode b_Mo_core 34 = .ok (.aload_n 0, 1) := by decide +kernel
theorem d_Mo_core_35 : decode b_Mo_core 35 = .ok (.getfield 26, 3) := by decide +kernel
theorem d_Mo_core_38 : decode b_Mo_core 38 = .ok (.iconst 1, 1) := by decide +kernel
theorem d_Mo_core_39 : decode b_Mo_core 39 = .ok (.iaload, 1) := by decide +kernel
theorem d_Mo_core_40 : decode b_Mo_core 40 = .ok (.goto 4, 3) := by decide +kernel
theorem d_Mo_core_43 : decode b_Mo_core 43 = .ok (.iconst (-1), 1) := by decide +kernel
theorem d_Mo_core_44 : decode b_Mo_core 44 = .ok (.ireturn, 1) := by decide +kernel
theorem d_Mo_peek_0 : decode b_Mo_peek 0 = .ok (.aload_n 0, 1) := by decide +kernel
theorem d_Mo_peek_1 : decode b_Mo_peek 1 = .ok (.iconst 0, 1) := by decide +kernel
theorem d_Mo_peek_2 : decode b_Mo_peek 2 = .ok (.putfield 45, 3) := by decide +kernel
theorem d_Mo_peek_5 : decode b_Mo_peek 5 = .ok (.aload_n 0, 1) := by decide +kernel
theorem d_Mo_peek_6 : decode b_Mo_peek 6 = .ok (.iconst 1, 1) := by decide +kernel
theorem d_Mo_peek_7 : decode b_Mo_peek 7 = .ok (.iload_n 1, 1) := by decide +kernel
theorem d_Mo_peek_8 : decode b_Mo_peek 8 = .ok (.i2l, 1) := by decide +kernel
theorem d_Mo_peek_9 : decode b_Mo_peek 9 = .ok (.invokevirtual 151, 3) := by decide +kernel
theorem d_Mo_peek_12 : decode b_Mo_peek 12 = .ok (.ireturn, 1) := by decide +kernel
theorem d_Mo_flags_0 : decode b_Mo_flags 0 = .ok (.aload_n 0, 1) := by decide +kernel
theorem d_Mo_flags_1 : decode b_Mo_flags 1 = .ok (.iconst 0, 1) := by decide +kernel
theorem d_Mo_flags_2 : decode b_Mo_flags 2 = .ok (.putfield 45, 3) := by decide +kernel
theorem d_Mo_flags_5 : decode b_Mo_flags 5 = .ok (.aload_n 0, 1) := by decide +kernel
theorem d_Mo_flags_6 : decode b_Mo_flags 6 = .ok (.iconst 1, 1) := by decide +kernel
theorem d_Mo_flags_7 : decode b_Mo_flags 7 = .ok (.iload_n 1, 1) := by decide +kernel
theorem d_Mo_flags_8 : decode b_Mo_flags 8 = .ok (.i2l, 1) := by decide +kernel
theorem d_Mo_flags_9 : decode b_Mo_flags 9 = .ok (.invokevirtual 48, 3) := by decide +kernel
theorem d_Mo_flags_12 : decode b_Mo_flags 12 = .ok (.istore_n 2, 1) := by decide +kernel
theorem d_Mo_flags_13 : decode b_Mo_flags 13 = .ok (.iload_n 2, 1) := by decide +kernel
theorem d_Mo_flags_14 : decode b_Mo_flags 14 = .ok (.iconst (-1), 1) := by decide +kernel
theorem d_Mo_flags_15 : decode b_Mo_flags 15 = .ok (.if_icmp .ne 7, 3) := by decide +kernel
theorem d_Mo_flags_18 : decode b_Mo_flags 18 = .ok (.iconst (-1), 1) := by decide +kernel
theorem d_Mo_flags_19 : decode b_Mo_flags 19 = .ok (.goto 9, 3) := by decide +kernel
theorem d_Mo_flags_22 : decode b_Mo_flags 22 = .ok (.aload_n 0, 1) := by decide +kernel
theorem d_Mo_flags_23 : decode b_Mo_flags 23 = .ok (.getfield 16, 3) := by decide +kernel
theorem d_Mo_flags_26 : decode b_Mo_flags 26 = .ok (.iload_n 2, 1) := by decide +kernel
theorem d_Mo_flags_27 : decode b_Mo_flags 27 = .ok (.iaload, 1) := by decide +kernel
theorem d_Mo_flags_28 : decode b_Mo_flags 28 = .ok (.ireturn, 1) := by decide +kernel
theorem d_Mo_register_0 : decode b_Mo_register 0 = .ok (.aload_n 0, 1) := by decide +kernel
theorem d_Mo_register_1 : decode b_Mo_register 1 = .ok (.iload_n 1, 1) := by decide +kernel
theorem d_Mo_register_2 : decode b_Mo_register 2 = .ok (.ifCond .lt 23, 3) := by decide +kernel
theorem d_Mo_register_5 : decode b_Mo_register 5 = .ok (.iload_n 1, 1) := by decide +kernel
theorem d_Mo_register_6 : decode b_Mo_register 6 = .ok (.aload_n 0, 1) := by decide +kernel
theorem d_Mo_register_7 : decode b_Mo_register 7 = .ok (.getfield 26, 3) := by decide +kernel
theorem d_Mo_register_10 : decode b_Mo_register 10 = .ok (.iconst 1, 1) := by decide +kernel
theorem d_Mo_register_11 : decode b_Mo_register 11 = .ok (.iaload, 1) := by decide +kernel
theorem d_Mo_register_12 : decode b_Mo_register 12 = .ok (.if_icmp .ge 13, 3) := by decide +kernel
theorem d_Mo_register_15 : decode b_Mo_register 15 = .ok (.iload_n 2, 1) := by decide +kernel
theorem d_Mo_register_16 : decode b_Mo_register 16 = .ok (.ifCond .lt 9, 3) := by decide +kernel
theorem d_Mo_register_19 : decode b_Mo_register 19 = .ok (.iload_n 2, 1) := by decide +kernel
theorem d_Mo_register_20 : decode b_Mo_register 20 = .ok (.bipush 8, 2) := by decide +kernel
theorem d_Mo_register_22 : decode b_Mo_register 22 = .ok (.if_icmp .le 7, 3) := by decide +kernel
theorem d_Mo_register_25 : decode b_Mo_register 25 = .ok (.iconst 1, 1) := by decide +kernel
theorem d_Mo_register_26 : decode b_Mo_register 26 = .ok (.goto 4, 3) := by decide +kernel
theorem d_Mo_register_29 : decode b_Mo_register 29 = .ok (.iconst 0, 1) := by decide +kernel
theorem d_Mo_register_30 : decode b_Mo_register 30 = .ok (.putfield 45, 3) := by decide +kernel
theorem d_Mo_register_33 : decode b_Mo_register 33 = .ok (.aload_n 0, 1) := by decide +kernel
theorem d_Mo_register_34 : decode b_Mo_register 34 = .ok (.getfield 45, 3) := by decide +kernel
theorem d_Mo_register_37 : decode b_Mo_register 37 = .ok (.iconst 1, 1) := by decide +kernel
theorem d_Mo_register_38 : decode b_Mo_register 38 = .ok (.if_icmp .ne 7, 3) := by decide +kernel
theorem d_Mo_register_41 : decode b_Mo_register 41 = .ok (.iconst 0, 1) := by decide +kernel
theorem d_Mo_register_42 : decode b_Mo_register 42 = .ok (.goto 33, 3) := by decide +kernel
theorem d_Mo_register_45 : decode b_Mo_register 45 = .ok (.iload_n 2, 1) := by decide +kernel
theorem d_Mo_register_46 : decode b_Mo_register 46 = .ok (.bipush 8, 2) := by decide +kernel
theorem d_Mo_register_48 : decode b_Mo_register 48 = .ok (.if_icmp .ne 14, 3) := by decide +kernel
theorem d_Mo_register_51 : decode b_Mo_register 51 = .ok (.aload_n 0, 1) := by decide +kernel
theorem d_Mo_register_52 : decode b_Mo_register 52 = .ok (.getfield 29, 3) := by decide +kernel
theorem d_Mo_register_55 : decode b_Mo_register 55 = .ok (.iconst 3, 1) := by decide +kernel
theorem d_Mo_register_56 : decode b_Mo_register 56 = .ok (.iload_n 1, 1) := by decide +kernel
theorem d_Mo_register_57 : decode b_Mo_register 57 = .ok (.iadd, 1) := by decide +kernel
theorem d_Mo_register_58 : decode b_Mo_register 58 = .ok (.iaload, 1) := by decide +kernel
theorem d_Mo_register_59 : decode b_Mo_register 59 = .ok (.goto 16, 3) := by decide +kernel
theorem d_Mo_register_62 : decode b_Mo_register 62 = .ok (.aload_n 0, 1) := by decide +kernel
theorem d_Mo_register_63 : decode b_Mo_register 63 = .ok (.getfield 32, 3) := by decide +kernel
theorem d_Mo_register_66 : decode b_Mo_register 66 = .ok (.bipush 8, 2) := by decide +kernel
theorem d_Mo_register_68 : decode b_Mo_register 68 = .ok (.iconst 3, 1) := by decide +kernel
theorem d_Mo_register_69 : decode b_Mo_register 69 = .ok (.iload_n 1, 1) := by decide +kernel
theorem d_Mo_register_70 : decode b_Mo_register 70 = .ok (.iadd, 1) := by decide +kernel
theorem d_Mo_register_71 : decode b_Mo_register 71 = .ok (.imul, 1) := by decide +kernel
theorem d_Mo_register_72 : decode b_Mo_register 72 = .ok (.iload_n 2, 1) := by decide +kernel
theorem d_Mo_register_73 : decode b_Mo_register 73 = .ok (.iadd, 1) := by decide +kernel
theorem d_Mo_register_74 : decode b_Mo_register 74 = .ok (.iaload, 1) := by decide +kernel
theorem d_Mo_register_75 : decode b_Mo_register 75 = .ok (.ireturn, 1) := by decide +kernel
theorem d_Mo_number_0 : decode b_Mo_number 0 = .ok (.aload_n 0, 1) := by decide +kernel
theorem d_Mo_number_1 : decode b_Mo_number 1 = .ok (.iconst 1, 1) := by decide +kernel
theorem d_Mo_number_2 : decode b_Mo_number 2 = .ok (.lload_n 1, 1) := by decide +kernel
theorem d_Mo_number_3 : decode b_Mo_number 3 = .ok (.invokevirtual 151, 3) := by decide +kernel
theorem d_Mo_number_6 : decode b_Mo_number 6 = .ok (.aload_n 0, 1) := by decide +kernel
theorem d_Mo_number_7 : decode b_Mo_number 7 = .ok (.iconst 1, 1) := by decide +kernel
theorem d_Mo_number_8 : decode b_Mo_number 8 = .ok (.lload_n 1, 1) := by decide +kernel
theorem d_Mo_number_9 : decode b_Mo_number 9 = .ok (.lconst 1, 1) := by decide +kernel
theorem d_Mo_number_10 : decode b_Mo_number 10 = .ok (.ladd, 1) := by decide +kernel
theorem d_Mo_number_11 : decode b_Mo_number 11 = .ok (.invokevirtual 151, 3) := by decide +kernel
theorem d_Mo_number_14 : decode b_Mo_number 14 = .ok (.bipush 8, 2) := by decide +kernel
theorem d_Mo_number_16 : decode b_Mo_number 16 = .ok (.ishl, 1) := by decide +kernel
theorem d_Mo_number_17 : decode b_Mo_number 17 = .ok (.ior, 1) := by decide +kernel
theorem d_Mo_number_18 : decode b_Mo_number 18 = .ok (.aload_n 0, 1) := by decide +kernel
theorem d_Mo_number_19 : decode b_Mo_number 19 = .ok (.iconst 1, 1) := by decide +kernel
theorem d_Mo_number_20 : decode b_Mo_number 20 = .ok (.lload_n 1, 1) := by decide +kernel
theorem d_Mo_number_21 : decode b_Mo_number 21 = .ok (.ldc2_w 154, 3) := by decide +kernel
theorem d_Mo_number_24 : decode b_Mo_number 24 = .ok (.ladd, 1) := by decide +kernel
theorem d_Mo_number_25 : decode b_Mo_number 25 = .ok (.invokevirtual 151, 3) := by decide +kernel
theorem d_Mo_number_28 : decode b_Mo_number 28 = .ok (.bipush 16, 2) := by decide +kernel
theorem d_Mo_number_30 : decode b_Mo_number 30 = .ok (.ishl, 1) := by decide +kernel
theorem d_Mo_number_31 : decode b_Mo_number 31 = .ok (.ior, 1) := by decide +kernel
theorem d_Mo_number_32 : decode b_Mo_number 32 = .ok (.aload_n 0, 1) := by decide +kernel
theorem d_Mo_number_33 : decode b_Mo_number 33 = .ok (.iconst 1, 1) := by decide +kernel
theorem d_Mo_number_34 : decode b_Mo_number 34 = .ok (.lload_n 1, 1) := by decide +kernel
theorem d_Mo_number_35 : decode b_Mo_number 35 = .ok (.ldc2_w 123, 3) := by decide +kernel
theorem d_Mo_number_38 : decode b_Mo_number 38 = .ok (.ladd, 1) := by decide +kernel
theorem d_Mo_number_39 : decode b_Mo_number 39 = .ok (.invokevirtual 151, 3) := by decide +kernel
theorem d_Mo_number_42 : decode b_Mo_number 42 = .ok (.bipush 24, 2) := by decide +kernel
theorem d_Mo_number_44 : decode b_Mo_number 44 = .ok (.ishl, 1) := by decide +kernel
theorem d_Mo_number_45 : decode b_Mo_number 45 = .ok (.ior, 1) := by decide +kernel
theorem d_Mo_number_46 : decode b_Mo_number 46 = .ok (.ireturn, 1) := by decide +kernel
theorem d_Mo_find_0 : decode b_Mo_find 0 = .ok (.aload_n 0, 1) := by decide +kernel
theorem d_Mo_find_1 : decode b_Mo_find 1 = .ok (.iconst 0, 1) := by decide +kernel
theorem d_Mo_find_2 : decode b_Mo_find 2 = .ok (.putfield 45, 3) := by decide +kernel
theorem d_Mo_find_5 : decode b_Mo_find 5 = .ok (.iconst (-1), 1) := by decide +kernel
theorem d_Mo_find_6 : decode b_Mo_find 6 = .ok (.istore_n 3, 1) := by decide +kernel
theorem d_Mo_find_7 : decode b_Mo_find 7 = .ok (.bipush 6, 2) := by decide +kernel
theorem d_Mo_find_9 : decode b_Mo_find 9 = .ok (.istore 4, 2) := by decide +kernel
theorem d_Mo_find_11 : decode b_Mo_find 11 = .ok (.iload 4, 2) := by decide +kernel
theorem d_Mo_find_13 : decode b_Mo_find 13 = .ok (.bipush 6, 2) := by decide +kernel
theorem d_Mo_find_15 : decode b_Mo_find 15 = .ok (.aload_n 0, 1) := by decide +kernel
theorem d_Mo_find_16 : decode b_Mo_find 16 = .ok (.getfield 23, 3) := by decide +kernel
theorem d_Mo_find_19 : decode b_Mo_find 19 = .ok (.iconst 1, 1) := by decide +kernel
theorem d_Mo_find_20 : decode b_Mo_find 20 = .ok (.iaload, 1) := by decide +kernel
theorem d_Mo_find_21 : decode b_Mo_find 21 = .ok (.iadd, 1) := by decide +kernel
theorem d_Mo_find_22 : decode b_Mo_find 22 = .ok (.if_icmp .ge 91, 3) := by decide +kernel
theorem d_Mo_find_25 : decode b_Mo_find 25 = .ok (.iconst 0, 1) := by decide +kernel
theorem d_Mo_find_26 : decode b_Mo_find 26 = .ok (.istore 5, 2) := by decide +kernel
theorem d_Mo_find_28 : decode b_Mo_find 28 = .ok (.iload 5, 2) := by decide +kernel
theorem d_Mo_find_30 : decode b_Mo_find 30 = .ok (.iconst 4, 1) := by decide +kernel
theorem d_Mo_find_31 : decode b_Mo_find 31 = .ok (.iadd, 1) := by decide +kernel
theorem d_Mo_find_32 : decode b_Mo_find 32 = .ok (.aload_n 0, 1) := by decide +kernel
theorem d_Mo_find_33 : decode b_Mo_find 33 = .ok (.getfield 13, 3) := by decide +kernel
theorem d_Mo_find_36 : decode b_Mo_find 36 = .ok (.iload 4, 2) := by decide +kernel
theorem d_Mo_find_38 : decode b_Mo_find 38 = .ok (.iaload, 1) := by decide +kernel
theorem d_Mo_find_39 : decode b_Mo_find 39 = .ok (.if_icmp .gt 68, 3) := by decide +kernel
theorem d_Mo_find_42 : decode b_Mo_find 42 = .ok (.aload_n 0, 1) := by decide +kernel
theorem d_Mo_find_43 : decode b_Mo_find 43 = .ok (.getfield 7, 3) := by decide +kernel
theorem d_Mo_find_46 : decode b_Mo_find 46 = .ok (.iload 4, 2) := by decide +kernel
theorem d_Mo_find_48 : decode b_Mo_find 48 = .ok (.iaload, 1) := by decide +kernel
theorem d_Mo_find_49 : decode b_Mo_find 49 = .ok (.iload 5, 2) := by decide +kernel
theorem d_Mo_find_51 : decode b_Mo_find 51 = .ok (.iadd, 1) := by decide +kernel
theorem d_Mo_find_52 : decode b_Mo_find 52 = .ok (.istore 6, 2) := by decide +kernel
theorem d_Mo_find_54 : decode b_Mo_find 54 = .ok (.iload 6, 2) := by decide +kernel
theorem d_Mo_find_56 : decode b_Mo_find 56 = .ok (.iload_n 2, 1) := by decide +kernel
theorem d_Mo_find_57 : decode b_Mo_find 57 = .ok (.if_icmp .lt 18, 3) := by decide +kernel
theorem d_Mo_find_60 : decode b_Mo_find 60 = .ok (.iload_n 3, 1) := by decide +kernel
theorem d_Mo_find_61 : decode b_Mo_find 61 = .ok (.iconst (-1), 1) := by decide +kernel
theorem d_Mo_find_62 : decode b_Mo_find 62 = .ok (.if_icmp .eq 9, 3) := by decide +kernel
theorem d_Mo_find_65 : decode b_Mo_find 65 = .ok (.iload 6, 2) := by decide +kernel
theorem d_Mo_find_67 : decode b_Mo_find 67 = .ok (.iload_n 3, 1) := by decide +kernel
theorem d_Mo_find_68 : decode b_Mo_find 68 = .ok (.if_icmp .ge 7, 3) := by decide +kernel
theorem d_Mo_find_71 : decode b_Mo_find 71 = .ok (.iconst 1, 1) := by decide +kernel
theorem d_Mo_find_72 : decode b_Mo_find 72 = .ok (.goto 4, 3) := by decide +kernel
theorem d_Mo_find_75 : decode b_Mo_find 75 = .ok (.iconst 0, 1) := by decide +kernel
theorem d_Mo_find_76 : decode b_Mo_find 76 = .ok (.istore 7, 2) := by decide +kernel
theorem d_Mo_find_78 : decode b_Mo_find 78 = .ok (.iload 7, 2) := by decide +kernel
theorem d_Mo_find_80 : decode b_Mo_find 80 = .ok (.ifCond .eq 19, 3) := by decide +kernel
theorem d_Mo_find_83 : decode b_Mo_find 83 = .ok (.aload_n 0, 1) := by decide +kernel
theorem d_Mo_find_84 : decode b_Mo_find 84 = .ok (.iload 6, 2) := by decide +kernel
theorem d_Mo_find_86 : decode b_Mo_find 86 = .ok (.i2l, 1) := by decide +kernel
theorem d_Mo_find_87 : decode b_Mo_find 87 = .ok (.invokevirtual 156, 3) := by decide +kernel
theorem d_Mo_find_90 : decode b_Mo_find 90 = .ok (.iload_n 1, 1) := by decide +kernel
theorem d_Mo_find_91 : decode b_Mo_find 91 = .ok (.if_icmp .ne 8, 3) := by decide +kernel
theorem d_Mo_find_94 : decode b_Mo_find 94 = .ok (.iload 6, 2) := by decide +kernel
theorem d_Mo_find_96 : decode b_Mo_find 96 = .ok (.goto 4, 3) := by decide +kernel
theorem d_Mo_find_99 : decode b_Mo_find 99 = .ok (.iload_n 3, 1) := by decide +kernel
theorem d_Mo_find_100 : decode b_Mo_find 100 = .ok (.istore_n 3, 1) := by decide +kernel
theorem d_Mo_find_101 : decode b_Mo_find 101 = .ok (.iinc 5 1, 3) := by decide +kernel
theorem d_Mo_find_104 : decode b_Mo_find 104 = .ok (.goto (-76), 3) := by decide +kernel
theorem d_Mo_find_107 : decode b_Mo_find 107 = .ok (.iinc 4 1, 3) := by decide +kernel
theorem d_Mo_find_110 : decode b_Mo_find 110 = .ok (.goto (-99), 3) := by decide +kernel
theorem d_Mo_find_113 : decode b_Mo_find 113 = .ok (.iload_n 3, 1) := by decide +kernel
theorem d_Mo_find_114 : decode b_Mo_find 114 = .ok (.ireturn, 1) := by decide +kernel
theorem d_Mo_caller_0 : decode b_Mo_caller 0 = .ok (.aload_n 0, 1) := by decide +kernel
theorem d_Mo_caller_1 : decode b_Mo_caller 1 = .ok (.iconst 0, 1) := by decide +kernel
theorem d_Mo_caller_2 : decode b_Mo_caller 2 = .ok (.putfield 45, 3) := by decide +kernel
theorem d_Mo_caller_5 : decode b_Mo_caller 5 = .ok (.iload_n 1, 1) := by decide +kernel
theorem d_Mo_caller_6 : decode b_Mo_caller 6 = .ok (.ifCond .lt 17, 3) := by decide +kernel
theorem d_Mo_caller_9 : decode b_Mo_caller 9 = .ok (.iload_n 1, 1) := by decide +kernel
theorem d_Mo_caller_10 : decode b_Mo_caller 10 = .ok (.aload_n 0, 1) := by decide +kernel
theorem d_Mo_caller_11 : decode b_Mo_caller 11 = .ok (.getfield 26, 3) := by decide +kernel
theorem d_Mo_caller_14 : decode b_Mo_caller 14 = .ok (.iconst 1, 1) := by decide +kernel
theorem d_Mo_caller_15 : decode b_Mo_caller 15 = .ok (.iaload, 1) := by decide +kernel
theorem d_Mo_caller_16 : decode b_Mo_caller 16 = .ok (.if_icmp .ge 7, 3) := by decide +kernel
theorem d_Mo_caller_19 : decode b_Mo_caller 19 = .ok (.iload_n 2, 1) := by decide +kernel
theorem d_Mo_caller_20 : decode b_Mo_caller 20 = .ok (.ifCond .ge 5, 3) := by decide +kernel
theorem d_Mo_caller_23 : decode b_Mo_caller 23 = .ok (.iconst (-1), 1) := by decide +kernel
theorem d_Mo_caller_24 : decode b_Mo_caller 24 = .ok (.ireturn, 1) := by decide +kernel
theorem d_Mo_caller_25 : decode b_Mo_caller 25 = .ok (.aload_n 0, 1) := by decide +kernel
theorem d_Mo_caller_26 : decode b_Mo_caller 26 = .ok (.getfield 32, 3) := by decide +kernel
theorem d_Mo_caller_29 : decode b_Mo_caller 29 = .ok (.bipush 8, 2) := by decide +kernel
theorem d_Mo_caller_31 : decode b_Mo_caller 31 = .ok (.iconst 3, 1) := by decide +kernel
theorem d_Mo_caller_32 : decode b_Mo_caller 32 = .ok (.iload_n 1, 1) := by decide +kernel
theorem d_Mo_caller_33 : decode b_Mo_caller 33 = .ok (.iadd, 1) := by decide +kernel
theorem d_Mo_caller_34 : decode b_Mo_caller 34 = .ok (.imul, 1) := by decide +kernel
theorem d_Mo_caller_35 : decode b_Mo_caller 35 = .ok (.bipush 7, 2) := by decide +kernel
theorem d_Mo_caller_37 : decode b_Mo_caller 37 = .ok (.iadd, 1) := by decide +kernel
theorem d_Mo_caller_38 : decode b_Mo_caller 38 = .ok (.iaload, 1) := by decide +kernel
theorem d_Mo_caller_39 : decode b_Mo_caller 39 = .ok (.i2l, 1) := by decide +kernel
theorem d_Mo_caller_40 : decode b_Mo_caller 40 = .ok (.lstore_n 3, 1) := by decide +kernel
theorem d_Mo_caller_41 : decode b_Mo_caller 41 = .ok (.lconst 0, 1) := by decide +kernel
theorem d_Mo_caller_42 : decode b_Mo_caller 42 = .ok (.lstore 5, 2) := by decide +kernel
theorem d_Mo_caller_44 : decode b_Mo_caller 44 = .ok (.iconst 0, 1) := by decide +kernel
theorem d_Mo_caller_45 : decode b_Mo_caller 45 = .ok (.istore 7, 2) := by decide +kernel
theorem d_Mo_caller_47 : decode b_Mo_caller 47 = .ok (.lload_n 3, 1) := by decide +kernel
theorem d_Mo_caller_48 : decode b_Mo_caller 48 = .ok (.lload 5, 2) := by decide +kernel
theorem d_Mo_caller_50 : decode b_Mo_caller 50 = .ok (.lcmp, 1) := by decide +kernel
theorem d_Mo_caller_51 : decode b_Mo_caller 51 = .ok (.ifCond .le 67, 3) := by decide +kernel
theorem d_Mo_caller_54 : decode b_Mo_caller 54 = .ok (.iconst 0, 1) := by decide +kernel
theorem d_Mo_caller_55 : decode b_Mo_caller 55 = .ok (.istore 8, 2) := by decide +kernel
theorem d_Mo_caller_57 : decode b_Mo_caller 57 = .ok (.iload 8, 2) := by decide +kernel
theorem d_Mo_caller_59 : decode b_Mo_caller 59 = .ok (.bipush 8, 2) := by decide +kernel
theorem d_Mo_caller_61 : decode b_Mo_caller 61 = .ok (.if_icmp .ge 25, 3) := by decide +kernel
theorem d_Mo_caller_64 : decode b_Mo_caller 64 = .ok (.aload_n 0, 1) := by decide +kernel
theorem d_Mo_caller_65 : decode b_Mo_caller 65 = .ok (.iconst 1, 1) := by decide +kernel
theorem d_Mo_caller_66 : decode b_Mo_caller 66 = .ok (.lload_n 3, 1) := by decide +kernel
theorem d_Mo_caller_67 : decode b_Mo_caller 67 = .ok (.iload 8, 2) := by decide +kernel
theorem d_Mo_caller_69 : decode b_Mo_caller 69 = .ok (.i2l, 1) := by decide +kernel
theorem d_Mo_caller_70 : decode b_Mo_caller 70 = .ok (.ladd, 1) := by decide +kernel
theorem d_Mo_caller_71 : decode b_Mo_caller 71 = .ok (.invokevirtual 48, 3) := by decide +kernel
theorem d_Mo_caller_74 : decode b_Mo_caller 74 = .ok (.iconst (-1), 1) := by decide +kernel
theorem d_Mo_caller_75 : decode b_Mo_caller 75 = .ok (.if_icmp .ne 5, 3) := by decide +kernel
theorem d_Mo_caller_78 : decode b_Mo_caller 78 = .ok (.iconst (-1), 1) := by decide +kernel
theorem d_Mo_caller_79 : decode b_Mo_caller 79 = .ok (.ireturn, 1) := by decide +kernel
theorem d_Mo_caller_80 : decode b_Mo_caller 80 = .ok (.iinc 8 1, 3) := by decide +kernel
theorem d_Mo_caller_83 : decode b_Mo_caller 83 = .ok (.goto (-26), 3) := by decide +kernel
theorem d_Mo_caller_86 : decode b_Mo_caller 86 = .ok (.iload 7, 2) := by decide +kernel
theorem d_Mo_caller_88 : decode b_Mo_caller 88 = .ok (.iload_n 2, 1) := by decide +kernel
theorem d_Mo_caller_89 : decode b_Mo_caller 89 = .ok (.if_icmp .ne 13, 3) := by decide +kernel
theorem d_Mo_caller_92 : decode b_Mo_caller 92 = .ok (.aload_n 0, 1) := by decide +kernel
theorem d_Mo_caller_93 : decode b_Mo_caller 93 = .ok (.lload_n 3, 1) := by decide +kernel
theorem d_Mo_caller_94 : decode b_Mo_caller 94 = .ok (.ldc2_w 125, 3) := by decide +kernel
theorem d_Mo_caller_97 : decode b_Mo_caller 97 = .ok (.ladd, 1) := by decide +kernel
theorem d_Mo_caller_98 : decode b_Mo_caller 98 = .ok (.invokevirtual 156, 3) := by decide +kernel
theorem d_Mo_caller_101 : decode b_Mo_caller 101 = .ok (.ireturn, 1) := by decide +kernel
theorem d_Mo_caller_102 : decode b_Mo_caller 102 = .ok (.lload_n 3, 1) := by decide +kernel
theorem d_Mo_caller_103 : decode b_Mo_caller 103 = .ok (.lstore 5, 2) := by decide +kernel
theorem d_Mo_caller_105 : decode b_Mo_caller 105 = .ok (.aload_n 0, 1) := by decide +kernel
theorem d_Mo_caller_106 : decode b_Mo_caller 106 = .ok (.lload_n 3, 1) := by decide +kernel
theorem d_Mo_caller_107 : decode b_Mo_caller 107 = .ok (.invokevirtual 156, 3) := by decide +kernel
theorem d_Mo_caller_110 : decode b_Mo_caller 110 = .ok (.i2l, 1) := by decide +kernel
theorem d_Mo_caller_111 : decode b_Mo_caller 111 = .ok (.lstore_n 3, 1) := by decide +kernel
theorem d_Mo_caller_112 : decode b_Mo_caller 112 = .ok (.iinc 7 1, 3) := by decide +kernel
theorem d_Mo_caller_115 : decode b_Mo_caller 115 = .ok (.goto (-68), 3) := by decide +kernel
theorem d_Mo_caller_118 : decode b_Mo_caller 118 = .ok (.iconst (-1), 1) := by decide +kernel
theorem d_Mo_caller_119 : decode b_Mo_caller 119 = .ok (.ireturn, 1) := by decide +kernel

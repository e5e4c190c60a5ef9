/-! printed by wip/gen/emit_all.py: X12_goes X12_exam X12_table X12_exams X12_count X12_status -/
theorem dX12_goes_0 : decode cX12_goes 0 = .ok (.aload_n 0, 1) := by decide +kernel
theorem dX12_goes_1 : decode cX12_goes 1 = .ok (.invokevirtual 334, 3) := by decide +kernel
theorem dX12_goes_4 : decode cX12_goes 4 = .ok (.iconst 0, 1) := by decide +kernel
theorem dX12_goes_5 : decode cX12_goes 5 = .ok (.istore_n 1, 1) := by decide +kernel
theorem dX12_goes_6 : decode cX12_goes 6 = .ok (.iconst 0, 1) := by decide +kernel
theorem dX12_goes_7 : decode cX12_goes 7 = .ok (.istore_n 2, 1) := by decide +kernel
theorem dX12_goes_8 : decode cX12_goes 8 = .ok (.iconst 0, 1) := by decide +kernel
theorem dX12_goes_9 : decode cX12_goes 9 = .ok (.istore_n 3, 1) := by decide +kernel
theorem dX12_goes_10 : decode cX12_goes 10 = .ok (.iload_n 3, 1) := by decide +kernel
theorem dX12_goes_11 : decode cX12_goes 11 = .ok (.aload_n 0, 1) := by decide +kernel
theorem dX12_goes_12 : decode cX12_goes 12 = .ok (.invokevirtual 146, 3) := by decide +kernel
theorem dX12_goes_15 : decode cX12_goes 15 = .ok (.if_icmp .ge 37, 3) := by decide +kernel
theorem dX12_goes_18 : decode cX12_goes 18 = .ok (.aload_n 0, 1) := by decide +kernel
theorem dX12_goes_19 : decode cX12_goes 19 = .ok (.iload_n 3, 1) := by decide +kernel
theorem dX12_goes_20 : decode cX12_goes 20 = .ok (.invokevirtual 154, 3) := by decide +kernel
theorem dX12_goes_23 : decode cX12_goes 23 = .ok (.ifCond .ne 6, 3) := by decide +kernel
theorem dX12_goes_26 : decode cX12_goes 26 = .ok (.goto 20, 3) := by decide +kernel
theorem dX12_goes_29 : decode cX12_goes 29 = .ok (.iload_n 1, 1) := by decide +kernel
theorem dX12_goes_30 : decode cX12_goes 30 = .ok (.iconst 1, 1) := by decide +kernel
theorem dX12_goes_31 : decode cX12_goes 31 = .ok (.iload_n 3, 1) := by decide +kernel
theorem dX12_goes_32 : decode cX12_goes 32 = .ok (.ishl, 1) := by decide +kernel
theorem dX12_goes_33 : decode cX12_goes 33 = .ok (.ior, 1) := by decide +kernel
theorem dX12_goes_34 : decode cX12_goes 34 = .ok (.istore_n 1, 1) := by decide +kernel
theorem dX12_goes_35 : decode cX12_goes 35 = .ok (.iload_n 2, 1) := by decide +kernel
theorem dX12_goes_36 : decode cX12_goes 36 = .ok (.aload_n 0, 1) := by decide +kernel
theorem dX12_goes_37 : decode cX12_goes 37 = .ok (.iload_n 3, 1) := by decide +kernel
theorem dX12_goes_38 : decode cX12_goes 38 = .ok (.iconst 3, 1) := by decide +kernel
theorem dX12_goes_39 : decode cX12_goes 39 = .ok (.invokevirtual 150, 3) := by decide +kernel
theorem dX12_goes_42 : decode cX12_goes 42 = .ok (.iload_n 3, 1) := by decide +kernel
theorem dX12_goes_43 : decode cX12_goes 43 = .ok (.ishl, 1) := by decide +kernel
theorem dX12_goes_44 : decode cX12_goes 44 = .ok (.ior, 1) := by decide +kernel
theorem dX12_goes_45 : decode cX12_goes 45 = .ok (.istore_n 2, 1) := by decide +kernel
theorem dX12_goes_46 : decode cX12_goes 46 = .ok (.iinc 3 1, 3) := by decide +kernel
theorem dX12_goes_49 : decode cX12_goes 49 = .ok (.goto (-39), 3) := by decide +kernel
theorem dX12_goes_52 : decode cX12_goes 52 = .ok (.aload_n 0, 1) := by decide +kernel
theorem dX12_goes_53 : decode cX12_goes 53 = .ok (.iconst 0, 1) := by decide +kernel
theorem dX12_goes_54 : decode cX12_goes 54 = .ok (.invokevirtual 318, 3) := by decide +kernel
theorem dX12_goes_57 : decode cX12_goes 57 = .ok (.istore_n 3, 1) := by decide +kernel
theorem dX12_goes_58 : decode cX12_goes 58 = .ok (.iload_n 3, 1) := by decide +kernel
theorem dX12_goes_59 : decode cX12_goes 59 = .ok (.iload_n 1, 1) := by decide +kernel
theorem dX12_goes_60 : decode cX12_goes 60 = .ok (.invokestatic 502, 3) := by decide +kernel
theorem dX12_goes_63 : decode cX12_goes 63 = .ok (.if_icmp .ge 7, 3) := by decide +kernel
theorem dX12_goes_66 : decode cX12_goes 66 = .ok (.iconst 1, 1) := by decide +kernel
theorem dX12_goes_67 : decode cX12_goes 67 = .ok (.goto 4, 3) := by decide +kernel
theorem dX12_goes_70 : decode cX12_goes 70 = .ok (.iconst 0, 1) := by decide +kernel
theorem dX12_goes_71 : decode cX12_goes 71 = .ok (.istore 4, 2) := by decide +kernel
theorem dX12_goes_73 : decode cX12_goes 73 = .ok (.aload_n 0, 1) := by decide +kernel
theorem dX12_goes_74 : decode cX12_goes 74 = .ok (.iload 4, 2) := by decide +kernel
theorem dX12_goes_76 : decode cX12_goes 76 = .ok (.ifCond .eq 7, 3) := by decide +kernel
theorem dX12_goes_79 : decode cX12_goes 79 = .ok (.iconst 0, 1) := by decide +kernel
theorem dX12_goes_80 : decode cX12_goes 80 = .ok (.goto 4, 3) := by decide +kernel
theorem dX12_goes_83 : decode cX12_goes 83 = .ok (.iload_n 1, 1) := by decide +kernel
theorem dX12_goes_84 : decode cX12_goes 84 = .ok (.putfield 505, 3) := by decide +kernel
theorem dX12_goes_87 : decode cX12_goes 87 = .ok (.iload 4, 2) := by decide +kernel
theorem dX12_goes_89 : decode cX12_goes 89 = .ok (.ifCond .eq 39, 3) := by decide +kernel
theorem dX12_goes_92 : decode cX12_goes 92 = .ok (.iload_n 2, 1) := by decide +kernel
theorem dX12_goes_93 : decode cX12_goes 93 = .ok (.ifCond .eq 35, 3) := by decide +kernel
theorem dX12_goes_96 : decode cX12_goes 96 = .ok (.aload_n 0, 1) := by decide +kernel
theorem dX12_goes_97 : decode cX12_goes 97 = .ok (.bipush 100, 2) := by decide +kernel
theorem dX12_goes_99 : decode cX12_goes 99 = .ok (.invokevirtual 508, 3) := by decide +kernel
theorem dX12_goes_102 : decode cX12_goes 102 = .ok (.aload_n 0, 1) := by decide +kernel
theorem dX12_goes_103 : decode cX12_goes 103 = .ok (.iconst 3, 1) := by decide +kernel
theorem dX12_goes_104 : decode cX12_goes 104 = .ok (.invokevirtual 318, 3) := by decide +kernel
theorem dX12_goes_107 : decode cX12_goes 107 = .ok (.if_icmp .ge 21, 3) := by decide +kernel
theorem dX12_goes_110 : decode cX12_goes 110 = .ok (.aload_n 0, 1) := by decide +kernel
theorem dX12_goes_111 : decode cX12_goes 111 = .ok (.iconst 1, 1) := by decide +kernel
theorem dX12_goes_112 : decode cX12_goes 112 = .ok (.iload_n 2, 1) := by decide +kernel
theorem dX12_goes_113 : decode cX12_goes 113 = .ok (.aload_n 0, 1) := by decide +kernel
theorem dX12_goes_114 : decode cX12_goes 114 = .ok (.iload_n 2, 1) := by decide +kernel
theorem dX12_goes_115 : decode cX12_goes 115 = .ok (.invokestatic 502, 3) := by decide +kernel
theorem dX12_goes_118 : decode cX12_goes 118 = .ok (.invokevirtual 508, 3) := by decide +kernel
theorem dX12_goes_121 : decode cX12_goes 121 = .ok (.invokestatic 511, 3) := by decide +kernel
theorem dX12_goes_124 : decode cX12_goes 124 = .ok (.ishl, 1) := by decide +kernel
theorem dX12_goes_125 : decode cX12_goes 125 = .ok (.putfield 505, 3) := by decide +kernel
theorem dX12_goes_128 : decode cX12_goes 128 = .ok (.iload 4, 2) := by decide +kernel
theorem dX12_goes_130 : decode cX12_goes 130 = .ok (.ifCond .eq 54, 3) := by decide +kernel
theorem dX12_goes_133 : decode cX12_goes 133 = .ok (.aload_n 0, 1) := by decide +kernel
theorem dX12_goes_134 : decode cX12_goes 134 = .ok (.getfield 505, 3) := by decide +kernel
theorem dX12_goes_137 : decode cX12_goes 137 = .ok (.invokestatic 502, 3) := by decide +kernel
theorem dX12_goes_140 : decode cX12_goes 140 = .ok (.iload_n 3, 1) := by decide +kernel
theorem dX12_goes_141 : decode cX12_goes 141 = .ok (.if_icmp .ge 43, 3) := by decide +kernel
theorem dX12_goes_144 : decode cX12_goes 144 = .ok (.aload_n 0, 1) := by decide +kernel
theorem dX12_goes_145 : decode cX12_goes 145 = .ok (.aload_n 0, 1) := by decide +kernel
theorem dX12_goes_146 : decode cX12_goes 146 = .ok (.getfield 505, 3) := by decide +kernel
theorem dX12_goes_149 : decode cX12_goes 149 = .ok (.iconst 1, 1) := by decide +kernel
theorem dX12_goes_150 : decode cX12_goes 150 = .ok (.iload_n 1, 1) := by decide +kernel
theorem dX12_goes_151 : decode cX12_goes 151 = .ok (.aload_n 0, 1) := by decide +kernel
theorem dX12_goes_152 : decode cX12_goes 152 = .ok (.getfield 505, 3) := by decide +kernel
theorem dX12_goes_155 : decode cX12_goes 155 = .ok (.iconst (-1), 1) := by decide +kernel
theorem dX12_goes_156 : decode cX12_goes 156 = .ok (.ixor, 1) := by decide +kernel
theorem dX12_goes_157 : decode cX12_goes 157 = .ok (.iand, 1) := by decide +kernel
theorem dX12_goes_158 : decode cX12_goes 158 = .ok (.aload_n 0, 1) := by decide +kernel
theorem dX12_goes_159 : decode cX12_goes 159 = .ok (.iload_n 1, 1) := by decide +kernel
theorem dX12_goes_160 : decode cX12_goes 160 = .ok (.aload_n 0, 1) := by decide +kernel
theorem dX12_goes_161 : decode cX12_goes 161 = .ok (.getfield 505, 3) := by decide +kernel
theorem dX12_goes_164 : decode cX12_goes 164 = .ok (.iconst (-1), 1) := by decide +kernel
theorem dX12_goes_165 : decode cX12_goes 165 = .ok (.ixor, 1) := by decide +kernel
theorem dX12_goes_166 : decode cX12_goes 166 = .ok (.iand, 1) := by decide +kernel
theorem dX12_goes_167 : decode cX12_goes 167 = .ok (.invokestatic 502, 3) := by decide +kernel
theorem dX12_goes_170 : decode cX12_goes 170 = .ok (.invokevirtual 508, 3) := by decide +kernel
theorem dX12_goes_173 : decode cX12_goes 173 = .ok (.invokestatic 511, 3) := by decide +kernel
theorem dX12_goes_176 : decode cX12_goes 176 = .ok (.ishl, 1) := by decide +kernel
theorem dX12_goes_177 : decode cX12_goes 177 = .ok (.ior, 1) := by decide +kernel
theorem dX12_goes_178 : decode cX12_goes 178 = .ok (.putfield 505, 3) := by decide +kernel
theorem dX12_goes_181 : decode cX12_goes 181 = .ok (.goto (-53), 3) := by decide +kernel
theorem dX12_goes_184 : decode cX12_goes 184 = .ok (.aload_n 0, 1) := by decide +kernel
theorem dX12_goes_185 : decode cX12_goes 185 = .ok (.iconst 0, 1) := by decide +kernel
theorem dX12_goes_186 : decode cX12_goes 186 = .ok (.putfield 514, 3) := by decide +kernel
theorem dX12_goes_189 : decode cX12_goes 189 = .ok (.aload_n 0, 1) := by decide +kernel
theorem dX12_goes_190 : decode cX12_goes 190 = .ok (.iconst 0, 1) := by decide +kernel
theorem dX12_goes_191 : decode cX12_goes 191 = .ok (.putfield 517, 3) := by decide +kernel
theorem dX12_goes_194 : decode cX12_goes 194 = .ok (.iconst 0, 1) := by decide +kernel
theorem dX12_goes_195 : decode cX12_goes 195 = .ok (.istore 5, 2) := by decide +kernel
theorem dX12_goes_197 : decode cX12_goes 197 = .ok (.aload_n 0, 1) := by decide +kernel
theorem dX12_goes_198 : decode cX12_goes 198 = .ok (.iconst 1, 1) := by decide +kernel
theorem dX12_goes_199 : decode cX12_goes 199 = .ok (.invokevirtual 318, 3) := by decide +kernel
theorem dX12_goes_202 : decode cX12_goes 202 = .ok (.aload_n 0, 1) := by decide +kernel
theorem dX12_goes_203 : decode cX12_goes 203 = .ok (.getfield 505, 3) := by decide +kernel
theorem dX12_goes_206 : decode cX12_goes 206 = .ok (.invokestatic 502, 3) := by decide +kernel
theorem dX12_goes_209 : decode cX12_goes 209 = .ok (.if_icmp .ge 11, 3) := by decide +kernel
theorem dX12_goes_212 : decode cX12_goes 212 = .ok (.aload_n 0, 1) := by decide +kernel
theorem dX12_goes_213 : decode cX12_goes 213 = .ok (.iconst 1, 1) := by decide +kernel
theorem dX12_goes_214 : decode cX12_goes 214 = .ok (.invokevirtual 318, 3) := by decide +kernel
theorem dX12_goes_217 : decode cX12_goes 217 = .ok (.goto 10, 3) := by decide +kernel
theorem dX12_goes_220 : decode cX12_goes 220 = .ok (.aload_n 0, 1) := by decide +kernel
theorem dX12_goes_221 : decode cX12_goes 221 = .ok (.getfield 505, 3) := by decide +kernel
theorem dX12_goes_224 : decode cX12_goes 224 = .ok (.invokestatic 502, 3) := by decide +kernel
theorem dX12_goes_227 : decode cX12_goes 227 = .ok (.istore 6, 2) := by decide +kernel
theorem dX12_goes_229 : decode cX12_goes 229 = .ok (.iconst 0, 1) := by decide +kernel
theorem dX12_goes_230 : decode cX12_goes 230 = .ok (.istore 7, 2) := by decide +kernel
theorem dX12_goes_232 : decode cX12_goes 232 = .ok (.iload 7, 2) := by decide +kernel
theorem dX12_goes_234 : decode cX12_goes 234 = .ok (.iload 6, 2) := by decide +kernel
theorem dX12_goes_236 : decode cX12_goes 236 = .ok (.if_icmp .ge 145, 3) := by decide +kernel
theorem dX12_goes_239 : decode cX12_goes 239 = .ok (.iconst (-1), 1) := by decide +kernel
theorem dX12_goes_240 : decode cX12_goes 240 = .ok (.istore 8, 2) := by decide +kernel
theorem dX12_goes_242 : decode cX12_goes 242 = .ok (.iconst 0, 1) := by decide +kernel
theorem dX12_goes_243 : decode cX12_goes 243 = .ok (.istore 9, 2) := by decide +kernel
theorem dX12_goes_245 : decode cX12_goes 245 = .ok (.iload 9, 2) := by decide +kernel
theorem dX12_goes_247 : decode cX12_goes 247 = .ok (.aload_n 0, 1) := by decide +kernel
theorem dX12_goes_248 : decode cX12_goes 248 = .ok (.invokevirtual 146, 3) := by decide +kernel
theorem dX12_goes_251 : decode cX12_goes 251 = .ok (.if_icmp .ge 71, 3) := by decide +kernel
theorem dX12_goes_254 : decode cX12_goes 254 = .ok (.aload_n 0, 1) := by decide +kernel
theorem dX12_goes_255 : decode cX12_goes 255 = .ok (.getfield 505, 3) := by decide +kernel
theorem dX12_goes_258 : decode cX12_goes 258 = .ok (.iload 9, 2) := by decide +kernel
theorem dX12_goes_260 : decode cX12_goes 260 = .ok (.ishr, 1) := by decide +kernel
theorem dX12_goes_261 : decode cX12_goes 261 = .ok (.iconst 1, 1) := by decide +kernel
theorem dX12_goes_262 : decode cX12_goes 262 = .ok (.iand, 1) := by decide +kernel
theorem dX12_goes_263 : decode cX12_goes 263 = .ok (.iconst 1, 1) := by decide +kernel
theorem dX12_goes_264 : decode cX12_goes 264 = .ok (.if_icmp .ne 52, 3) := by decide +kernel
theorem dX12_goes_267 : decode cX12_goes 267 = .ok (.aload_n 0, 1) := by decide +kernel
theorem dX12_goes_268 : decode cX12_goes 268 = .ok (.getfield 514, 3) := by decide +kernel
theorem dX12_goes_271 : decode cX12_goes 271 = .ok (.iload 9, 2) := by decide +kernel
theorem dX12_goes_273 : decode cX12_goes 273 = .ok (.ishr, 1) := by decide +kernel
theorem dX12_goes_274 : decode cX12_goes 274 = .ok (.iconst 1, 1) := by decide +kernel
theorem dX12_goes_275 : decode cX12_goes 275 = .ok (.iand, 1) := by decide +kernel
theorem dX12_goes_276 : decode cX12_goes 276 = .ok (.ifCond .ne 40, 3) := by decide +kernel
theorem dX12_goes_279 : decode cX12_goes 279 = .ok (.iload 8, 2) := by decide +kernel
theorem dX12_goes_281 : decode cX12_goes 281 = .ok (.iconst (-1), 1) := by decide +kernel
theorem dX12_goes_282 : decode cX12_goes 282 = .ok (.if_icmp .eq 30, 3) := by decide +kernel
theorem dX12_goes_285 : decode cX12_goes 285 = .ok (.aload_n 0, 1) := by decide +kernel
theorem dX12_goes_286 : decode cX12_goes 286 = .ok (.getfield 55, 3) := by decide +kernel
theorem dX12_goes_289 : decode cX12_goes 289 = .ok (.aload_n 0, 1) := by decide +kernel
theorem dX12_goes_290 : decode cX12_goes 290 = .ok (.iload 9, 2) := by decide +kernel
theorem dX12_goes_292 : decode cX12_goes 292 = .ok (.iconst 2, 1) := by decide +kernel
theorem dX12_goes_293 : decode cX12_goes 293 = .ok (.invokevirtual 150, 3) := by decide +kernel
theorem dX12_goes_296 : decode cX12_goes 296 = .ok (.iaload, 1) := by decide +kernel
theorem dX12_goes_297 : decode cX12_goes 297 = .ok (.aload_n 0, 1) := by decide +kernel
theorem dX12_goes_298 : decode cX12_goes 298 = .ok (.getfield 55, 3) := by decide +kernel
theorem dX12_goes_301 : decode cX12_goes 301 = .ok (.aload_n 0, 1) := by decide +kernel
theorem dX12_goes_302 : decode cX12_goes 302 = .ok (.iload 8, 2) := by decide +kernel
theorem dX12_goes_304 : decode cX12_goes 304 = .ok (.iconst 2, 1) := by decide +kernel
theorem dX12_goes_305 : decode cX12_goes 305 = .ok (.invokevirtual 150, 3) := by decide +kernel
theorem dX12_goes_308 : decode cX12_goes 308 = .ok (.iaload, 1) := by decide +kernel
theorem dX12_goes_309 : decode cX12_goes 309 = .ok (.if_icmp .le 7, 3) := by decide +kernel
theorem dX12_goes_312 : decode cX12_goes 312 = .ok (.iload 9, 2) := by decide +kernel
theorem dX12_goes_314 : decode cX12_goes 314 = .ok (.istore 8, 2) := by decide +kernel
theorem dX12_goes_316 : decode cX12_goes 316 = .ok (.iinc 9 1, 3) := by decide +kernel
theorem dX12_goes_319 : decode cX12_goes 319 = .ok (.goto (-74), 3) := by decide +kernel
theorem dX12_goes_322 : decode cX12_goes 322 = .ok (.aload_n 0, 1) := by decide +kernel
theorem dX12_goes_323 : decode cX12_goes 323 = .ok (.dup, 1) := by decide +kernel
theorem dX12_goes_324 : decode cX12_goes 324 = .ok (.getfield 514, 3) := by decide +kernel
theorem dX12_goes_327 : decode cX12_goes 327 = .ok (.iconst 1, 1) := by decide +kernel
theorem dX12_goes_328 : decode cX12_goes 328 = .ok (.iload 8, 2) := by decide +kernel
theorem dX12_goes_330 : decode cX12_goes 330 = .ok (.ishl, 1) := by decide +kernel
theorem dX12_goes_331 : decode cX12_goes 331 = .ok (.ior, 1) := by decide +kernel
theorem dX12_goes_332 : decode cX12_goes 332 = .ok (.putfield 514, 3) := by decide +kernel
theorem dX12_goes_335 : decode cX12_goes 335 = .ok (.aload_n 0, 1) := by decide +kernel
theorem dX12_goes_336 : decode cX12_goes 336 = .ok (.bipush 100, 2) := by decide +kernel
theorem dX12_goes_338 : decode cX12_goes 338 = .ok (.invokevirtual 508, 3) := by decide +kernel
theorem dX12_goes_341 : decode cX12_goes 341 = .ok (.aload_n 0, 1) := by decide +kernel
theorem dX12_goes_342 : decode cX12_goes 342 = .ok (.getfield 55, 3) := by decide +kernel
theorem dX12_goes_345 : decode cX12_goes 345 = .ok (.aload_n 0, 1) := by decide +kernel
theorem dX12_goes_346 : decode cX12_goes 346 = .ok (.iload 8, 2) := by decide +kernel
theorem dX12_goes_348 : decode cX12_goes 348 = .ok (.iconst 2, 1) := by decide +kernel
theorem dX12_goes_349 : decode cX12_goes 349 = .ok (.invokevirtual 150, 3) := by decide +kernel
theorem dX12_goes_352 : decode cX12_goes 352 = .ok (.iaload, 1) := by decide +kernel
theorem dX12_goes_353 : decode cX12_goes 353 = .ok (.if_icmp .lt 6, 3) := by decide +kernel
theorem dX12_goes_356 : decode cX12_goes 356 = .ok (.goto 19, 3) := by decide +kernel
theorem dX12_goes_359 : decode cX12_goes 359 = .ok (.aload_n 0, 1) := by decide +kernel
theorem dX12_goes_360 : decode cX12_goes 360 = .ok (.dup, 1) := by decide +kernel
theorem dX12_goes_361 : decode cX12_goes 361 = .ok (.getfield 517, 3) := by decide +kernel
theorem dX12_goes_364 : decode cX12_goes 364 = .ok (.iconst 1, 1) := by decide +kernel
theorem dX12_goes_365 : decode cX12_goes 365 = .ok (.iload 8, 2) := by decide +kernel
theorem dX12_goes_367 : decode cX12_goes 367 = .ok (.ishl, 1) := by decide +kernel
theorem dX12_goes_368 : decode cX12_goes 368 = .ok (.ior, 1) := by decide +kernel
theorem dX12_goes_369 : decode cX12_goes 369 = .ok (.putfield 517, 3) := by decide +kernel
theorem dX12_goes_372 : decode cX12_goes 372 = .ok (.iinc 5 1, 3) := by decide +kernel
theorem dX12_goes_375 : decode cX12_goes 375 = .ok (.iinc 7 1, 3) := by decide +kernel
theorem dX12_goes_378 : decode cX12_goes 378 = .ok (.goto (-146), 3) := by decide +kernel
theorem dX12_goes_381 : decode cX12_goes 381 = .ok (.iload 5, 2) := by decide +kernel
theorem dX12_goes_383 : decode cX12_goes 383 = .ok (.ireturn, 1) := by decide +kernel
abbrev YX12_goes : zY := (yX12_goes, cX12_goes, 10, (Option.some Jvm.ClassFile.FieldType.int), [])
def fX12_goes_46 (F : zFs) (k_10 : Int → Int → Int → zDa → Option (Int × zDa)) (v1 : Int) (v2 : Int) (v3 : Int) (D : zDa) : Option (Int × zDa) :=
  if (-2147483648 ≤ v3 + 1 ∧ v3 + 1 ≤ 2147483647) then
    k_10 v1 v2 (v3 + 1) D
  else none
def fX12_goes_316 (F : zFs) (k_232 : Int → Int → zDa → Option (Int × zDa)) (k_245 : Int → Int → zDa → Option (Int × zDa)) (o5 : Int) (o6 : Int) (o7 : Int) (v8 : Int) (v9 : Int) (D : zDa) : Option (Int × zDa) :=
  if (-2147483648 ≤ v9 + 1 ∧ v9 + 1 ≤ 2147483647) then
    k_245 v8 (v9 + 1) D
  else none
def fX12_goes_312 (F : zFs) (k_232 : Int → Int → zDa → Option (Int × zDa)) (k_245 : Int → Int → zDa → Option (Int × zDa)) (o5 : Int) (o6 : Int) (o7 : Int) (v9 : Int) (D : zDa) : Option (Int × zDa) :=
  fX12_goes_316 F k_232 k_245 o5 o6 o7 v9 v9 D
def fX12_goes_375 (F : zFs) (k_232 : Int → Int → zDa → Option (Int × zDa)) (v5 : Int) (o6 : Int) (o7 : Int) (D : zDa) : Option (Int × zDa) :=
  if (-2147483648 ≤ o7 + 1 ∧ o7 + 1 ≤ 2147483647) then
    k_232 v5 (o7 + 1) D
  else none
def fX12_goes_245 (F : zFs) (o5 : Int) (o6 : Int) (o7 : Int) (k_232 : Int → Int → zDa → Option (Int × zDa)) (k_245 : Int → Int → zDa → Option (Int × zDa)) (v8 : Int) (v9 : Int) (D : zDa) : Option (Int × zDa) :=
  (fX12_questions F D).bind (fun (r_24, D_25) =>
    if v9 < r_24 then
      if (zand (zshr (D_25 91 67) v9) 1) = 1 then
        if (zand (zshr (D_25 91 68) v9) 1) = 0 then
          if v8 = (-1) then
            fX12_goes_312 F k_232 k_245 o5 o6 o7 v9 D_25
          else
            (fX12_factOf F v9 2 D_25).bind (fun (r_26, D_27) =>
              if (0 ≤ r_26 ∧ r_26 < 3) then
                (fX12_factOf F v8 2 D_27).bind (fun (r_28, D_29) =>
                  if (0 ≤ r_28 ∧ r_28 < 3) then
                    if (D_29 103 r_28.toNat) < (D_27 103 r_26.toNat) then
                      fX12_goes_312 F k_232 k_245 o5 o6 o7 v9 D_29
                    else
                      fX12_goes_316 F k_232 k_245 o5 o6 o7 v8 v9 D_29
                  else none)
              else none)
        else
          fX12_goes_316 F k_232 k_245 o5 o6 o7 v8 v9 D_25
      else
        fX12_goes_316 F k_232 k_245 o5 o6 o7 v8 v9 D_25
    else
      zlet (zwr D_25 91 68 (zor (D_25 91 68) (zshl 1 v8))) (fun D_30 =>
        (fX12_draws F 100 D_30).bind (fun (r_31, D_32) =>
          (fX12_factOf F v8 2 D_32).bind (fun (r_33, D_34) =>
            if (0 ≤ r_33 ∧ r_33 < 3) then
              if r_31 < (D_34 103 r_33.toNat) then
                zlet (zwr D_34 91 69 (zor (D_34 91 69) (zshl 1 v8))) (fun D_35 =>
                  if (-2147483648 ≤ o5 + 1 ∧ o5 + 1 ≤ 2147483647) then
                    fX12_goes_375 F k_232 (o5 + 1) o6 o7 D_35
                  else none)
              else
                fX12_goes_375 F k_232 o5 o6 o7 D_34
            else none))))
def fX12_goes_232 (F : zFs) (o6 : Int)  (k_232 : Int → Int → zDa → Option (Int × zDa)) (v5 : Int) (v7 : Int) (D : zDa) : Option (Int × zDa) :=
  if v7 < o6 then
    zfix (fun _ _ _ => none) (fX12_goes_245 F v5 o6 v7 k_232) zfu (-1) 0 D
  else
    some (v5, D)
def fX12_goes_227 (F : zFs)  (v5 : Int) (s0 : Int) (D : zDa) : Option (Int × zDa) :=
  zfix (fun _ _ _ => none) (fX12_goes_232 F s0) zfu v5 0 D
def fX12_goes_184 (F : zFs)   (D : zDa) : Option (Int × zDa) :=
  zlet (zwr D 91 68 0) (fun D_16 =>
    zlet (zwr D_16 91 69 0) (fun D_17 =>
      (fX12_term F 1 D_17).bind (fun (r_18, D_19) =>
        (fX12_ones F (D_19 91 67) D_19).bind (fun (r_20, D_21) =>
          if r_18 < r_20 then
            (fX12_term F 1 D_21).bind (fun (r_22, D_23) =>
              fX12_goes_227 F 0 r_22 D_23)
          else
            (fX12_ones F (D_21 91 67) D_21).bind (fun (r_36, D_37) =>
              fX12_goes_227 F 0 r_36 D_37)))))
def fX12_goes_128 (F : zFs) (o1 : Int) (o3 : Int) (o4 : Int)  (k_128 : zDa → Option (Int × zDa))  (D : zDa) : Option (Int × zDa) :=
  if o4 = 0 then
    fX12_goes_184 F D
  else
    (fX12_ones F (D 91 67) D).bind (fun (r_38, D_39) =>
      if r_38 < o3 then
        (fX12_ones F (zand o1 (zxor (D_39 91 67) (-1))) D_39).bind (fun (r_40, D_41) =>
          (fX12_draws F r_40 D_41).bind (fun (r_42, D_43) =>
            (fX12_nth F (zand o1 (zxor (D_39 91 67) (-1))) r_42 D_43).bind (fun (r_44, D_45) =>
              zlet (zwr D_45 91 67 (zor (D_39 91 67) (zshl 1 r_44))) (fun D_46 =>
                k_128 D_46))))
      else
        fX12_goes_184 F D_39)
def fX12_goes_84 (F : zFs)  (v1 : Int) (v2 : Int) (v3 : Int) (v4 : Int) (s0 : Int) (D : zDa) : Option (Int × zDa) :=
  zlet (zwr D 91 67 s0) (fun D_15 =>
    if v4 = 0 then
      zfix (fun _ => none) (fX12_goes_128 F v1 v3 v4) zfu  D_15
    else
      if v2 = 0 then
        zfix (fun _ => none) (fX12_goes_128 F v1 v3 v4) zfu  D_15
      else
        (fX12_draws F 100 D_15).bind (fun (r_47, D_48) =>
          (fX12_term F 3 D_48).bind (fun (r_49, D_50) =>
            if r_47 < r_49 then
              (fX12_ones F v2 D_50).bind (fun (r_51, D_52) =>
                (fX12_draws F r_51 D_52).bind (fun (r_53, D_54) =>
                  (fX12_nth F v2 r_53 D_54).bind (fun (r_55, D_56) =>
                    zlet (zwr D_56 91 67 (zshl 1 r_55)) (fun D_57 =>
                      zfix (fun _ => none) (fX12_goes_128 F v1 v3 v4) zfu  D_57))))
            else
              zfix (fun _ => none) (fX12_goes_128 F v1 v3 v4) zfu  D_50)))
def fX12_goes_71 (F : zFs)  (v1 : Int) (v2 : Int) (v3 : Int) (s0 : Int) (D : zDa) : Option (Int × zDa) :=
  if s0 = 0 then
    fX12_goes_84 F v1 v2 v3 s0 v1 D
  else
    fX12_goes_84 F v1 v2 v3 s0 0 D
def fX12_goes_10 (F : zFs)   (k_10 : Int → Int → Int → zDa → Option (Int × zDa)) (v1 : Int) (v2 : Int) (v3 : Int) (D : zDa) : Option (Int × zDa) :=
  (fX12_questions F D).bind (fun (r_3, D_4) =>
    if v3 < r_3 then
      (fX12_isBowl F v3 D_4).bind (fun (r_5, D_6) =>
        if r_5 = 0 then
          fX12_goes_46 F k_10 v1 v2 v3 D_6
        else
          zlet ((zor v1 (zshl 1 v3))) (fun x1_7 =>
            (fX12_factOf F v3 3 D_6).bind (fun (r_8, D_9) =>
              zlet ((zor v2 (zshl r_8 v3))) (fun x2_10 =>
                fX12_goes_46 F k_10 x1_7 x2_10 v3 D_9))))
    else
      (fX12_term F 0 D_4).bind (fun (r_11, D_12) =>
        (fX12_ones F v1 D_12).bind (fun (r_13, D_14) =>
          if r_11 < r_13 then
            fX12_goes_71 F v1 v2 r_11 1 D_14
          else
            fX12_goes_71 F v1 v2 r_11 0 D_14)))
def fX12_goes (F : zFs)  (D : zDa) : Option (Int × zDa) :=
  (fX12_laysChances F D).bind (fun D_2 =>
    zfix (fun _ _ _ _ => none) (fX12_goes_10 F) zfu 0 0 0 D_2)
set_option maxHeartbeats 20000000 in
theorem sX12_goes_46 {l : Launch} {E : zE} {d : Nat} {F : zFs} {n sl : Nat} (hG : zG F)  (v1 : Int) (v2 : Int) (v3 : Int) (k_10 : Int → Int → Int → zDa → Option (Int × zDa)) (hk_10 : ∀ (u1 : Int) (u2 : Int) (u3 : Int) (D : zDa), zO l E (d + 89) YX12_goes 10 [(0, zR 91), (1, zI u1), (2, zI u2), (3, zI u3)] [] (F, D, n, sl) (zcI F n sl) (k_10 u1 u2 u3 D)) (D : zDa) : zO l E (d + 89) YX12_goes 46 [(0, zR 91), (1, zI v1), (2, zI v2), (3, zI v3)] [] (F, D, n, sl) (zcI F n sl) (fX12_goes_46 F k_10 v1 v2 v3 D) := by
  unfold fX12_goes_46
  refine zO_chk (fun h1 => ?_)
  refine zO_iinc dX12_goes_46 rfl h1 (by decide) ?_
  refine zO_ls (ls' := [(0, zR 91), (1, zI v1), (2, zI v2), (3, zI (v3 + 1))]) rfl ?_
  refine zO_goto (tgt := 10) dX12_goes_49 rfl ?_
  refine zO_live [0, 1, 2, 3] ?_
  exact hk_10 v1 v2 (v3 + 1) D
set_option maxHeartbeats 20000000 in
theorem sX12_goes_316 {l : Launch} {E : zE} {d : Nat} {F : zFs} {n sl : Nat} (hG : zG F)  (o5 : Int) (o6 : Int) (o7 : Int) (v8 : Int) (v9 : Int) (k_232 : Int → Int → zDa → Option (Int × zDa)) (k_245 : Int → Int → zDa → Option (Int × zDa)) (hk_232 : ∀ (u5 : Int) (u7 : Int) (D : zDa), zO l E (d + 89) YX12_goes 232 [(0, zR 91), (5, zI u5), (6, zI o6), (7, zI u7)] [] (F, D, n, sl) (zcI F n sl) (k_232 u5 u7 D)) (hk_245 : ∀ (u8 : Int) (u9 : Int) (D : zDa), zO l E (d + 89) YX12_goes 245 [(0, zR 91), (5, zI o5), (6, zI o6), (7, zI o7), (8, zI u8), (9, zI u9)] [] (F, D, n, sl) (zcI F n sl) (k_245 u8 u9 D)) (D : zDa) : zO l E (d + 89) YX12_goes 316 [(0, zR 91), (5, zI o5), (6, zI o6), (7, zI o7), (8, zI v8), (9, zI v9)] [] (F, D, n, sl) (zcI F n sl) (fX12_goes_316 F k_232 k_245 o5 o6 o7 v8 v9 D) := by
  unfold fX12_goes_316
  refine zO_chk (fun h2 => ?_)
  refine zO_iinc dX12_goes_316 rfl h2 (by decide) ?_
  refine zO_ls (ls' := [(0, zR 91), (5, zI o5), (6, zI o6), (7, zI o7), (8, zI v8), (9, zI (v9 + 1))]) rfl ?_
  refine zO_goto (tgt := 245) dX12_goes_319 rfl ?_
  refine zO_live [0, 5, 6, 7, 8, 9] ?_
  exact hk_245 v8 (v9 + 1) D
set_option maxHeartbeats 20000000 in
theorem sX12_goes_312 {l : Launch} {E : zE} {d : Nat} {F : zFs} {n sl : Nat} (hG : zG F)  (o5 : Int) (o6 : Int) (o7 : Int) (v9 : Int) (k_232 : Int → Int → zDa → Option (Int × zDa)) (k_245 : Int → Int → zDa → Option (Int × zDa)) (hk_232 : ∀ (u5 : Int) (u7 : Int) (D : zDa), zO l E (d + 89) YX12_goes 232 [(0, zR 91), (5, zI u5), (6, zI o6), (7, zI u7)] [] (F, D, n, sl) (zcI F n sl) (k_232 u5 u7 D)) (hk_245 : ∀ (u8 : Int) (u9 : Int) (D : zDa), zO l E (d + 89) YX12_goes 245 [(0, zR 91), (5, zI o5), (6, zI o6), (7, zI o7), (8, zI u8), (9, zI u9)] [] (F, D, n, sl) (zcI F n sl) (k_245 u8 u9 D)) (D : zDa) : zO l E (d + 89) YX12_goes 312 [(0, zR 91), (5, zI o5), (6, zI o6), (7, zI o7), (9, zI v9)] [] (F, D, n, sl) (zcI F n sl) (fX12_goes_312 F k_232 k_245 o5 o6 o7 v9 D) := by
  unfold fX12_goes_312
  refine zO_iload dX12_goes_312 rfl ?_
  refine zO_istore dX12_goes_314 (by decide) ?_
  refine zO_ls (ls' := [(0, zR 91), (5, zI o5), (6, zI o6), (7, zI o7), (8, zI v9), (9, zI v9)]) rfl ?_
  refine zO_live [0, 5, 6, 7, 8, 9] ?_
  exact sX12_goes_316 hG o5 o6 o7 v9 v9 _ _ hk_232 hk_245 D
set_option maxHeartbeats 20000000 in
theorem sX12_goes_375 {l : Launch} {E : zE} {d : Nat} {F : zFs} {n sl : Nat} (hG : zG F)  (v5 : Int) (o6 : Int) (o7 : Int) (k_232 : Int → Int → zDa → Option (Int × zDa)) (hk_232 : ∀ (u5 : Int) (u7 : Int) (D : zDa), zO l E (d + 89) YX12_goes 232 [(0, zR 91), (5, zI u5), (6, zI o6), (7, zI u7)] [] (F, D, n, sl) (zcI F n sl) (k_232 u5 u7 D)) (D : zDa) : zO l E (d + 89) YX12_goes 375 [(0, zR 91), (5, zI v5), (6, zI o6), (7, zI o7)] [] (F, D, n, sl) (zcI F n sl) (fX12_goes_375 F k_232 v5 o6 o7 D) := by
  unfold fX12_goes_375
  refine zO_chk (fun h7 => ?_)
  refine zO_iinc dX12_goes_375 rfl h7 (by decide) ?_
  refine zO_ls (ls' := [(0, zR 91), (5, zI v5), (6, zI o6), (7, zI (o7 + 1))]) rfl ?_
  refine zO_goto (tgt := 232) dX12_goes_378 rfl ?_
  refine zO_live [0, 5, 6, 7] ?_
  exact hk_232 v5 (o7 + 1) D
set_option maxHeartbeats 20000000 in
theorem sX12_goes_245 {l : Launch} {E : zE} {d : Nat} {F : zFs} {n sl : Nat} (hG : zG F)  (o5 : Int) (o6 : Int) (o7 : Int) (k_232 : Int → Int → zDa → Option (Int × zDa)) (hk_232 : ∀ (u5 : Int) (u7 : Int) (D : zDa), zO l E (d + 89) YX12_goes 232 [(0, zR 91), (5, zI u5), (6, zI o6), (7, zI u7)] [] (F, D, n, sl) (zcI F n sl) (k_232 u5 u7 D)) : ∀ (N : Nat) (v8 : Int) (v9 : Int) (D : zDa), zO l E (d + 89) YX12_goes 245 [(0, zR 91), (5, zI o5), (6, zI o6), (7, zI o7), (8, zI v8), (9, zI v9)] [] (F, D, n, sl) (zcI F n sl) (zfix (fun _ _ _ => none) (fX12_goes_245 F o5 o6 o7 k_232) N v8 v9 D) := by
  intro N
  induction N with
  | zero => intro v8 v9 D; exact zO_none
  | succ N hk_245 =>
    intro v8 v9 D
    show zO _ _ _ _ _ _ _ _ _ ((fX12_goes_245 F o5 o6 o7 k_232) (zfix (fun _ _ _ => none) (fX12_goes_245 F o5 o6 o7 k_232) N) v8 v9 D)
    unfold fX12_goes_245
    refine zO_iload dX12_goes_245 rfl ?_
    refine zO_aload_n dX12_goes_247 rfl (zR_P _) ?_
    refine zO_callV (Y' := YX12_questions) (cw := zcI F n sl) (as := []) (rest := [zI v9]) (na := 0) (ci := 12) rfl dX12_goes_248 wC_X12_questions wN_X12 wM_X12_146 wI_X12_questions wV_X12_questions (by decide) (by decide) rfl rfl (Nat.le_of_ble_eq_true rfl) rfl (by decide) (gk_91 hG) (fun r hr => zMet_cast (Nat.add_assoc d 88 0) (mX12_questions (d := d + 88) hG  r hr)) ?_
    rintro ⟨r_24, D_25⟩ -
    show zO _ _ _ _ _ _ [zI r_24, zI v9] (F, D_25, n, sl) _ _
    refine zO_icmp_ge (tgt := 322) dX12_goes_251 rfl (fun c251 => ?_) (fun c251 => ?_)
    · refine zO_aload_n dX12_goes_254 rfl (zR_P _) ?_
      refine gt12 (k := 67) (v := zI (D_25 91 67)) dX12_goes_255 wF_X12_505 (by decide) (gk_91 hG) rfl ?_
      refine zO_iload dX12_goes_258 rfl ?_
      refine zO_ishr dX12_goes_260 ?_
      refine zO_iconst dX12_goes_261 (by decide) ?_
      refine zO_iand dX12_goes_262 ?_
      refine zO_iconst dX12_goes_263 (by decide) ?_
      refine zO_icmp_ne (tgt := 316) dX12_goes_264 rfl (fun c264 => ?_) (fun c264 => ?_)
      · refine zO_aload_n dX12_goes_267 rfl (zR_P _) ?_
        refine gt12 (k := 68) (v := zI (D_25 91 68)) dX12_goes_268 wF_X12_514 (by decide) (gk_91 hG) rfl ?_
        refine zO_iload dX12_goes_271 rfl ?_
        refine zO_ishr dX12_goes_273 ?_
        refine zO_iconst dX12_goes_274 (by decide) ?_
        refine zO_iand dX12_goes_275 ?_
        refine zO_if_ne (tgt := 316) dX12_goes_276 rfl (fun c276 => ?_) (fun c276 => ?_)
        · refine zO_iload dX12_goes_279 rfl ?_
          refine zO_iconst dX12_goes_281 (by decide) ?_
          refine zO_icmp_eq (tgt := 312) dX12_goes_282 rfl (fun c282 => ?_) (fun c282 => ?_)
          · refine zO_live [0, 5, 6, 7, 9] ?_
            exact sX12_goes_312 hG o5 o6 o7 v9 _ _ hk_232 hk_245 D_25
          · refine zO_aload_n dX12_goes_285 rfl (zR_P _) ?_
            refine gt12 (k := 22) dX12_goes_286 wF_X12_55 (by decide) (gk_91 hG) (zgv (c := 12) (k := 22) rfl (Or.inl ⟨_, rfl⟩) (gf_91_22 hG)) ?_
            refine zO_aload_n dX12_goes_289 rfl (zR_P _) ?_
            refine zO_iload dX12_goes_290 rfl ?_
            refine zO_iconst dX12_goes_292 (by decide) ?_
            refine zO_callV (Y' := YX12_factOf) (cw := zcI F n sl) (as := [zI v9, zI 2]) (rest := [zR 103]) (na := 2) (ci := 12) rfl dX12_goes_293 wC_X12_factOf wN_X12 wM_X12_150 wI_X12_factOf wV_X12_factOf (by decide) (by decide) rfl rfl (Nat.le_of_ble_eq_true rfl) rfl (by decide) (gk_91 hG) (fun r hr => zMet_cast (Nat.add_assoc d 88 0) (mX12_factOf (d := d + 88) hG v9 2 r hr)) ?_
            rintro ⟨r_26, D_27⟩ -
            show zO _ _ _ _ _ _ [zI r_26, zR 103] (F, D_27, n, sl) _ _
            refine zO_chk (fun h3 => ?_)
            refine zO_iald dX12_goes_296 (gk_103 hG) (gl_in (gl_103 hG) h3) ?_
            refine zO_aload_n dX12_goes_297 rfl (zR_P _) ?_
            refine gt12 (k := 22) dX12_goes_298 wF_X12_55 (by decide) (gk_91 hG) (zgv (c := 12) (k := 22) rfl (Or.inl ⟨_, rfl⟩) (gf_91_22 hG)) ?_
            refine zO_aload_n dX12_goes_301 rfl (zR_P _) ?_
            refine zO_iload dX12_goes_302 rfl ?_
            refine zO_iconst dX12_goes_304 (by decide) ?_
            refine zO_callV (Y' := YX12_factOf) (cw := zcI F n sl) (as := [zI v8, zI 2]) (rest := [zR 103, zI (D_27 103 r_26.toNat)]) (na := 2) (ci := 12) rfl dX12_goes_305 wC_X12_factOf wN_X12 wM_X12_150 wI_X12_factOf wV_X12_factOf (by decide) (by decide) rfl rfl (Nat.le_of_ble_eq_true rfl) rfl (by decide) (gk_91 hG) (fun r hr => zMet_cast (Nat.add_assoc d 88 0) (mX12_factOf (d := d + 88) hG v8 2 r hr)) ?_
            rintro ⟨r_28, D_29⟩ -
            show zO _ _ _ _ _ _ [zI r_28, zR 103, zI (D_27 103 r_26.toNat)] (F, D_29, n, sl) _ _
            refine zO_chk (fun h4 => ?_)
            refine zO_iald dX12_goes_308 (gk_103 hG) (gl_in (gl_103 hG) h4) ?_
            refine zO_icmp_le (tgt := 316) dX12_goes_309 rfl (fun c309 => ?_) (fun c309 => ?_)
            · refine zO_live [0, 5, 6, 7, 9] ?_
              exact sX12_goes_312 hG o5 o6 o7 v9 _ _ hk_232 hk_245 D_29
            · refine zO_live [0, 5, 6, 7, 8, 9] ?_
              exact sX12_goes_316 hG o5 o6 o7 v8 v9 _ _ hk_232 hk_245 D_29
        · refine zO_live [0, 5, 6, 7, 8, 9] ?_
          exact sX12_goes_316 hG o5 o6 o7 v8 v9 _ _ hk_232 hk_245 D_25
      · refine zO_live [0, 5, 6, 7, 8, 9] ?_
        exact sX12_goes_316 hG o5 o6 o7 v8 v9 _ _ hk_232 hk_245 D_25
    · refine zO_aload_n dX12_goes_322 rfl (zR_P _) ?_
      refine zO_dup dX12_goes_323 (rfl) ?_
      refine gt12 (k := 68) (v := zI (D_25 91 68)) dX12_goes_324 wF_X12_514 (by decide) (gk_91 hG) rfl ?_
      refine zO_iconst dX12_goes_327 (by decide) ?_
      refine zO_iload dX12_goes_328 rfl ?_
      refine zO_ishl dX12_goes_330 ?_
      refine zO_ior dX12_goes_331 ?_
      refine ptI12 (k := 68) (z := (zor (D_25 91 68) (zshl 1 v8))) dX12_goes_332 wF_X12_514 (by decide) rfl (gk_91 hG) rfl ?_
      refine zO_letD (fun D_30 eD_30 => ?_)
      refine zO_aload_n dX12_goes_335 rfl (zR_P _) ?_
      refine zO_bipush dX12_goes_336 (by decide) ?_
      refine zO_callV (Y' := YX12_draws) (cw := zcI F n sl) (as := [zI 100]) (rest := []) (na := 1) (ci := 12) rfl dX12_goes_338 wC_X12_draws wN_X12 wM_X12_508 wI_X12_draws wV_X12_draws (by decide) (by decide) rfl rfl (Nat.le_of_ble_eq_true rfl) rfl (by decide) (gk_91 hG) (fun r hr => zMet_cast (Nat.add_assoc d 88 0) (mX12_draws (d := d + 88) hG 100 r hr)) ?_
      rintro ⟨r_31, D_32⟩ -
      show zO _ _ _ _ _ _ [zI r_31] (F, D_32, n, sl) _ _
      refine zO_aload_n dX12_goes_341 rfl (zR_P _) ?_
      refine gt12 (k := 22) dX12_goes_342 wF_X12_55 (by decide) (gk_91 hG) (zgv (c := 12) (k := 22) rfl (Or.inl ⟨_, rfl⟩) (gf_91_22 hG)) ?_
      refine zO_aload_n dX12_goes_345 rfl (zR_P _) ?_
      refine zO_iload dX12_goes_346 rfl ?_
      refine zO_iconst dX12_goes_348 (by decide) ?_
      refine zO_callV (Y' := YX12_factOf) (cw := zcI F n sl) (as := [zI v8, zI 2]) (rest := [zR 103, zI r_31]) (na := 2) (ci := 12) rfl dX12_goes_349 wC_X12_factOf wN_X12 wM_X12_150 wI_X12_factOf wV_X12_factOf (by decide) (by decide) rfl rfl (Nat.le_of_ble_eq_true rfl) rfl (by decide) (gk_91 hG) (fun r hr => zMet_cast (Nat.add_assoc d 88 0) (mX12_factOf (d := d + 88) hG v8 2 r hr)) ?_
      rintro ⟨r_33, D_34⟩ -
      show zO _ _ _ _ _ _ [zI r_33, zR 103, zI r_31] (F, D_34, n, sl) _ _
      refine zO_chk (fun h5 => ?_)
      refine zO_iald dX12_goes_352 (gk_103 hG) (gl_in (gl_103 hG) h5) ?_
      refine zO_icmp_lt (tgt := 359) dX12_goes_353 rfl (fun c353 => ?_) (fun c353 => ?_)
      · refine zO_aload_n dX12_goes_359 rfl (zR_P _) ?_
        refine zO_dup dX12_goes_360 (rfl) ?_
        refine gt12 (k := 69) (v := zI (D_34 91 69)) dX12_goes_361 wF_X12_517 (by decide) (gk_91 hG) rfl ?_
        refine zO_iconst dX12_goes_364 (by decide) ?_
        refine zO_iload dX12_goes_365 rfl ?_
        refine zO_ishl dX12_goes_367 ?_
        refine zO_ior dX12_goes_368 ?_
        refine ptI12 (k := 69) (z := (zor (D_34 91 69) (zshl 1 v8))) dX12_goes_369 wF_X12_517 (by decide) rfl (gk_91 hG) rfl ?_
        refine zO_letD (fun D_35 eD_35 => ?_)
        refine zO_chk (fun h6 => ?_)
        refine zO_iinc dX12_goes_372 rfl h6 (by decide) ?_
        refine zO_ls (ls' := [(0, zR 91), (5, zI (o5 + 1)), (6, zI o6), (7, zI o7), (8, zI v8), (9, zI v9)]) rfl ?_
        refine zO_live [0, 5, 6, 7] ?_
        exact sX12_goes_375 hG (o5 + 1) o6 o7 _ hk_232 D_35
      · refine zO_goto (tgt := 375) dX12_goes_356 rfl ?_
        refine zO_live [0, 5, 6, 7] ?_
        exact sX12_goes_375 hG o5 o6 o7 _ hk_232 D_34
set_option maxHeartbeats 20000000 in
theorem sX12_goes_232 {l : Launch} {E : zE} {d : Nat} {F : zFs} {n sl : Nat} (hG : zG F)  (o6 : Int)   : ∀ (N : Nat) (v5 : Int) (v7 : Int) (D : zDa), zO l E (d + 89) YX12_goes 232 [(0, zR 91), (5, zI v5), (6, zI o6), (7, zI v7)] [] (F, D, n, sl) (zcI F n sl) (zfix (fun _ _ _ => none) (fX12_goes_232 F o6) N v5 v7 D) := by
  intro N
  induction N with
  | zero => intro v5 v7 D; exact zO_none
  | succ N hk_232 =>
    intro v5 v7 D
    show zO _ _ _ _ _ _ _ _ _ ((fX12_goes_232 F o6) (zfix (fun _ _ _ => none) (fX12_goes_232 F o6) N) v5 v7 D)
    unfold fX12_goes_232
    refine zO_iload dX12_goes_232 rfl ?_
    refine zO_iload dX12_goes_234 rfl ?_
    refine zO_icmp_ge (tgt := 381) dX12_goes_236 rfl (fun c236 => ?_) (fun c236 => ?_)
    · refine zO_iconst dX12_goes_239 (by decide) ?_
      refine zO_istore dX12_goes_240 (by decide) ?_
      refine zO_ls (ls' := [(0, zR 91), (5, zI v5), (6, zI o6), (7, zI v7), (8, zI (-1))]) rfl ?_
      refine zO_iconst dX12_goes_242 (by decide) ?_
      refine zO_istore dX12_goes_243 (by decide) ?_
      refine zO_ls (ls' := [(0, zR 91), (5, zI v5), (6, zI o6), (7, zI v7), (8, zI (-1)), (9, zI 0)]) rfl ?_
      refine zO_live [0, 5, 6, 7, 8, 9] ?_
      exact sX12_goes_245 hG v5 o6 v7 _ hk_232 zfu (-1) 0 D
    · refine zO_iload dX12_goes_381 rfl ?_
      exact zO_ret (rv := some (zI v5)) dX12_goes_383 rfl rfl rfl
set_option maxHeartbeats 20000000 in
theorem sX12_goes_227 {l : Launch} {E : zE} {d : Nat} {F : zFs} {n sl : Nat} (hG : zG F)  (v5 : Int) (s0 : Int)   (D : zDa) : zO l E (d + 89) YX12_goes 227 [(0, zR 91), (5, zI v5)] [zI s0] (F, D, n, sl) (zcI F n sl) (fX12_goes_227 F v5 s0 D) := by
  unfold fX12_goes_227
  refine zO_istore dX12_goes_227 (by decide) ?_
  refine zO_ls (ls' := [(0, zR 91), (5, zI v5), (6, zI s0)]) rfl ?_
  refine zO_iconst dX12_goes_229 (by decide) ?_
  refine zO_istore dX12_goes_230 (by decide) ?_
  refine zO_ls (ls' := [(0, zR 91), (5, zI v5), (6, zI s0), (7, zI 0)]) rfl ?_
  refine zO_live [0, 5, 6, 7] ?_
  exact sX12_goes_232 hG s0 zfu v5 0 D
set_option maxHeartbeats 20000000 in
theorem sX12_goes_184 {l : Launch} {E : zE} {d : Nat} {F : zFs} {n sl : Nat} (hG : zG F)     (D : zDa) : zO l E (d + 89) YX12_goes 184 [(0, zR 91)] [] (F, D, n, sl) (zcI F n sl) (fX12_goes_184 F D) := by
  unfold fX12_goes_184
  refine zO_aload_n dX12_goes_184 rfl (zR_P _) ?_
  refine zO_iconst dX12_goes_185 (by decide) ?_
  refine ptI12 (k := 68) (z := 0) dX12_goes_186 wF_X12_514 (by decide) rfl (gk_91 hG) rfl ?_
  refine zO_letD (fun D_16 eD_16 => ?_)
  refine zO_aload_n dX12_goes_189 rfl (zR_P _) ?_
  refine zO_iconst dX12_goes_190 (by decide) ?_
  refine ptI12 (k := 69) (z := 0) dX12_goes_191 wF_X12_517 (by decide) rfl (gk_91 hG) rfl ?_
  refine zO_letD (fun D_17 eD_17 => ?_)
  refine zO_iconst dX12_goes_194 (by decide) ?_
  refine zO_istore dX12_goes_195 (by decide) ?_
  refine zO_ls (ls' := [(0, zR 91), (5, zI 0)]) rfl ?_
  refine zO_aload_n dX12_goes_197 rfl (zR_P _) ?_
  refine zO_iconst dX12_goes_198 (by decide) ?_
  refine zO_callV (Y' := YX12_term) (cw := zcI F n sl) (as := [zI 1]) (rest := []) (na := 1) (ci := 12) rfl dX12_goes_199 wC_X12_term wN_X12 wM_X12_318 wI_X12_term wV_X12_term (by decide) (by decide) rfl rfl (Nat.le_of_ble_eq_true rfl) rfl (by decide) (gk_91 hG) (fun r hr => zMet_cast (Nat.add_assoc d 88 0) (mX12_term (d := d + 88) hG 1 r hr)) ?_
  rintro ⟨r_18, D_19⟩ -
  show zO _ _ _ _ _ _ [zI r_18] (F, D_19, n, sl) _ _
  refine zO_aload_n dX12_goes_202 rfl (zR_P _) ?_
  refine gt12 (k := 67) (v := zI (D_19 91 67)) dX12_goes_203 wF_X12_505 (by decide) (gk_91 hG) rfl ?_
  refine zO_callS (Y' := YX12_ones) (cw := zcI F n sl) (as := [zI (D_19 91 67)]) (rest := [zI r_18]) (na := 1) dX12_goes_206 wC_X12_ones wN_X12 wM_X12_502 wS_X12_ones (by decide) (by decide) rfl rfl (Nat.le_of_ble_eq_true rfl) (fun r hr => zMet_cast (Nat.add_assoc d 88 0) (mX12_ones (d := d + 88) hG (D_19 91 67) r hr)) ?_
  rintro ⟨r_20, D_21⟩ -
  show zO _ _ _ _ _ _ [zI r_20, zI r_18] (F, D_21, n, sl) _ _
  refine zO_icmp_ge (tgt := 220) dX12_goes_209 rfl (fun c209 => ?_) (fun c209 => ?_)
  · refine zO_aload_n dX12_goes_212 rfl (zR_P _) ?_
    refine zO_iconst dX12_goes_213 (by decide) ?_
    refine zO_callV (Y' := YX12_term) (cw := zcI F n sl) (as := [zI 1]) (rest := []) (na := 1) (ci := 12) rfl dX12_goes_214 wC_X12_term wN_X12 wM_X12_318 wI_X12_term wV_X12_term (by decide) (by decide) rfl rfl (Nat.le_of_ble_eq_true rfl) rfl (by decide) (gk_91 hG) (fun r hr => zMet_cast (Nat.add_assoc d 88 0) (mX12_term (d := d + 88) hG 1 r hr)) ?_
    rintro ⟨r_22, D_23⟩ -
    show zO _ _ _ _ _ _ [zI r_22] (F, D_23, n, sl) _ _
    refine zO_goto (tgt := 227) dX12_goes_217 rfl ?_
    refine zO_live [0, 5] ?_
    exact sX12_goes_227 hG 0 r_22 D_23
  · refine zO_aload_n dX12_goes_220 rfl (zR_P _) ?_
    refine gt12 (k := 67) (v := zI (D_21 91 67)) dX12_goes_221 wF_X12_505 (by decide) (gk_91 hG) rfl ?_
    refine zO_callS (Y' := YX12_ones) (cw := zcI F n sl) (as := [zI (D_21 91 67)]) (rest := []) (na := 1) dX12_goes_224 wC_X12_ones wN_X12 wM_X12_502 wS_X12_ones (by decide) (by decide) rfl rfl (Nat.le_of_ble_eq_true rfl) (fun r hr => zMet_cast (Nat.add_assoc d 88 0) (mX12_ones (d := d + 88) hG (D_21 91 67) r hr)) ?_
    rintro ⟨r_36, D_37⟩ -
    show zO _ _ _ _ _ _ [zI r_36] (F, D_37, n, sl) _ _
    refine zO_live [0, 5] ?_
    exact sX12_goes_227 hG 0 r_36 D_37
set_option maxHeartbeats 20000000 in
theorem sX12_goes_128 {l : Launch} {E : zE} {d : Nat} {F : zFs} {n sl : Nat} (hG : zG F)  (o1 : Int) (o3 : Int) (o4 : Int)   : ∀ (N : Nat)  (D : zDa), zO l E (d + 89) YX12_goes 128 [(0, zR 91), (1, zI o1), (3, zI o3), (4, zI o4)] [] (F, D, n, sl) (zcI F n sl) (zfix (fun _ => none) (fX12_goes_128 F o1 o3 o4) N  D) := by
  intro N
  induction N with
  | zero => intro D; exact zO_none
  | succ N hk_128 =>
    intro D
    show zO _ _ _ _ _ _ _ _ _ ((fX12_goes_128 F o1 o3 o4) (zfix (fun _ => none) (fX12_goes_128 F o1 o3 o4) N)  D)
    unfold fX12_goes_128
    refine zO_iload dX12_goes_128 rfl ?_
    refine zO_if_eq (tgt := 184) dX12_goes_130 rfl (fun c130 => ?_) (fun c130 => ?_)
    · refine zO_live [0] ?_
      exact sX12_goes_184 hG D
    · refine zO_aload_n dX12_goes_133 rfl (zR_P _) ?_
      refine gt12 (k := 67) (v := zI (D 91 67)) dX12_goes_134 wF_X12_505 (by decide) (gk_91 hG) rfl ?_
      refine zO_callS (Y' := YX12_ones) (cw := zcI F n sl) (as := [zI (D 91 67)]) (rest := []) (na := 1) dX12_goes_137 wC_X12_ones wN_X12 wM_X12_502 wS_X12_ones (by decide) (by decide) rfl rfl (Nat.le_of_ble_eq_true rfl) (fun r hr => zMet_cast (Nat.add_assoc d 88 0) (mX12_ones (d := d + 88) hG (D 91 67) r hr)) ?_
      rintro ⟨r_38, D_39⟩ -
      show zO _ _ _ _ _ _ [zI r_38] (F, D_39, n, sl) _ _
      refine zO_iload_n dX12_goes_140 rfl ?_
      refine zO_icmp_ge (tgt := 184) dX12_goes_141 rfl (fun c141 => ?_) (fun c141 => ?_)
      · refine zO_aload_n dX12_goes_144 rfl (zR_P _) ?_
        refine zO_aload_n dX12_goes_145 rfl (zR_P _) ?_
        refine gt12 (k := 67) (v := zI (D_39 91 67)) dX12_goes_146 wF_X12_505 (by decide) (gk_91 hG) rfl ?_
        refine zO_iconst dX12_goes_149 (by decide) ?_
        refine zO_iload_n dX12_goes_150 rfl ?_
        refine zO_aload_n dX12_goes_151 rfl (zR_P _) ?_
        refine gt12 (k := 67) (v := zI (D_39 91 67)) dX12_goes_152 wF_X12_505 (by decide) (gk_91 hG) rfl ?_
        refine zO_iconst dX12_goes_155 (by decide) ?_
        refine zO_ixor dX12_goes_156 ?_
        refine zO_iand dX12_goes_157 ?_
        refine zO_aload_n dX12_goes_158 rfl (zR_P _) ?_
        refine zO_iload_n dX12_goes_159 rfl ?_
        refine zO_aload_n dX12_goes_160 rfl (zR_P _) ?_
        refine gt12 (k := 67) (v := zI (D_39 91 67)) dX12_goes_161 wF_X12_505 (by decide) (gk_91 hG) rfl ?_
        refine zO_iconst dX12_goes_164 (by decide) ?_
        refine zO_ixor dX12_goes_165 ?_
        refine zO_iand dX12_goes_166 ?_
        refine zO_callS (Y' := YX12_ones) (cw := zcI F n sl) (as := [zI (zand o1 (zxor (D_39 91 67) (-1)))]) (rest := [zR 91, zI (zand o1 (zxor (D_39 91 67) (-1))), zI 1, zI (D_39 91 67), zR 91]) (na := 1) dX12_goes_167 wC_X12_ones wN_X12 wM_X12_502 wS_X12_ones (by decide) (by decide) rfl rfl (Nat.le_of_ble_eq_true rfl) (fun r hr => zMet_cast (Nat.add_assoc d 88 0) (mX12_ones (d := d + 88) hG (zand o1 (zxor (D_39 91 67) (-1))) r hr)) ?_
        rintro ⟨r_40, D_41⟩ -
        show zO _ _ _ _ _ _ [zI r_40, zR 91, zI (zand o1 (zxor (D_39 91 67) (-1))), zI 1, zI (D_39 91 67), zR 91] (F, D_41, n, sl) _ _
        refine zO_callV (Y' := YX12_draws) (cw := zcI F n sl) (as := [zI r_40]) (rest := [zI (zand o1 (zxor (D_39 91 67) (-1))), zI 1, zI (D_39 91 67), zR 91]) (na := 1) (ci := 12) rfl dX12_goes_170 wC_X12_draws wN_X12 wM_X12_508 wI_X12_draws wV_X12_draws (by decide) (by decide) rfl rfl (Nat.le_of_ble_eq_true rfl) rfl (by decide) (gk_91 hG) (fun r hr => zMet_cast (Nat.add_assoc d 88 0) (mX12_draws (d := d + 88) hG r_40 r hr)) ?_
        rintro ⟨r_42, D_43⟩ -
        show zO _ _ _ _ _ _ [zI r_42, zI (zand o1 (zxor (D_39 91 67) (-1))), zI 1, zI (D_39 91 67), zR 91] (F, D_43, n, sl) _ _
        refine zO_callS (Y' := YX12_nth) (cw := zcI F n sl) (as := [zI (zand o1 (zxor (D_39 91 67) (-1))), zI r_42]) (rest := [zI 1, zI (D_39 91 67), zR 91]) (na := 2) dX12_goes_173 wC_X12_nth wN_X12 wM_X12_511 wS_X12_nth (by decide) (by decide) rfl rfl (Nat.le_of_ble_eq_true rfl) (fun r hr => zMet_cast (Nat.add_assoc d 88 0) (mX12_nth (d := d + 88) hG (zand o1 (zxor (D_39 91 67) (-1))) r_42 r hr)) ?_
        rintro ⟨r_44, D_45⟩ -
        show zO _ _ _ _ _ _ [zI r_44, zI 1, zI (D_39 91 67), zR 91] (F, D_45, n, sl) _ _
        refine zO_ishl dX12_goes_176 ?_
        refine zO_ior dX12_goes_177 ?_
        refine ptI12 (k := 67) (z := (zor (D_39 91 67) (zshl 1 r_44))) dX12_goes_178 wF_X12_505 (by decide) rfl (gk_91 hG) rfl ?_
        refine zO_letD (fun D_46 eD_46 => ?_)
        refine zO_goto (tgt := 128) dX12_goes_181 rfl ?_
        refine zO_live [0, 1, 3, 4] ?_
        exact hk_128 D_46
      · refine zO_live [0] ?_
        exact sX12_goes_184 hG D_39
set_option maxHeartbeats 20000000 in
theorem sX12_goes_84 {l : Launch} {E : zE} {d : Nat} {F : zFs} {n sl : Nat} (hG : zG F)  (v1 : Int) (v2 : Int) (v3 : Int) (v4 : Int) (s0 : Int)   (D : zDa) : zO l E (d + 89) YX12_goes 84 [(0, zR 91), (1, zI v1), (2, zI v2), (3, zI v3), (4, zI v4)] [zI s0, zR 91] (F, D, n, sl) (zcI F n sl) (fX12_goes_84 F v1 v2 v3 v4 s0 D) := by
  unfold fX12_goes_84
  refine ptI12 (k := 67) (z := s0) dX12_goes_84 wF_X12_505 (by decide) rfl (gk_91 hG) rfl ?_
  refine zO_letD (fun D_15 eD_15 => ?_)
  refine zO_iload dX12_goes_87 rfl ?_
  refine zO_if_eq (tgt := 128) dX12_goes_89 rfl (fun c89 => ?_) (fun c89 => ?_)
  · refine zO_live [0, 1, 3, 4] ?_
    exact sX12_goes_128 hG v1 v3 v4 zfu D_15
  · refine zO_iload_n dX12_goes_92 rfl ?_
    refine zO_if_eq (tgt := 128) dX12_goes_93 rfl (fun c93 => ?_) (fun c93 => ?_)
    · refine zO_live [0, 1, 3, 4] ?_
      exact sX12_goes_128 hG v1 v3 v4 zfu D_15
    · refine zO_aload_n dX12_goes_96 rfl (zR_P _) ?_
      refine zO_bipush dX12_goes_97 (by decide) ?_
      refine zO_callV (Y' := YX12_draws) (cw := zcI F n sl) (as := [zI 100]) (rest := []) (na := 1) (ci := 12) rfl dX12_goes_99 wC_X12_draws wN_X12 wM_X12_508 wI_X12_draws wV_X12_draws (by decide) (by decide) rfl rfl (Nat.le_of_ble_eq_true rfl) rfl (by decide) (gk_91 hG) (fun r hr => zMet_cast (Nat.add_assoc d 88 0) (mX12_draws (d := d + 88) hG 100 r hr)) ?_
      rintro ⟨r_47, D_48⟩ -
      show zO _ _ _ _ _ _ [zI r_47] (F, D_48, n, sl) _ _
      refine zO_aload_n dX12_goes_102 rfl (zR_P _) ?_
      refine zO_iconst dX12_goes_103 (by decide) ?_
      refine zO_callV (Y' := YX12_term) (cw := zcI F n sl) (as := [zI 3]) (rest := [zI r_47]) (na := 1) (ci := 12) rfl dX12_goes_104 wC_X12_term wN_X12 wM_X12_318 wI_X12_term wV_X12_term (by decide) (by decide) rfl rfl (Nat.le_of_ble_eq_true rfl) rfl (by decide) (gk_91 hG) (fun r hr => zMet_cast (Nat.add_assoc d 88 0) (mX12_term (d := d + 88) hG 3 r hr)) ?_
      rintro ⟨r_49, D_50⟩ -
      show zO _ _ _ _ _ _ [zI r_49, zI r_47] (F, D_50, n, sl) _ _
      refine zO_icmp_ge (tgt := 128) dX12_goes_107 rfl (fun c107 => ?_) (fun c107 => ?_)
      · refine zO_aload_n dX12_goes_110 rfl (zR_P _) ?_
        refine zO_iconst dX12_goes_111 (by decide) ?_
        refine zO_iload_n dX12_goes_112 rfl ?_
        refine zO_aload_n dX12_goes_113 rfl (zR_P _) ?_
        refine zO_iload_n dX12_goes_114 rfl ?_
        refine zO_callS (Y' := YX12_ones) (cw := zcI F n sl) (as := [zI v2]) (rest := [zR 91, zI v2, zI 1, zR 91]) (na := 1) dX12_goes_115 wC_X12_ones wN_X12 wM_X12_502 wS_X12_ones (by decide) (by decide) rfl rfl (Nat.le_of_ble_eq_true rfl) (fun r hr => zMet_cast (Nat.add_assoc d 88 0) (mX12_ones (d := d + 88) hG v2 r hr)) ?_
        rintro ⟨r_51, D_52⟩ -
        show zO _ _ _ _ _ _ [zI r_51, zR 91, zI v2, zI 1, zR 91] (F, D_52, n, sl) _ _
        refine zO_callV (Y' := YX12_draws) (cw := zcI F n sl) (as := [zI r_51]) (rest := [zI v2, zI 1, zR 91]) (na := 1) (ci := 12) rfl dX12_goes_118 wC_X12_draws wN_X12 wM_X12_508 wI_X12_draws wV_X12_draws (by decide) (by decide) rfl rfl (Nat.le_of_ble_eq_true rfl) rfl (by decide) (gk_91 hG) (fun r hr => zMet_cast (Nat.add_assoc d 88 0) (mX12_draws (d := d + 88) hG r_51 r hr)) ?_
        rintro ⟨r_53, D_54⟩ -
        show zO _ _ _ _ _ _ [zI r_53, zI v2, zI 1, zR 91] (F, D_54, n, sl) _ _
        refine zO_callS (Y' := YX12_nth) (cw := zcI F n sl) (as := [zI v2, zI r_53]) (rest := [zI 1, zR 91]) (na := 2) dX12_goes_121 wC_X12_nth wN_X12 wM_X12_511 wS_X12_nth (by decide) (by decide) rfl rfl (Nat.le_of_ble_eq_true rfl) (fun r hr => zMet_cast (Nat.add_assoc d 88 0) (mX12_nth (d := d + 88) hG v2 r_53 r hr)) ?_
        rintro ⟨r_55, D_56⟩ -
        show zO _ _ _ _ _ _ [zI r_55, zI 1, zR 91] (F, D_56, n, sl) _ _
        refine zO_ishl dX12_goes_124 ?_
        refine ptI12 (k := 67) (z := (zshl 1 r_55)) dX12_goes_125 wF_X12_505 (by decide) rfl (gk_91 hG) rfl ?_
        refine zO_letD (fun D_57 eD_57 => ?_)
        refine zO_live [0, 1, 3, 4] ?_
        exact sX12_goes_128 hG v1 v3 v4 zfu D_57
      · refine zO_live [0, 1, 3, 4] ?_
        exact sX12_goes_128 hG v1 v3 v4 zfu D_50
set_option maxHeartbeats 20000000 in
theorem sX12_goes_71 {l : Launch} {E : zE} {d : Nat} {F : zFs} {n sl : Nat} (hG : zG F)  (v1 : Int) (v2 : Int) (v3 : Int) (s0 : Int)   (D : zDa) : zO l E (d + 89) YX12_goes 71 [(0, zR 91), (1, zI v1), (2, zI v2), (3, zI v3)] [zI s0] (F, D, n, sl) (zcI F n sl) (fX12_goes_71 F v1 v2 v3 s0 D) := by
  unfold fX12_goes_71
  refine zO_istore dX12_goes_71 (by decide) ?_
  refine zO_ls (ls' := [(0, zR 91), (1, zI v1), (2, zI v2), (3, zI v3), (4, zI s0)]) rfl ?_
  refine zO_aload_n dX12_goes_73 rfl (zR_P _) ?_
  refine zO_iload dX12_goes_74 rfl ?_
  refine zO_if_eq (tgt := 83) dX12_goes_76 rfl (fun c76 => ?_) (fun c76 => ?_)
  · refine zO_iload_n dX12_goes_83 rfl ?_
    refine zO_live [0, 1, 2, 3, 4] ?_
    exact sX12_goes_84 hG v1 v2 v3 s0 v1 D
  · refine zO_iconst dX12_goes_79 (by decide) ?_
    refine zO_goto (tgt := 84) dX12_goes_80 rfl ?_
    refine zO_live [0, 1, 2, 3, 4] ?_
    exact sX12_goes_84 hG v1 v2 v3 s0 0 D
set_option maxHeartbeats 20000000 in
theorem sX12_goes_10 {l : Launch} {E : zE} {d : Nat} {F : zFs} {n sl : Nat} (hG : zG F)     : ∀ (N : Nat) (v1 : Int) (v2 : Int) (v3 : Int) (D : zDa), zO l E (d + 89) YX12_goes 10 [(0, zR 91), (1, zI v1), (2, zI v2), (3, zI v3)] [] (F, D, n, sl) (zcI F n sl) (zfix (fun _ _ _ _ => none) (fX12_goes_10 F) N v1 v2 v3 D) := by
  intro N
  induction N with
  | zero => intro v1 v2 v3 D; exact zO_none
  | succ N hk_10 =>
    intro v1 v2 v3 D
    show zO _ _ _ _ _ _ _ _ _ ((fX12_goes_10 F) (zfix (fun _ _ _ _ => none) (fX12_goes_10 F) N) v1 v2 v3 D)
    unfold fX12_goes_10
    refine zO_iload_n dX12_goes_10 rfl ?_
    refine zO_aload_n dX12_goes_11 rfl (zR_P _) ?_
    refine zO_callV (Y' := YX12_questions) (cw := zcI F n sl) (as := []) (rest := [zI v3]) (na := 0) (ci := 12) rfl dX12_goes_12 wC_X12_questions wN_X12 wM_X12_146 wI_X12_questions wV_X12_questions (by decide) (by decide) rfl rfl (Nat.le_of_ble_eq_true rfl) rfl (by decide) (gk_91 hG) (fun r hr => zMet_cast (Nat.add_assoc d 88 0) (mX12_questions (d := d + 88) hG  r hr)) ?_
    rintro ⟨r_3, D_4⟩ -
    show zO _ _ _ _ _ _ [zI r_3, zI v3] (F, D_4, n, sl) _ _
    refine zO_icmp_ge (tgt := 52) dX12_goes_15 rfl (fun c15 => ?_) (fun c15 => ?_)
    · refine zO_aload_n dX12_goes_18 rfl (zR_P _) ?_
      refine zO_iload_n dX12_goes_19 rfl ?_
      refine zO_callV (Y' := YX12_isBowl) (cw := zcI F n sl) (as := [zI v3]) (rest := []) (na := 1) (ci := 12) rfl dX12_goes_20 wC_X12_isBowl wN_X12 wM_X12_154 wI_X12_isBowl wV_X12_isBowl (by decide) (by decide) rfl rfl (Nat.le_of_ble_eq_true rfl) rfl (by decide) (gk_91 hG) (fun r hr => zMet_cast (Nat.add_assoc d 87 1) (mX12_isBowl (d := d + 87) hG v3 r hr)) ?_
      rintro ⟨r_5, D_6⟩ -
      show zO _ _ _ _ _ _ [zI r_5] (F, D_6, n, sl) _ _
      refine zO_if_ne (tgt := 29) dX12_goes_23 rfl (fun c23 => ?_) (fun c23 => ?_)
      · refine zO_goto (tgt := 46) dX12_goes_26 rfl ?_
        refine zO_live [0, 1, 2, 3] ?_
        exact sX12_goes_46 hG v1 v2 v3 _ hk_10 D_6
      · refine zO_iload_n dX12_goes_29 rfl ?_
        refine zO_iconst dX12_goes_30 (by decide) ?_
        refine zO_iload_n dX12_goes_31 rfl ?_
        refine zO_ishl dX12_goes_32 ?_
        refine zO_ior dX12_goes_33 ?_
        refine zO_letI (fun x1_7 ex1_7 => ?_)
        refine zO_istore_n dX12_goes_34 (by decide) ?_
        refine zO_ls (ls' := [(0, zR 91), (1, zI x1_7), (2, zI v2), (3, zI v3)]) rfl ?_
        refine zO_iload_n dX12_goes_35 rfl ?_
        refine zO_aload_n dX12_goes_36 rfl (zR_P _) ?_
        refine zO_iload_n dX12_goes_37 rfl ?_
        refine zO_iconst dX12_goes_38 (by decide) ?_
        refine zO_callV (Y' := YX12_factOf) (cw := zcI F n sl) (as := [zI v3, zI 3]) (rest := [zI v2]) (na := 2) (ci := 12) rfl dX12_goes_39 wC_X12_factOf wN_X12 wM_X12_150 wI_X12_factOf wV_X12_factOf (by decide) (by decide) rfl rfl (Nat.le_of_ble_eq_true rfl) rfl (by decide) (gk_91 hG) (fun r hr => zMet_cast (Nat.add_assoc d 88 0) (mX12_factOf (d := d + 88) hG v3 3 r hr)) ?_
        rintro ⟨r_8, D_9⟩ -
        show zO _ _ _ _ _ _ [zI r_8, zI v2] (F, D_9, n, sl) _ _
        refine zO_iload_n dX12_goes_42 rfl ?_
        refine zO_ishl dX12_goes_43 ?_
        refine zO_ior dX12_goes_44 ?_
        refine zO_letI (fun x2_10 ex2_10 => ?_)
        refine zO_istore_n dX12_goes_45 (by decide) ?_
        refine zO_ls (ls' := [(0, zR 91), (1, zI x1_7), (2, zI x2_10), (3, zI v3)]) rfl ?_
        refine zO_live [0, 1, 2, 3] ?_
        exact sX12_goes_46 hG x1_7 x2_10 v3 _ hk_10 D_9
    · refine zO_aload_n dX12_goes_52 rfl (zR_P _) ?_
      refine zO_iconst dX12_goes_53 (by decide) ?_
      refine zO_callV (Y' := YX12_term) (cw := zcI F n sl) (as := [zI 0]) (rest := []) (na := 1) (ci := 12) rfl dX12_goes_54 wC_X12_term wN_X12 wM_X12_318 wI_X12_term wV_X12_term (by decide) (by decide) rfl rfl (Nat.le_of_ble_eq_true rfl) rfl (by decide) (gk_91 hG) (fun r hr => zMet_cast (Nat.add_assoc d 88 0) (mX12_term (d := d + 88) hG 0 r hr)) ?_
      rintro ⟨r_11, D_12⟩ -
      show zO _ _ _ _ _ _ [zI r_11] (F, D_12, n, sl) _ _
      refine zO_istore_n dX12_goes_57 (by decide) ?_
      refine zO_ls (ls' := [(0, zR 91), (1, zI v1), (2, zI v2), (3, zI r_11)]) rfl ?_
      refine zO_iload_n dX12_goes_58 rfl ?_
      refine zO_iload_n dX12_goes_59 rfl ?_
      refine zO_callS (Y' := YX12_ones) (cw := zcI F n sl) (as := [zI v1]) (rest := [zI r_11]) (na := 1) dX12_goes_60 wC_X12_ones wN_X12 wM_X12_502 wS_X12_ones (by decide) (by decide) rfl rfl (Nat.le_of_ble_eq_true rfl) (fun r hr => zMet_cast (Nat.add_assoc d 88 0) (mX12_ones (d := d + 88) hG v1 r hr)) ?_
      rintro ⟨r_13, D_14⟩ -
      show zO _ _ _ _ _ _ [zI r_13, zI r_11] (F, D_14, n, sl) _ _
      refine zO_icmp_ge (tgt := 70) dX12_goes_63 rfl (fun c63 => ?_) (fun c63 => ?_)
      · refine zO_iconst dX12_goes_66 (by decide) ?_
        refine zO_goto (tgt := 71) dX12_goes_67 rfl ?_
        refine zO_live [0, 1, 2, 3] ?_
        exact sX12_goes_71 hG v1 v2 r_11 1 D_14
      · refine zO_iconst dX12_goes_70 (by decide) ?_
        refine zO_live [0, 1, 2, 3] ?_
        exact sX12_goes_71 hG v1 v2 r_11 0 D_14
set_option maxHeartbeats 20000000 in
theorem mX12_goes {l : Launch} {E : zE} {d : Nat} {F : zFs} {n sl : Nat} (hG : zG F)  {D : zDa} : ∀ r, fX12_goes F   D = some r → zMet l E (d + 89) YX12_goes [zR 91] (F, D, n, sl) (zcI F n sl r) := by
  intro r hr
  refine zMet_of (plainFor_of_name (by decide)) (fun _ h => (nomatch h)) (Nat.le_of_ble_eq_true rfl) ?_
  have hz : zO l E (d + 89) YX12_goes 0 [(0, zR 91)] [] (F, D, n, sl) (zcI F n sl) (fX12_goes F   D) := by
    unfold fX12_goes
    refine zO_aload_n dX12_goes_0 rfl (zR_P _) ?_
    refine zO_callV (Y' := YX12_laysChances) (cw := zcV F n sl) (as := []) (rest := []) (na := 0) (ci := 12) rfl dX12_goes_1 wC_X12_laysChances wN_X12 wM_X12_334 wI_X12_laysChances wV_X12_laysChances (by decide) (by decide) rfl rfl (Nat.le_of_ble_eq_true rfl) rfl (by decide) (gk_91 hG) (fun r hr => zMet_cast (Nat.add_assoc d 0 88) (mX12_laysChances (d := d + 0) hG  r hr)) ?_
    intro D_2 _
    show zO _ _ _ _ _ _ [] (F, D_2, n, sl) _ _
    refine zO_iconst dX12_goes_4 (by decide) ?_
    refine zO_istore_n dX12_goes_5 (by decide) ?_
    refine zO_ls (ls' := [(0, zR 91), (1, zI 0)]) rfl ?_
    refine zO_iconst dX12_goes_6 (by decide) ?_
    refine zO_istore_n dX12_goes_7 (by decide) ?_
    refine zO_ls (ls' := [(0, zR 91), (1, zI 0), (2, zI 0)]) rfl ?_
    refine zO_iconst dX12_goes_8 (by decide) ?_
    refine zO_istore_n dX12_goes_9 (by decide) ?_
    refine zO_ls (ls' := [(0, zR 91), (1, zI 0), (2, zI 0), (3, zI 0)]) rfl ?_
    refine zO_live [0, 1, 2, 3] ?_
    exact sX12_goes_10 hG zfu 0 0 0 D_2
  exact hz r hr
theorem dX12_exam_0 : decode cX12_exam 0 = .ok (.iload_n 1, 1) := by decide +kernel
theorem dX12_exam_1 : decode cX12_exam 1 = .ok (.iconst 0, 1) := by decide +kernel
theorem dX12_exam_2 : decode cX12_exam 2 = .ok (.ldc 185, 2) := by decide +kernel
theorem dX12_exam_4 : decode cX12_exam 4 = .ok (.invokestatic 135, 3) := by decide +kernel
theorem dX12_exam_7 : decode cX12_exam 7 = .ok (.ifCond .ne 9, 3) := by decide +kernel
theorem dX12_exam_10 : decode cX12_exam 10 = .ok (.aload_n 0, 1) := by decide +kernel
theorem dX12_exam_11 : decode cX12_exam 11 = .ok (.iconst (-1), 1) := by decide +kernel
theorem dX12_exam_12 : decode cX12_exam 12 = .ok (.invokevirtual 139, 3) := by decide +kernel
theorem dX12_exam_15 : decode cX12_exam 15 = .ok (.ireturn, 1) := by decide +kernel
theorem dX12_exam_16 : decode cX12_exam 16 = .ok (.aload_n 0, 1) := by decide +kernel
theorem dX12_exam_17 : decode cX12_exam 17 = .ok (.iload_n 1, 1) := by decide +kernel
theorem dX12_exam_18 : decode cX12_exam 18 = .ok (.putfield 495, 3) := by decide +kernel
theorem dX12_exam_21 : decode cX12_exam 21 = .ok (.aload_n 0, 1) := by decide +kernel
theorem dX12_exam_22 : decode cX12_exam 22 = .ok (.invokevirtual 520, 3) := by decide +kernel
theorem dX12_exam_25 : decode cX12_exam 25 = .ok (.istore_n 2, 1) := by decide +kernel
theorem dX12_exam_26 : decode cX12_exam 26 = .ok (.aload_n 0, 1) := by decide +kernel
theorem dX12_exam_27 : decode cX12_exam 27 = .ok (.aload_n 0, 1) := by decide +kernel
theorem dX12_exam_28 : decode cX12_exam 28 = .ok (.getfield 505, 3) := by decide +kernel
theorem dX12_exam_31 : decode cX12_exam 31 = .ok (.putfield 132, 3) := by decide +kernel
theorem dX12_exam_34 : decode cX12_exam 34 = .ok (.aload_n 0, 1) := by decide +kernel
theorem dX12_exam_35 : decode cX12_exam 35 = .ok (.aload_n 0, 1) := by decide +kernel
theorem dX12_exam_36 : decode cX12_exam 36 = .ok (.getfield 514, 3) := by decide +kernel
theorem dX12_exam_39 : decode cX12_exam 39 = .ok (.putfield 523, 3) := by decide +kernel
theorem dX12_exam_42 : decode cX12_exam 42 = .ok (.aload_n 0, 1) := by decide +kernel
theorem dX12_exam_43 : decode cX12_exam 43 = .ok (.aload_n 0, 1) := by decide +kernel
theorem dX12_exam_44 : decode cX12_exam 44 = .ok (.getfield 517, 3) := by decide +kernel
theorem dX12_exam_47 : decode cX12_exam 47 = .ok (.putfield 526, 3) := by decide +kernel
theorem dX12_exam_50 : decode cX12_exam 50 = .ok (.aload_n 0, 1) := by decide +kernel
theorem dX12_exam_51 : decode cX12_exam 51 = .ok (.iload_n 2, 1) := by decide +kernel
theorem dX12_exam_52 : decode cX12_exam 52 = .ok (.invokevirtual 143, 3) := by decide +kernel
theorem dX12_exam_55 : decode cX12_exam 55 = .ok (.ireturn, 1) := by decide +kernel
abbrev YX12_exam : zY := (yX12_exam, cX12_exam, 3, (Option.some Jvm.ClassFile.FieldType.int), [])
def fX12_exam (F : zFs) (v1 : Int) (D : zDa) : Option (Int × zDa) :=
  (fX12_lies F v1 0 1000000 D).bind (fun (r_1, D_2) =>
    if r_1 = 0 then
      (fX12_refuses F (-1) D_2).bind (fun (r_3, D_4) =>
        some (r_3, D_4))
    else
      zlet (zwr D_2 91 63 v1) (fun D_5 =>
        (fX12_goes F D_5).bind (fun (r_6, D_7) =>
          zlet (zwr D_7 91 64 (D_7 91 67)) (fun D_8 =>
            zlet (zwr D_8 91 65 (D_8 91 68)) (fun D_9 =>
              zlet (zwr D_9 91 66 (D_9 91 69)) (fun D_10 =>
                (fX12_good F r_6 D_10).bind (fun (r_11, D_12) =>
                  some (r_11, D_12))))))))
set_option maxHeartbeats 20000000 in
theorem mX12_exam {l : Launch} {E : zE} {d : Nat} {F : zFs} {n sl : Nat} (hG : zG F) (v1 : Int) {D : zDa} : ∀ r, fX12_exam F  v1 D = some r → zMet l E (d + 90) YX12_exam [zR 91, zI v1] (F, D, n, sl) (zcI F n sl r) := by
  intro r hr
  refine zMet_of (plainFor_of_name (by decide)) (fun _ h => (nomatch h)) (Nat.le_of_ble_eq_true rfl) ?_
  have hz : zO l E (d + 90) YX12_exam 0 [(0, zR 91), (1, zI v1)] [] (F, D, n, sl) (zcI F n sl) (fX12_exam F  v1 D) := by
    unfold fX12_exam
    refine zO_iload_n dX12_exam_0 rfl ?_
    refine zO_iconst dX12_exam_1 (by decide) ?_
    refine zO_ldc (n := 1000000) dX12_exam_2 wK_X12_185 (by decide) ?_
    refine zO_callS (Y' := YX12_lies) (cw := zcI F n sl) (as := [zI v1, zI 0, zI 1000000]) (rest := []) (na := 3) dX12_exam_4 wC_X12_lies wN_X12 wM_X12_135 wS_X12_lies (by decide) (by decide) rfl rfl (Nat.le_of_ble_eq_true rfl) (fun r hr => zMet_cast (Nat.add_assoc d 89 0) (mX12_lies (d := d + 89) hG v1 0 1000000 r hr)) ?_
    rintro ⟨r_1, D_2⟩ -
    show zO _ _ _ _ _ _ [zI r_1] (F, D_2, n, sl) _ _
    refine zO_if_ne (tgt := 16) dX12_exam_7 rfl (fun c7 => ?_) (fun c7 => ?_)
    · refine zO_aload_n dX12_exam_10 rfl (zR_P _) ?_
      refine zO_iconst dX12_exam_11 (by decide) ?_
      refine zO_callV (Y' := YX12_refuses) (cw := zcI F n sl) (as := [zI (-1)]) (rest := []) (na := 1) (ci := 12) rfl dX12_exam_12 wC_X12_refuses wN_X12 wM_X12_139 wI_X12_refuses wV_X12_refuses (by decide) (by decide) rfl rfl (Nat.le_of_ble_eq_true rfl) rfl (by decide) (gk_91 hG) (fun r hr => zMet_cast (Nat.add_assoc d 89 0) (mX12_refuses (d := d + 89) hG (-1) r hr)) ?_
      rintro ⟨r_3, D_4⟩ -
      show zO _ _ _ _ _ _ [zI r_3] (F, D_4, n, sl) _ _
      exact zO_ret (rv := some (zI r_3)) dX12_exam_15 rfl rfl rfl
    · refine zO_aload_n dX12_exam_16 rfl (zR_P _) ?_
      refine zO_iload_n dX12_exam_17 rfl ?_
      refine ptI12 (k := 63) (z := v1) dX12_exam_18 wF_X12_495 (by decide) rfl (gk_91 hG) rfl ?_
      refine zO_letD (fun D_5 eD_5 => ?_)
      refine zO_aload_n dX12_exam_21 rfl (zR_P _) ?_
      refine zO_callV (Y' := YX12_goes) (cw := zcI F n sl) (as := []) (rest := []) (na := 0) (ci := 12) rfl dX12_exam_22 wC_X12_goes wN_X12 wM_X12_520 wI_X12_goes wV_X12_goes (by decide) (by decide) rfl rfl (Nat.le_of_ble_eq_true rfl) rfl (by decide) (gk_91 hG) (fun r hr => zMet_cast (Nat.add_assoc d 0 89) (mX12_goes (d := d + 0) hG  r hr)) ?_
      rintro ⟨r_6, D_7⟩ -
      show zO _ _ _ _ _ _ [zI r_6] (F, D_7, n, sl) _ _
      refine zO_istore_n dX12_exam_25 (by decide) ?_
      refine zO_ls (ls' := [(0, zR 91), (1, zI v1), (2, zI r_6)]) rfl ?_
      refine zO_aload_n dX12_exam_26 rfl (zR_P _) ?_
      refine zO_aload_n dX12_exam_27 rfl (zR_P _) ?_
      refine gt12 (k := 67) (v := zI (D_7 91 67)) dX12_exam_28 wF_X12_505 (by decide) (gk_91 hG) rfl ?_
      refine ptI12 (k := 64) (z := (D_7 91 67)) dX12_exam_31 wF_X12_132 (by decide) rfl (gk_91 hG) rfl ?_
      refine zO_letD (fun D_8 eD_8 => ?_)
      refine zO_aload_n dX12_exam_34 rfl (zR_P _) ?_
      refine zO_aload_n dX12_exam_35 rfl (zR_P _) ?_
      refine gt12 (k := 68) (v := zI (D_8 91 68)) dX12_exam_36 wF_X12_514 (by decide) (gk_91 hG) rfl ?_
      refine ptI12 (k := 65) (z := (D_8 91 68)) dX12_exam_39 wF_X12_523 (by decide) rfl (gk_91 hG) rfl ?_
      refine zO_letD (fun D_9 eD_9 => ?_)
      refine zO_aload_n dX12_exam_42 rfl (zR_P _) ?_
      refine zO_aload_n dX12_exam_43 rfl (zR_P _) ?_
      refine gt12 (k := 69) (v := zI (D_9 91 69)) dX12_exam_44 wF_X12_517 (by decide) (gk_91 hG) rfl ?_
      refine ptI12 (k := 66) (z := (D_9 91 69)) dX12_exam_47 wF_X12_526 (by decide) rfl (gk_91 hG) rfl ?_
      refine zO_letD (fun D_10 eD_10 => ?_)
      refine zO_aload_n dX12_exam_50 rfl (zR_P _) ?_
      refine zO_iload_n dX12_exam_51 rfl ?_
      refine zO_callV (Y' := YX12_good) (cw := zcI F n sl) (as := [zI r_6]) (rest := []) (na := 1) (ci := 12) rfl dX12_exam_52 wC_X12_good wN_X12 wM_X12_143 wI_X12_good wV_X12_good (by decide) (by decide) rfl rfl (Nat.le_of_ble_eq_true rfl) rfl (by decide) (gk_91 hG) (fun r hr => zMet_cast (Nat.add_assoc d 89 0) (mX12_good (d := d + 89) hG r_6 r hr)) ?_
      rintro ⟨r_11, D_12⟩ -
      show zO _ _ _ _ _ _ [zI r_11] (F, D_12, n, sl) _ _
      exact zO_ret (rv := some (zI r_11)) dX12_exam_55 rfl rfl rfl
  exact hz r hr
theorem dX12_table_0 : decode cX12_table 0 = .ok (.aload_n 0, 1) := by decide +kernel
theorem dX12_table_1 : decode cX12_table 1 = .ok (.getfield 132, 3) := by decide +kernel
theorem dX12_table_4 : decode cX12_table 4 = .ok (.iconst (-1), 1) := by decide +kernel
theorem dX12_table_5 : decode cX12_table 5 = .ok (.if_icmp .eq 12, 3) := by decide +kernel
theorem dX12_table_8 : decode cX12_table 8 = .ok (.iload_n 1, 1) := by decide +kernel
theorem dX12_table_9 : decode cX12_table 9 = .ok (.iconst 0, 1) := by decide +kernel
theorem dX12_table_10 : decode cX12_table 10 = .ok (.iconst 2, 1) := by decide +kernel
theorem dX12_table_11 : decode cX12_table 11 = .ok (.invokestatic 135, 3) := by decide +kernel
theorem dX12_table_14 : decode cX12_table 14 = .ok (.ifCond .ne 7, 3) := by decide +kernel
theorem dX12_table_17 : decode cX12_table 17 = .ok (.iconst (-1), 1) := by decide +kernel
theorem dX12_table_18 : decode cX12_table 18 = .ok (.goto 30, 3) := by decide +kernel
theorem dX12_table_21 : decode cX12_table 21 = .ok (.iload_n 1, 1) := by decide +kernel
theorem dX12_table_22 : decode cX12_table 22 = .ok (.ifCond .ne 10, 3) := by decide +kernel
theorem dX12_table_25 : decode cX12_table 25 = .ok (.aload_n 0, 1) := by decide +kernel
theorem dX12_table_26 : decode cX12_table 26 = .ok (.getfield 132, 3) := by decide +kernel
theorem dX12_table_29 : decode cX12_table 29 = .ok (.goto 19, 3) := by decide +kernel
theorem dX12_table_32 : decode cX12_table 32 = .ok (.iload_n 1, 1) := by decide +kernel
theorem dX12_table_33 : decode cX12_table 33 = .ok (.iconst 1, 1) := by decide +kernel
theorem dX12_table_34 : decode cX12_table 34 = .ok (.if_icmp .ne 10, 3) := by decide +kernel
theorem dX12_table_37 : decode cX12_table 37 = .ok (.aload_n 0, 1) := by decide +kernel
theorem dX12_table_38 : decode cX12_table 38 = .ok (.getfield 523, 3) := by decide +kernel
theorem dX12_table_41 : decode cX12_table 41 = .ok (.goto 7, 3) := by decide +kernel
theorem dX12_table_44 : decode cX12_table 44 = .ok (.aload_n 0, 1) := by decide +kernel
theorem dX12_table_45 : decode cX12_table 45 = .ok (.getfield 526, 3) := by decide +kernel
theorem dX12_table_48 : decode cX12_table 48 = .ok (.ireturn, 1) := by decide +kernel
abbrev YX12_table : zY := (yX12_table, cX12_table, 2, (Option.some Jvm.ClassFile.FieldType.int), [])
def fX12_table (F : zFs) (v1 : Int) (D : zDa) : Option (Int × zDa) :=
  if (D 91 64) = (-1) then
    some ((-1), D)
  else
    (fX12_lies F v1 0 2 D).bind (fun (r_1, D_2) =>
      if r_1 = 0 then
        some ((-1), D_2)
      else
        if v1 = 0 then
          some ((D_2 91 64), D_2)
        else
          if v1 = 1 then
            some ((D_2 91 65), D_2)
          else
            some ((D_2 91 66), D_2))
set_option maxHeartbeats 20000000 in
theorem mX12_table {l : Launch} {E : zE} {d : Nat} {F : zFs} {n sl : Nat} (hG : zG F) (v1 : Int) {D : zDa} : ∀ r, fX12_table F  v1 D = some r → zMet l E (d + 1) YX12_table [zR 91, zI v1] (F, D, n, sl) (zcI F n sl r) := by
  intro r hr
  refine zMet_of (plainFor_of_name (by decide)) (fun _ h => (nomatch h)) (Nat.le_of_ble_eq_true rfl) ?_
  have hz : zO l E (d + 1) YX12_table 0 [(0, zR 91), (1, zI v1)] [] (F, D, n, sl) (zcI F n sl) (fX12_table F  v1 D) := by
    unfold fX12_table
    refine zO_aload_n dX12_table_0 rfl (zR_P _) ?_
    refine gt12 (k := 64) (v := zI (D 91 64)) dX12_table_1 wF_X12_132 (by decide) (gk_91 hG) rfl ?_
    refine zO_iconst dX12_table_4 (by decide) ?_
    refine zO_icmp_eq (tgt := 17) dX12_table_5 rfl (fun c5 => ?_) (fun c5 => ?_)
    · refine zO_iconst dX12_table_17 (by decide) ?_
      refine zO_goto (tgt := 48) dX12_table_18 rfl ?_
      exact zO_ret (rv := some (zI (-1))) dX12_table_48 rfl rfl rfl
    · refine zO_iload_n dX12_table_8 rfl ?_
      refine zO_iconst dX12_table_9 (by decide) ?_
      refine zO_iconst dX12_table_10 (by decide) ?_
      refine zO_callS (Y' := YX12_lies) (cw := zcI F n sl) (as := [zI v1, zI 0, zI 2]) (rest := []) (na := 3) dX12_table_11 wC_X12_lies wN_X12 wM_X12_135 wS_X12_lies (by decide) (by decide) rfl rfl (Nat.le_of_ble_eq_true rfl) (fun r hr => zMet_cast (Nat.add_assoc d 0 0) (mX12_lies (d := d + 0) hG v1 0 2 r hr)) ?_
      rintro ⟨r_1, D_2⟩ -
      show zO _ _ _ _ _ _ [zI r_1] (F, D_2, n, sl) _ _
      refine zO_if_ne (tgt := 21) dX12_table_14 rfl (fun c14 => ?_) (fun c14 => ?_)
      · refine zO_iconst dX12_table_17 (by decide) ?_
        refine zO_goto (tgt := 48) dX12_table_18 rfl ?_
        exact zO_ret (rv := some (zI (-1))) dX12_table_48 rfl rfl rfl
      · refine zO_iload_n dX12_table_21 rfl ?_
        refine zO_if_ne (tgt := 32) dX12_table_22 rfl (fun c22 => ?_) (fun c22 => ?_)
        · refine zO_aload_n dX12_table_25 rfl (zR_P _) ?_
          refine gt12 (k := 64) (v := zI (D_2 91 64)) dX12_table_26 wF_X12_132 (by decide) (gk_91 hG) rfl ?_
          refine zO_goto (tgt := 48) dX12_table_29 rfl ?_
          exact zO_ret (rv := some (zI (D_2 91 64))) dX12_table_48 rfl rfl rfl
        · refine zO_iload_n dX12_table_32 rfl ?_
          refine zO_iconst dX12_table_33 (by decide) ?_
          refine zO_icmp_ne (tgt := 44) dX12_table_34 rfl (fun c34 => ?_) (fun c34 => ?_)
          · refine zO_aload_n dX12_table_37 rfl (zR_P _) ?_
            refine gt12 (k := 65) (v := zI (D_2 91 65)) dX12_table_38 wF_X12_523 (by decide) (gk_91 hG) rfl ?_
            refine zO_goto (tgt := 48) dX12_table_41 rfl ?_
            exact zO_ret (rv := some (zI (D_2 91 65))) dX12_table_48 rfl rfl rfl
          · refine zO_aload_n dX12_table_44 rfl (zR_P _) ?_
            refine gt12 (k := 66) (v := zI (D_2 91 66)) dX12_table_45 wF_X12_526 (by decide) (gk_91 hG) rfl ?_
            exact zO_ret (rv := some (zI (D_2 91 66))) dX12_table_48 rfl rfl rfl
  exact hz r hr
theorem dX12_exams_0 : decode cX12_exams 0 = .ok (.iload_n 1, 1) := by decide +kernel
theorem dX12_exams_1 : decode cX12_exams 1 = .ok (.iconst 1, 1) := by decide +kernel
theorem dX12_exams_2 : decode cX12_exams 2 = .ok (.sipush 500, 3) := by decide +kernel
theorem dX12_exams_5 : decode cX12_exams 5 = .ok (.invokestatic 135, 3) := by decide +kernel
theorem dX12_exams_8 : decode cX12_exams 8 = .ok (.ifCond .eq 13, 3) := by decide +kernel
theorem dX12_exams_11 : decode cX12_exams 11 = .ok (.iload_n 2, 1) := by decide +kernel
theorem dX12_exams_12 : decode cX12_exams 12 = .ok (.iconst 0, 1) := by decide +kernel
theorem dX12_exams_13 : decode cX12_exams 13 = .ok (.ldc 185, 2) := by decide +kernel
theorem dX12_exams_15 : decode cX12_exams 15 = .ok (.invokestatic 135, 3) := by decide +kernel
theorem dX12_exams_18 : decode cX12_exams 18 = .ok (.ifCond .ne 5, 3) := by decide +kernel
theorem dX12_exams_21 : decode cX12_exams 21 = .ok (.iconst (-1), 1) := by decide +kernel
theorem dX12_exams_22 : decode cX12_exams 22 = .ok (.ireturn, 1) := by decide +kernel
theorem dX12_exams_23 : decode cX12_exams 23 = .ok (.aload_n 0, 1) := by decide +kernel
theorem dX12_exams_24 : decode cX12_exams 24 = .ok (.iload_n 2, 1) := by decide +kernel
theorem dX12_exams_25 : decode cX12_exams 25 = .ok (.putfield 495, 3) := by decide +kernel
theorem dX12_exams_28 : decode cX12_exams 28 = .ok (.iconst 0, 1) := by decide +kernel
theorem dX12_exams_29 : decode cX12_exams 29 = .ok (.istore_n 3, 1) := by decide +kernel
theorem dX12_exams_30 : decode cX12_exams 30 = .ok (.iconst 0, 1) := by decide +kernel
theorem dX12_exams_31 : decode cX12_exams 31 = .ok (.istore 4, 2) := by decide +kernel
theorem dX12_exams_33 : decode cX12_exams 33 = .ok (.iload 4, 2) := by decide +kernel
theorem dX12_exams_35 : decode cX12_exams 35 = .ok (.iload_n 1, 1) := by decide +kernel
theorem dX12_exams_36 : decode cX12_exams 36 = .ok (.if_icmp .ge 29, 3) := by decide +kernel
theorem dX12_exams_39 : decode cX12_exams 39 = .ok (.iload_n 3, 1) := by decide +kernel
theorem dX12_exams_40 : decode cX12_exams 40 = .ok (.aload_n 0, 1) := by decide +kernel
theorem dX12_exams_41 : decode cX12_exams 41 = .ok (.invokevirtual 520, 3) := by decide +kernel
theorem dX12_exams_44 : decode cX12_exams 44 = .ok (.aload_n 0, 1) := by decide +kernel
theorem dX12_exams_45 : decode cX12_exams 45 = .ok (.iconst 2, 1) := by decide +kernel
theorem dX12_exams_46 : decode cX12_exams 46 = .ok (.invokevirtual 318, 3) := by decide +kernel
theorem dX12_exams_49 : decode cX12_exams 49 = .ok (.if_icmp .lt 7, 3) := by decide +kernel
theorem dX12_exams_52 : decode cX12_exams 52 = .ok (.iconst 1, 1) := by decide +kernel
theorem dX12_exams_53 : decode cX12_exams 53 = .ok (.goto 4, 3) := by decide +kernel
theorem dX12_exams_56 : decode cX12_exams 56 = .ok (.iconst 0, 1) := by decide +kernel
theorem dX12_exams_57 : decode cX12_exams 57 = .ok (.iadd, 1) := by decide +kernel
theorem dX12_exams_58 : decode cX12_exams 58 = .ok (.istore_n 3, 1) := by decide +kernel
theorem dX12_exams_59 : decode cX12_exams 59 = .ok (.iinc 4 1, 3) := by decide +kernel
theorem dX12_exams_62 : decode cX12_exams 62 = .ok (.goto (-29), 3) := by decide +kernel
theorem dX12_exams_65 : decode cX12_exams 65 = .ok (.iload_n 3, 1) := by decide +kernel
theorem dX12_exams_66 : decode cX12_exams 66 = .ok (.ireturn, 1) := by decide +kernel
abbrev YX12_exams : zY := (yX12_exams, cX12_exams, 5, (Option.some Jvm.ClassFile.FieldType.int), [])
def fX12_exams_57 (F : zFs) (k_33 : Int → Int → zDa → Option (Int × zDa)) (o1 : Int) (v4 : Int) (s0 : Int) (s1 : Int) (D : zDa) : Option (Int × zDa) :=
  if (-2147483648 ≤ s1 + s0 ∧ s1 + s0 ≤ 2147483647) then
    zlet ((s1 + s0)) (fun x3_10 =>
      if (-2147483648 ≤ v4 + 1 ∧ v4 + 1 ≤ 2147483647) then
        k_33 x3_10 (v4 + 1) D
      else none)
  else none
def fX12_exams_33 (F : zFs) (o1 : Int)  (k_33 : Int → Int → zDa → Option (Int × zDa)) (v3 : Int) (v4 : Int) (D : zDa) : Option (Int × zDa) :=
  if v4 < o1 then
    (fX12_goes F D).bind (fun (r_6, D_7) =>
      (fX12_term F 2 D_7).bind (fun (r_8, D_9) =>
        if r_6 < r_8 then
          fX12_exams_57 F k_33 o1 v4 0 v3 D_9
        else
          fX12_exams_57 F k_33 o1 v4 1 v3 D_9))
  else
    some (v3, D)
def fX12_exams (F : zFs) (v1 : Int) (v2 : Int) (D : zDa) : Option (Int × zDa) :=
  (fX12_lies F v1 1 500 D).bind (fun (r_1, D_2) =>
    if r_1 = 0 then
      some ((-1), D_2)
    else
      (fX12_lies F v2 0 1000000 D_2).bind (fun (r_3, D_4) =>
        if r_3 = 0 then
          some ((-1), D_4)
        else
          zlet (zwr D_4 91 63 v2) (fun D_5 =>
            zfix (fun _ _ _ => none) (fX12_exams_33 F v1) zfu 0 0 D_5)))
set_option maxHeartbeats 20000000 in
theorem sX12_exams_57 {l : Launch} {E : zE} {d : Nat} {F : zFs} {n sl : Nat} (hG : zG F)  (o1 : Int) (v4 : Int) (s0 : Int) (s1 : Int) (k_33 : Int → Int → zDa → Option (Int × zDa)) (hk_33 : ∀ (u3 : Int) (u4 : Int) (D : zDa), zO l E (d + 90) YX12_exams 33 [(0, zR 91), (1, zI o1), (3, zI u3), (4, zI u4)] [] (F, D, n, sl) (zcI F n sl) (k_33 u3 u4 D)) (D : zDa) : zO l E (d + 90) YX12_exams 57 [(0, zR 91), (1, zI o1), (4, zI v4)] [zI s0, zI s1] (F, D, n, sl) (zcI F n sl) (fX12_exams_57 F k_33 o1 v4 s0 s1 D) := by
  unfold fX12_exams_57
  refine zO_chk (fun h1 => ?_)
  refine zO_iadd dX12_exams_57 h1 ?_
  refine zO_letI (fun x3_10 ex3_10 => ?_)
  refine zO_istore_n dX12_exams_58 (by decide) ?_
  refine zO_ls (ls' := [(0, zR 91), (1, zI o1), (3, zI x3_10), (4, zI v4)]) rfl ?_
  refine zO_chk (fun h2 => ?_)
  refine zO_iinc dX12_exams_59 rfl h2 (by decide) ?_
  refine zO_ls (ls' := [(0, zR 91), (1, zI o1), (3, zI x3_10), (4, zI (v4 + 1))]) rfl ?_
  refine zO_goto (tgt := 33) dX12_exams_62 rfl ?_
  refine zO_live [0, 1, 3, 4] ?_
  exact hk_33 x3_10 (v4 + 1) D
set_option maxHeartbeats 20000000 in
theorem sX12_exams_33 {l : Launch} {E : zE} {d : Nat} {F : zFs} {n sl : Nat} (hG : zG F)  (o1 : Int)   : ∀ (N : Nat) (v3 : Int) (v4 : Int) (D : zDa), zO l E (d + 90) YX12_exams 33 [(0, zR 91), (1, zI o1), (3, zI v3), (4, zI v4)] [] (F, D, n, sl) (zcI F n sl) (zfix (fun _ _ _ => none) (fX12_exams_33 F o1) N v3 v4 D) := by
  intro N
  induction N with
  | zero => intro v3 v4 D; exact zO_none
  | succ N hk_33 =>
    intro v3 v4 D
    show zO _ _ _ _ _ _ _ _ _ ((fX12_exams_33 F o1) (zfix (fun _ _ _ => none) (fX12_exams_33 F o1) N) v3 v4 D)
    unfold fX12_exams_33
    refine zO_iload dX12_exams_33 rfl ?_
    refine zO_iload_n dX12_exams_35 rfl ?_
    refine zO_icmp_ge (tgt := 65) dX12_exams_36 rfl (fun c36 => ?_) (fun c36 => ?_)
    · refine zO_iload_n dX12_exams_39 rfl ?_
      refine zO_aload_n dX12_exams_40 rfl (zR_P _) ?_
      refine zO_callV (Y' := YX12_goes) (cw := zcI F n sl) (as := []) (rest := [zI v3]) (na := 0) (ci := 12) rfl dX12_exams_41 wC_X12_goes wN_X12 wM_X12_520 wI_X12_goes wV_X12_goes (by decide) (by decide) rfl rfl (Nat.le_of_ble_eq_true rfl) rfl (by decide) (gk_91 hG) (fun r hr => zMet_cast (Nat.add_assoc d 0 89) (mX12_goes (d := d + 0) hG  r hr)) ?_
      rintro ⟨r_6, D_7⟩ -
      show zO _ _ _ _ _ _ [zI r_6, zI v3] (F, D_7, n, sl) _ _
      refine zO_aload_n dX12_exams_44 rfl (zR_P _) ?_
      refine zO_iconst dX12_exams_45 (by decide) ?_
      refine zO_callV (Y' := YX12_term) (cw := zcI F n sl) (as := [zI 2]) (rest := [zI r_6, zI v3]) (na := 1) (ci := 12) rfl dX12_exams_46 wC_X12_term wN_X12 wM_X12_318 wI_X12_term wV_X12_term (by decide) (by decide) rfl rfl (Nat.le_of_ble_eq_true rfl) rfl (by decide) (gk_91 hG) (fun r hr => zMet_cast (Nat.add_assoc d 89 0) (mX12_term (d := d + 89) hG 2 r hr)) ?_
      rintro ⟨r_8, D_9⟩ -
      show zO _ _ _ _ _ _ [zI r_8, zI r_6, zI v3] (F, D_9, n, sl) _ _
      refine zO_icmp_lt (tgt := 56) dX12_exams_49 rfl (fun c49 => ?_) (fun c49 => ?_)
      · refine zO_iconst dX12_exams_56 (by decide) ?_
        refine zO_live [0, 1, 4] ?_
        exact sX12_exams_57 hG o1 v4 0 v3 _ hk_33 D_9
      · refine zO_iconst dX12_exams_52 (by decide) ?_
        refine zO_goto (tgt := 57) dX12_exams_53 rfl ?_
        refine zO_live [0, 1, 4] ?_
        exact sX12_exams_57 hG o1 v4 1 v3 _ hk_33 D_9
    · refine zO_iload_n dX12_exams_65 rfl ?_
      exact zO_ret (rv := some (zI v3)) dX12_exams_66 rfl rfl rfl
set_option maxHeartbeats 20000000 in
theorem mX12_exams {l : Launch} {E : zE} {d : Nat} {F : zFs} {n sl : Nat} (hG : zG F) (v1 : Int) (v2 : Int) {D : zDa} : ∀ r, fX12_exams F  v1 v2 D = some r → zMet l E (d + 90) YX12_exams [zR 91, zI v1, zI v2] (F, D, n, sl) (zcI F n sl r) := by
  intro r hr
  refine zMet_of (plainFor_of_name (by decide)) (fun _ h => (nomatch h)) (Nat.le_of_ble_eq_true rfl) ?_
  have hz : zO l E (d + 90) YX12_exams 0 [(0, zR 91), (1, zI v1), (2, zI v2)] [] (F, D, n, sl) (zcI F n sl) (fX12_exams F  v1 v2 D) := by
    unfold fX12_exams
    refine zO_iload_n dX12_exams_0 rfl ?_
    refine zO_iconst dX12_exams_1 (by decide) ?_
    refine zO_sipush dX12_exams_2 (by decide) ?_
    refine zO_callS (Y' := YX12_lies) (cw := zcI F n sl) (as := [zI v1, zI 1, zI 500]) (rest := []) (na := 3) dX12_exams_5 wC_X12_lies wN_X12 wM_X12_135 wS_X12_lies (by decide) (by decide) rfl rfl (Nat.le_of_ble_eq_true rfl) (fun r hr => zMet_cast (Nat.add_assoc d 89 0) (mX12_lies (d := d + 89) hG v1 1 500 r hr)) ?_
    rintro ⟨r_1, D_2⟩ -
    show zO _ _ _ _ _ _ [zI r_1] (F, D_2, n, sl) _ _
    refine zO_if_eq (tgt := 21) dX12_exams_8 rfl (fun c8 => ?_) (fun c8 => ?_)
    · refine zO_iconst dX12_exams_21 (by decide) ?_
      exact zO_ret (rv := some (zI (-1))) dX12_exams_22 rfl rfl rfl
    · refine zO_iload_n dX12_exams_11 rfl ?_
      refine zO_iconst dX12_exams_12 (by decide) ?_
      refine zO_ldc (n := 1000000) dX12_exams_13 wK_X12_185 (by decide) ?_
      refine zO_callS (Y' := YX12_lies) (cw := zcI F n sl) (as := [zI v2, zI 0, zI 1000000]) (rest := []) (na := 3) dX12_exams_15 wC_X12_lies wN_X12 wM_X12_135 wS_X12_lies (by decide) (by decide) rfl rfl (Nat.le_of_ble_eq_true rfl) (fun r hr => zMet_cast (Nat.add_assoc d 89 0) (mX12_lies (d := d + 89) hG v2 0 1000000 r hr)) ?_
      rintro ⟨r_3, D_4⟩ -
      show zO _ _ _ _ _ _ [zI r_3] (F, D_4, n, sl) _ _
      refine zO_if_ne (tgt := 23) dX12_exams_18 rfl (fun c18 => ?_) (fun c18 => ?_)
      · refine zO_iconst dX12_exams_21 (by decide) ?_
        exact zO_ret (rv := some (zI (-1))) dX12_exams_22 rfl rfl rfl
      · refine zO_aload_n dX12_exams_23 rfl (zR_P _) ?_
        refine zO_iload_n dX12_exams_24 rfl ?_
        refine ptI12 (k := 63) (z := v2) dX12_exams_25 wF_X12_495 (by decide) rfl (gk_91 hG) rfl ?_
        refine zO_letD (fun D_5 eD_5 => ?_)
        refine zO_iconst dX12_exams_28 (by decide) ?_
        refine zO_istore_n dX12_exams_29 (by decide) ?_
        refine zO_ls (ls' := [(0, zR 91), (1, zI v1), (2, zI v2), (3, zI 0)]) rfl ?_
        refine zO_iconst dX12_exams_30 (by decide) ?_
        refine zO_istore dX12_exams_31 (by decide) ?_
        refine zO_ls (ls' := [(0, zR 91), (1, zI v1), (2, zI v2), (3, zI 0), (4, zI 0)]) rfl ?_
        refine zO_live [0, 1, 3, 4] ?_
        exact sX12_exams_33 hG v1 zfu 0 0 D_5
  exact hz r hr
theorem dX12_count_0 : decode cX12_count 0 = .ok (.iconst 0, 1) := by decide +kernel
theorem dX12_count_1 : decode cX12_count 1 = .ok (.istore_n 2, 1) := by decide +kernel
theorem dX12_count_2 : decode cX12_count 2 = .ok (.iconst 0, 1) := by decide +kernel
theorem dX12_count_3 : decode cX12_count 3 = .ok (.istore_n 3, 1) := by decide +kernel
theorem dX12_count_4 : decode cX12_count 4 = .ok (.iload_n 3, 1) := by decide +kernel
theorem dX12_count_5 : decode cX12_count 5 = .ok (.aload_n 0, 1) := by decide +kernel
theorem dX12_count_6 : decode cX12_count 6 = .ok (.invokevirtual 146, 3) := by decide +kernel
theorem dX12_count_9 : decode cX12_count 9 = .ok (.if_icmp .ge 26, 3) := by decide +kernel
theorem dX12_count_12 : decode cX12_count 12 = .ok (.iload_n 2, 1) := by decide +kernel
theorem dX12_count_13 : decode cX12_count 13 = .ok (.aload_n 0, 1) := by decide +kernel
theorem dX12_count_14 : decode cX12_count 14 = .ok (.iload_n 3, 1) := by decide +kernel
theorem dX12_count_15 : decode cX12_count 15 = .ok (.iconst 2, 1) := by decide +kernel
theorem dX12_count_16 : decode cX12_count 16 = .ok (.invokevirtual 150, 3) := by decide +kernel
theorem dX12_count_19 : decode cX12_count 19 = .ok (.ifCond .le 7, 3) := by decide +kernel
theorem dX12_count_22 : decode cX12_count 22 = .ok (.iconst 1, 1) := by decide +kernel
theorem dX12_count_23 : decode cX12_count 23 = .ok (.goto 4, 3) := by decide +kernel
theorem dX12_count_26 : decode cX12_count 26 = .ok (.iconst 0, 1) := by decide +kernel
theorem dX12_count_27 : decode cX12_count 27 = .ok (.iadd, 1) := by decide +kernel
theorem dX12_count_28 : decode cX12_count 28 = .ok (.istore_n 2, 1) := by decide +kernel
theorem dX12_count_29 : decode cX12_count 29 = .ok (.iinc 3 1, 3) := by decide +kernel
theorem dX12_count_32 : decode cX12_count 32 = .ok (.goto (-28), 3) := by decide +kernel
theorem dX12_count_35 : decode cX12_count 35 = .ok (.iload_n 1, 1) := by decide +kernel
theorem dX12_count_36 : decode cX12_count 36 = .ok (.tableswitch 146 0 12 #[68, 73, 78, 87, 96, 105, 107, 112, 112, 112, 122, 129, 137], 68) := by decide +kernel
theorem dX12_count_104 : decode cX12_count 104 = .ok (.aload_n 0, 1) := by decide +kernel
theorem dX12_count_105 : decode cX12_count 105 = .ok (.invokevirtual 146, 3) := by decide +kernel
theorem dX12_count_108 : decode cX12_count 108 = .ok (.ireturn, 1) := by decide +kernel
theorem dX12_count_109 : decode cX12_count 109 = .ok (.aload_n 0, 1) := by decide +kernel
theorem dX12_count_110 : decode cX12_count 110 = .ok (.invokevirtual 362, 3) := by decide +kernel
theorem dX12_count_113 : decode cX12_count 113 = .ok (.ireturn, 1) := by decide +kernel
theorem dX12_count_114 : decode cX12_count 114 = .ok (.aload_n 0, 1) := by decide +kernel
theorem dX12_count_115 : decode cX12_count 115 = .ok (.getfield 20, 3) := by decide +kernel
theorem dX12_count_118 : decode cX12_count 118 = .ok (.sipush 393, 3) := by decide +kernel
theorem dX12_count_121 : decode cX12_count 121 = .ok (.iaload, 1) := by decide +kernel
theorem dX12_count_122 : decode cX12_count 122 = .ok (.ireturn, 1) := by decide +kernel
theorem dX12_count_123 : decode cX12_count 123 = .ok (.aload_n 0, 1) := by decide +kernel
theorem dX12_count_124 : decode cX12_count 124 = .ok (.getfield 20, 3) := by decide +kernel
theorem dX12_count_127 : decode cX12_count 127 = .ok (.sipush 391, 3) := by decide +kernel
theorem dX12_count_130 : decode cX12_count 130 = .ok (.iaload, 1) := by decide +kernel
theorem dX12_count_131 : decode cX12_count 131 = .ok (.ireturn, 1) := by decide +kernel
theorem dX12_count_132 : decode cX12_count 132 = .ok (.aload_n 0, 1) := by decide +kernel
theorem dX12_count_133 : decode cX12_count 133 = .ok (.getfield 20, 3) := by decide +kernel
theorem dX12_count_136 : decode cX12_count 136 = .ok (.sipush 392, 3) := by decide +kernel
theorem dX12_count_139 : decode cX12_count 139 = .ok (.iaload, 1) := by decide +kernel
theorem dX12_count_140 : decode cX12_count 140 = .ok (.ireturn, 1) := by decide +kernel
theorem dX12_count_141 : decode cX12_count 141 = .ok (.iload_n 2, 1) := by decide +kernel
theorem dX12_count_142 : decode cX12_count 142 = .ok (.ireturn, 1) := by decide +kernel
theorem dX12_count_143 : decode cX12_count 143 = .ok (.aload_n 0, 1) := by decide +kernel
theorem dX12_count_144 : decode cX12_count 144 = .ok (.getfield 170, 3) := by decide +kernel
theorem dX12_count_147 : decode cX12_count 147 = .ok (.ireturn, 1) := by decide +kernel
theorem dX12_count_148 : decode cX12_count 148 = .ok (.aload_n 0, 1) := by decide +kernel
theorem dX12_count_149 : decode cX12_count 149 = .ok (.getfield 7, 3) := by decide +kernel
theorem dX12_count_152 : decode cX12_count 152 = .ok (.iload_n 1, 1) := by decide +kernel
theorem dX12_count_153 : decode cX12_count 153 = .ok (.bipush 6, 2) := by decide +kernel
theorem dX12_count_155 : decode cX12_count 155 = .ok (.isub, 1) := by decide +kernel
theorem dX12_count_156 : decode cX12_count 156 = .ok (.iaload, 1) := by decide +kernel
theorem dX12_count_157 : decode cX12_count 157 = .ok (.ireturn, 1) := by decide +kernel
theorem dX12_count_158 : decode cX12_count 158 = .ok (.aload_n 0, 1) := by decide +kernel
theorem dX12_count_159 : decode cX12_count 159 = .ok (.getfield 7, 3) := by decide +kernel
theorem dX12_count_162 : decode cX12_count 162 = .ok (.iconst 5, 1) := by decide +kernel
theorem dX12_count_163 : decode cX12_count 163 = .ok (.iaload, 1) := by decide +kernel
theorem dX12_count_164 : decode cX12_count 164 = .ok (.ireturn, 1) := by decide +kernel
theorem dX12_count_165 : decode cX12_count 165 = .ok (.aload_n 0, 1) := by decide +kernel
theorem dX12_count_166 : decode cX12_count 166 = .ok (.getfield 7, 3) := by decide +kernel
theorem dX12_count_169 : decode cX12_count 169 = .ok (.bipush 6, 2) := by decide +kernel
theorem dX12_count_171 : decode cX12_count 171 = .ok (.iaload, 1) := by decide +kernel
theorem dX12_count_172 : decode cX12_count 172 = .ok (.ireturn, 1) := by decide +kernel
theorem dX12_count_173 : decode cX12_count 173 = .ok (.aload_n 0, 1) := by decide +kernel
theorem dX12_count_174 : decode cX12_count 174 = .ok (.getfield 20, 3) := by decide +kernel
theorem dX12_count_177 : decode cX12_count 177 = .ok (.sipush 394, 3) := by decide +kernel
theorem dX12_count_180 : decode cX12_count 180 = .ok (.iaload, 1) := by decide +kernel
theorem dX12_count_181 : decode cX12_count 181 = .ok (.ireturn, 1) := by decide +kernel
theorem dX12_count_182 : decode cX12_count 182 = .ok (.iconst (-1), 1) := by decide +kernel
theorem dX12_count_183 : decode cX12_count 183 = .ok (.ireturn, 1) := by decide +kernel
abbrev YX12_count : zY := (yX12_count, cX12_count, 4, (Option.some Jvm.ClassFile.FieldType.int), [])
def fX12_count_27 (F : zFs) (k_4 : Int → Int → zDa → Option (Int × zDa)) (o1 : Int) (v3 : Int) (s0 : Int) (s1 : Int) (D : zDa) : Option (Int × zDa) :=
  if (-2147483648 ≤ s1 + s0 ∧ s1 + s0 ≤ 2147483647) then
    zlet ((s1 + s0)) (fun x2_5 =>
      if (-2147483648 ≤ v3 + 1 ∧ v3 + 1 ≤ 2147483647) then
        k_4 x2_5 (v3 + 1) D
      else none)
  else none
def fX12_count_4 (F : zFs) (o1 : Int)  (k_4 : Int → Int → zDa → Option (Int × zDa)) (v2 : Int) (v3 : Int) (D : zDa) : Option (Int × zDa) :=
  (fX12_questions F D).bind (fun (r_1, D_2) =>
    if v3 < r_1 then
      (fX12_factOf F v3 2 D_2).bind (fun (r_3, D_4) =>
        if 0 < r_3 then
          fX12_count_27 F k_4 o1 v3 1 v2 D_4
        else
          fX12_count_27 F k_4 o1 v3 0 v2 D_4)
    else
      if o1 = 0 then
        (fX12_questions F D_2).bind (fun (r_6, D_7) =>
          some (r_6, D_7))
      else
        if o1 = 1 then
          (fX12_bowl F D_2).bind (fun (r_8, D_9) =>
            some (r_8, D_9))
        else
          if o1 = 2 then
            some ((D_2 93 393), D_2)
          else
            if o1 = 3 then
              some ((D_2 93 391), D_2)
            else
              if o1 = 4 then
                some ((D_2 93 392), D_2)
              else
                if o1 = 5 then
                  some (v2, D_2)
                else
                  if o1 = 6 then
                    some ((D_2 91 9), D_2)
                  else
                    if o1 = 7 then
                      if (-2147483648 ≤ o1 - 6 ∧ o1 - 6 ≤ 2147483647) ∧ (0 ≤ (o1 - 6) ∧ (o1 - 6) < 7) then
                        some ((D_2 92 (o1 - 6).toNat), D_2)
                      else none
                    else
                      if o1 = 8 then
                        if (-2147483648 ≤ o1 - 6 ∧ o1 - 6 ≤ 2147483647) ∧ (0 ≤ (o1 - 6) ∧ (o1 - 6) < 7) then
                          some ((D_2 92 (o1 - 6).toNat), D_2)
                        else none
                      else
                        if o1 = 9 then
                          if (-2147483648 ≤ o1 - 6 ∧ o1 - 6 ≤ 2147483647) ∧ (0 ≤ (o1 - 6) ∧ (o1 - 6) < 7) then
                            some ((D_2 92 (o1 - 6).toNat), D_2)
                          else none
                        else
                          if o1 = 10 then
                            some ((D_2 92 5), D_2)
                          else
                            if o1 = 11 then
                              some ((D_2 92 6), D_2)
                            else
                              if o1 = 12 then
                                some ((D_2 93 394), D_2)
                              else
                                some ((-1), D_2))
def fX12_count (F : zFs) (v1 : Int) (D : zDa) : Option (Int × zDa) :=
  zfix (fun _ _ _ => none) (fX12_count_4 F v1) zfu 0 0 D
set_option maxHeartbeats 20000000 in
theorem sX12_count_27 {l : Launch} {E : zE} {d : Nat} {F : zFs} {n sl : Nat} (hG : zG F)  (o1 : Int) (v3 : Int) (s0 : Int) (s1 : Int) (k_4 : Int → Int → zDa → Option (Int × zDa)) (hk_4 : ∀ (u2 : Int) (u3 : Int) (D : zDa), zO l E (d + 3) YX12_count 4 [(0, zR 91), (1, zI o1), (2, zI u2), (3, zI u3)] [] (F, D, n, sl) (zcI F n sl) (k_4 u2 u3 D)) (D : zDa) : zO l E (d + 3) YX12_count 27 [(0, zR 91), (1, zI o1), (3, zI v3)] [zI s0, zI s1] (F, D, n, sl) (zcI F n sl) (fX12_count_27 F k_4 o1 v3 s0 s1 D) := by
  unfold fX12_count_27
  refine zO_chk (fun h1 => ?_)
  refine zO_iadd dX12_count_27 h1 ?_
  refine zO_letI (fun x2_5 ex2_5 => ?_)
  refine zO_istore_n dX12_count_28 (by decide) ?_
  refine zO_ls (ls' := [(0, zR 91), (1, zI o1), (2, zI x2_5), (3, zI v3)]) rfl ?_
  refine zO_chk (fun h2 => ?_)
  refine zO_iinc dX12_count_29 rfl h2 (by decide) ?_
  refine zO_ls (ls' := [(0, zR 91), (1, zI o1), (2, zI x2_5), (3, zI (v3 + 1))]) rfl ?_
  refine zO_goto (tgt := 4) dX12_count_32 rfl ?_
  refine zO_live [0, 1, 2, 3] ?_
  exact hk_4 x2_5 (v3 + 1) D
set_option maxHeartbeats 20000000 in
theorem sX12_count_4 {l : Launch} {E : zE} {d : Nat} {F : zFs} {n sl : Nat} (hG : zG F)  (o1 : Int)   : ∀ (N : Nat) (v2 : Int) (v3 : Int) (D : zDa), zO l E (d + 3) YX12_count 4 [(0, zR 91), (1, zI o1), (2, zI v2), (3, zI v3)] [] (F, D, n, sl) (zcI F n sl) (zfix (fun _ _ _ => none) (fX12_count_4 F o1) N v2 v3 D) := by
  intro N
  induction N with
  | zero => intro v2 v3 D; exact zO_none
  | succ N hk_4 =>
    intro v2 v3 D
    show zO _ _ _ _ _ _ _ _ _ ((fX12_count_4 F o1) (zfix (fun _ _ _ => none) (fX12_count_4 F o1) N) v2 v3 D)
    unfold fX12_count_4
    refine zO_iload_n dX12_count_4 rfl ?_
    refine zO_aload_n dX12_count_5 rfl (zR_P _) ?_
    refine zO_callV (Y' := YX12_questions) (cw := zcI F n sl) (as := []) (rest := [zI v3]) (na := 0) (ci := 12) rfl dX12_count_6 wC_X12_questions wN_X12 wM_X12_146 wI_X12_questions wV_X12_questions (by decide) (by decide) rfl rfl (Nat.le_of_ble_eq_true rfl) rfl (by decide) (gk_91 hG) (fun r hr => zMet_cast (Nat.add_assoc d 2 0) (mX12_questions (d := d + 2) hG  r hr)) ?_
    rintro ⟨r_1, D_2⟩ -
    show zO _ _ _ _ _ _ [zI r_1, zI v3] (F, D_2, n, sl) _ _
    refine zO_icmp_ge (tgt := 35) dX12_count_9 rfl (fun c9 => ?_) (fun c9 => ?_)
    · refine zO_iload_n dX12_count_12 rfl ?_
      refine zO_aload_n dX12_count_13 rfl (zR_P _) ?_
      refine zO_iload_n dX12_count_14 rfl ?_
      refine zO_iconst dX12_count_15 (by decide) ?_
      refine zO_callV (Y' := YX12_factOf) (cw := zcI F n sl) (as := [zI v3, zI 2]) (rest := [zI v2]) (na := 2) (ci := 12) rfl dX12_count_16 wC_X12_factOf wN_X12 wM_X12_150 wI_X12_factOf wV_X12_factOf (by decide) (by decide) rfl rfl (Nat.le_of_ble_eq_true rfl) rfl (by decide) (gk_91 hG) (fun r hr => zMet_cast (Nat.add_assoc d 2 0) (mX12_factOf (d := d + 2) hG v3 2 r hr)) ?_
      rintro ⟨r_3, D_4⟩ -
      show zO _ _ _ _ _ _ [zI r_3, zI v2] (F, D_4, n, sl) _ _
      refine zO_if_le (tgt := 26) dX12_count_19 rfl (fun c19 => ?_) (fun c19 => ?_)
      · refine zO_iconst dX12_count_22 (by decide) ?_
        refine zO_goto (tgt := 27) dX12_count_23 rfl ?_
        refine zO_live [0, 1, 3] ?_
        exact sX12_count_27 hG o1 v3 1 v2 _ hk_4 D_4
      · refine zO_iconst dX12_count_26 (by decide) ?_
        refine zO_live [0, 1, 3] ?_
        exact sX12_count_27 hG o1 v3 0 v2 _ hk_4 D_4
    · refine zO_iload_n dX12_count_35 rfl ?_
      refine zO_ite (fun c36_0 => ?_) (fun c36_0 => ?_)
      · refine zO_tableIn (tgt := 104) dX12_count_36 ⟨0, c36_0, by decide, by decide, rfl⟩ rfl ?_
        refine zO_aload_n dX12_count_104 rfl (zR_P _) ?_
        refine zO_callV (Y' := YX12_questions) (cw := zcI F n sl) (as := []) (rest := []) (na := 0) (ci := 12) rfl dX12_count_105 wC_X12_questions wN_X12 wM_X12_146 wI_X12_questions wV_X12_questions (by decide) (by decide) rfl rfl (Nat.le_of_ble_eq_true rfl) rfl (by decide) (gk_91 hG) (fun r hr => zMet_cast (Nat.add_assoc d 2 0) (mX12_questions (d := d + 2) hG  r hr)) ?_
        rintro ⟨r_6, D_7⟩ -
        show zO _ _ _ _ _ _ [zI r_6] (F, D_7, n, sl) _ _
        exact zO_ret (rv := some (zI r_6)) dX12_count_108 rfl rfl rfl
      · refine zO_ite (fun c36_1 => ?_) (fun c36_1 => ?_)
        · refine zO_tableIn (tgt := 109) dX12_count_36 ⟨1, c36_1, by decide, by decide, rfl⟩ rfl ?_
          refine zO_aload_n dX12_count_109 rfl (zR_P _) ?_
          refine zO_callV (Y' := YX12_bowl) (cw := zcI F n sl) (as := []) (rest := []) (na := 0) (ci := 12) rfl dX12_count_110 wC_X12_bowl wN_X12 wM_X12_362 wI_X12_bowl wV_X12_bowl (by decide) (by decide) rfl rfl (Nat.le_of_ble_eq_true rfl) rfl (by decide) (gk_91 hG) (fun r hr => zMet_cast (Nat.add_assoc d 0 2) (mX12_bowl (d := d + 0) hG  r hr)) ?_
          rintro ⟨r_8, D_9⟩ -
          show zO _ _ _ _ _ _ [zI r_8] (F, D_9, n, sl) _ _
          exact zO_ret (rv := some (zI r_8)) dX12_count_113 rfl rfl rfl
        · refine zO_ite (fun c36_2 => ?_) (fun c36_2 => ?_)
          · refine zO_tableIn (tgt := 114) dX12_count_36 ⟨2, c36_2, by decide, by decide, rfl⟩ rfl ?_
            refine zO_aload_n dX12_count_114 rfl (zR_P _) ?_
            refine gt12 (k := 3) dX12_count_115 wF_X12_20 (by decide) (gk_91 hG) (zgv (c := 12) (k := 3) rfl (Or.inl ⟨_, rfl⟩) (gf_91_3 hG)) ?_
            refine zO_sipush dX12_count_118 (by decide) ?_
            refine zO_iald dX12_count_121 (gk_93 hG) (gl_in (gl_93 hG) (by decide)) ?_
            exact zO_ret (rv := some (zI (D_2 93 393))) dX12_count_122 rfl rfl rfl
          · refine zO_ite (fun c36_3 => ?_) (fun c36_3 => ?_)
            · refine zO_tableIn (tgt := 123) dX12_count_36 ⟨3, c36_3, by decide, by decide, rfl⟩ rfl ?_
              refine zO_aload_n dX12_count_123 rfl (zR_P _) ?_
              refine gt12 (k := 3) dX12_count_124 wF_X12_20 (by decide) (gk_91 hG) (zgv (c := 12) (k := 3) rfl (Or.inl ⟨_, rfl⟩) (gf_91_3 hG)) ?_
              refine zO_sipush dX12_count_127 (by decide) ?_
              refine zO_iald dX12_count_130 (gk_93 hG) (gl_in (gl_93 hG) (by decide)) ?_
              exact zO_ret (rv := some (zI (D_2 93 391))) dX12_count_131 rfl rfl rfl
            · refine zO_ite (fun c36_4 => ?_) (fun c36_4 => ?_)
              · refine zO_tableIn (tgt := 132) dX12_count_36 ⟨4, c36_4, by decide, by decide, rfl⟩ rfl ?_
                refine zO_aload_n dX12_count_132 rfl (zR_P _) ?_
                refine gt12 (k := 3) dX12_count_133 wF_X12_20 (by decide) (gk_91 hG) (zgv (c := 12) (k := 3) rfl (Or.inl ⟨_, rfl⟩) (gf_91_3 hG)) ?_
                refine zO_sipush dX12_count_136 (by decide) ?_
                refine zO_iald dX12_count_139 (gk_93 hG) (gl_in (gl_93 hG) (by decide)) ?_
                exact zO_ret (rv := some (zI (D_2 93 392))) dX12_count_140 rfl rfl rfl
              · refine zO_ite (fun c36_5 => ?_) (fun c36_5 => ?_)
                · refine zO_tableIn (tgt := 141) dX12_count_36 ⟨5, c36_5, by decide, by decide, rfl⟩ rfl ?_
                  refine zO_iload_n dX12_count_141 rfl ?_
                  exact zO_ret (rv := some (zI v2)) dX12_count_142 rfl rfl rfl
                · refine zO_ite (fun c36_6 => ?_) (fun c36_6 => ?_)
                  · refine zO_tableIn (tgt := 143) dX12_count_36 ⟨6, c36_6, by decide, by decide, rfl⟩ rfl ?_
                    refine zO_aload_n dX12_count_143 rfl (zR_P _) ?_
                    refine gt12 (k := 9) (v := zI (D_2 91 9)) dX12_count_144 wF_X12_170 (by decide) (gk_91 hG) rfl ?_
                    exact zO_ret (rv := some (zI (D_2 91 9))) dX12_count_147 rfl rfl rfl
                  · refine zO_ite (fun c36_7 => ?_) (fun c36_7 => ?_)
                    · refine zO_tableIn (tgt := 148) dX12_count_36 ⟨7, c36_7, by decide, by decide, rfl⟩ rfl ?_
                      refine zO_chk (fun h3 => ?_)
                      refine zO_aload_n dX12_count_148 rfl (zR_P _) ?_
                      refine gt12 (k := 2) dX12_count_149 wF_X12_7 (by decide) (gk_91 hG) (zgv (c := 12) (k := 2) rfl (Or.inl ⟨_, rfl⟩) (gf_91_2 hG)) ?_
                      refine zO_iload_n dX12_count_152 rfl ?_
                      refine zO_bipush dX12_count_153 (by decide) ?_
                      refine zO_isub dX12_count_155 h3.1 ?_
                      refine zO_iald dX12_count_156 (gk_92 hG) (gl_in (gl_92 hG) h3.2) ?_
                      exact zO_ret (rv := some (zI (D_2 92 (o1 - 6).toNat))) dX12_count_157 rfl rfl rfl
                    · refine zO_ite (fun c36_8 => ?_) (fun c36_8 => ?_)
                      · refine zO_tableIn (tgt := 148) dX12_count_36 ⟨8, c36_8, by decide, by decide, rfl⟩ rfl ?_
                        refine zO_chk (fun h4 => ?_)
                        refine zO_aload_n dX12_count_148 rfl (zR_P _) ?_
                        refine gt12 (k := 2) dX12_count_149 wF_X12_7 (by decide) (gk_91 hG) (zgv (c := 12) (k := 2) rfl (Or.inl ⟨_, rfl⟩) (gf_91_2 hG)) ?_
                        refine zO_iload_n dX12_count_152 rfl ?_
                        refine zO_bipush dX12_count_153 (by decide) ?_
                        refine zO_isub dX12_count_155 h4.1 ?_
                        refine zO_iald dX12_count_156 (gk_92 hG) (gl_in (gl_92 hG) h4.2) ?_
                        exact zO_ret (rv := some (zI (D_2 92 (o1 - 6).toNat))) dX12_count_157 rfl rfl rfl
                      · refine zO_ite (fun c36_9 => ?_) (fun c36_9 => ?_)
                        · refine zO_tableIn (tgt := 148) dX12_count_36 ⟨9, c36_9, by decide, by decide, rfl⟩ rfl ?_
                          refine zO_chk (fun h5 => ?_)
                          refine zO_aload_n dX12_count_148 rfl (zR_P _) ?_
                          refine gt12 (k := 2) dX12_count_149 wF_X12_7 (by decide) (gk_91 hG) (zgv (c := 12) (k := 2) rfl (Or.inl ⟨_, rfl⟩) (gf_91_2 hG)) ?_
                          refine zO_iload_n dX12_count_152 rfl ?_
                          refine zO_bipush dX12_count_153 (by decide) ?_
                          refine zO_isub dX12_count_155 h5.1 ?_
                          refine zO_iald dX12_count_156 (gk_92 hG) (gl_in (gl_92 hG) h5.2) ?_
                          exact zO_ret (rv := some (zI (D_2 92 (o1 - 6).toNat))) dX12_count_157 rfl rfl rfl
                        · refine zO_ite (fun c36_10 => ?_) (fun c36_10 => ?_)
                          · refine zO_tableIn (tgt := 158) dX12_count_36 ⟨10, c36_10, by decide, by decide, rfl⟩ rfl ?_
                            refine zO_aload_n dX12_count_158 rfl (zR_P _) ?_
                            refine gt12 (k := 2) dX12_count_159 wF_X12_7 (by decide) (gk_91 hG) (zgv (c := 12) (k := 2) rfl (Or.inl ⟨_, rfl⟩) (gf_91_2 hG)) ?_
                            refine zO_iconst dX12_count_162 (by decide) ?_
                            refine zO_iald dX12_count_163 (gk_92 hG) (gl_in (gl_92 hG) (by decide)) ?_
                            exact zO_ret (rv := some (zI (D_2 92 5))) dX12_count_164 rfl rfl rfl
                          · refine zO_ite (fun c36_11 => ?_) (fun c36_11 => ?_)
                            · refine zO_tableIn (tgt := 165) dX12_count_36 ⟨11, c36_11, by decide, by decide, rfl⟩ rfl ?_
                              refine zO_aload_n dX12_count_165 rfl (zR_P _) ?_
                              refine gt12 (k := 2) dX12_count_166 wF_X12_7 (by decide) (gk_91 hG) (zgv (c := 12) (k := 2) rfl (Or.inl ⟨_, rfl⟩) (gf_91_2 hG)) ?_
                              refine zO_bipush dX12_count_169 (by decide) ?_
                              refine zO_iald dX12_count_171 (gk_92 hG) (gl_in (gl_92 hG) (by decide)) ?_
                              exact zO_ret (rv := some (zI (D_2 92 6))) dX12_count_172 rfl rfl rfl
                            · refine zO_ite (fun c36_12 => ?_) (fun c36_12 => ?_)
                              · refine zO_tableIn (tgt := 173) dX12_count_36 ⟨12, c36_12, by decide, by decide, rfl⟩ rfl ?_
                                refine zO_aload_n dX12_count_173 rfl (zR_P _) ?_
                                refine gt12 (k := 3) dX12_count_174 wF_X12_20 (by decide) (gk_91 hG) (zgv (c := 12) (k := 3) rfl (Or.inl ⟨_, rfl⟩) (gf_91_3 hG)) ?_
                                refine zO_sipush dX12_count_177 (by decide) ?_
                                refine zO_iald dX12_count_180 (gk_93 hG) (gl_in (gl_93 hG) (by decide)) ?_
                                exact zO_ret (rv := some (zI (D_2 93 394))) dX12_count_181 rfl rfl rfl
                              · refine zO_tableOut (tgt := 182) dX12_count_36 (by omega) rfl ?_
                                refine zO_iconst dX12_count_182 (by decide) ?_
                                exact zO_ret (rv := some (zI (-1))) dX12_count_183 rfl rfl rfl
set_option maxHeartbeats 20000000 in
theorem mX12_count {l : Launch} {E : zE} {d : Nat} {F : zFs} {n sl : Nat} (hG : zG F) (v1 : Int) {D : zDa} : ∀ r, fX12_count F  v1 D = some r → zMet l E (d + 3) YX12_count [zR 91, zI v1] (F, D, n, sl) (zcI F n sl r) := by
  intro r hr
  refine zMet_of (plainFor_of_name (by decide)) (fun _ h => (nomatch h)) (Nat.le_of_ble_eq_true rfl) ?_
  have hz : zO l E (d + 3) YX12_count 0 [(0, zR 91), (1, zI v1)] [] (F, D, n, sl) (zcI F n sl) (fX12_count F  v1 D) := by
    unfold fX12_count
    refine zO_iconst dX12_count_0 (by decide) ?_
    refine zO_istore_n dX12_count_1 (by decide) ?_
    refine zO_ls (ls' := [(0, zR 91), (1, zI v1), (2, zI 0)]) rfl ?_
    refine zO_iconst dX12_count_2 (by decide) ?_
    refine zO_istore_n dX12_count_3 (by decide) ?_
    refine zO_ls (ls' := [(0, zR 91), (1, zI v1), (2, zI 0), (3, zI 0)]) rfl ?_
    refine zO_live [0, 1, 2, 3] ?_
    exact sX12_count_4 hG v1 zfu 0 0 D
  exact hz r hr
theorem dX12_status_0 : decode cX12_status 0 = .ok (.aload_n 0, 1) := by decide +kernel
theorem dX12_status_1 : decode cX12_status 1 = .ok (.getfield 3, 3) := by decide +kernel
theorem dX12_status_4 : decode cX12_status 4 = .ok (.ireturn, 1) := by decide +kernel
abbrev YX12_status : zY := (yX12_status, cX12_status, 1, (Option.some Jvm.ClassFile.FieldType.int), [])
def fX12_status (F : zFs)  (D : zDa) : Option (Int × zDa) :=
  some ((D 91 0), D)
set_option maxHeartbeats 20000000 in
theorem mX12_status {l : Launch} {E : zE} {d : Nat} {F : zFs} {n sl : Nat} (hG : zG F)  {D : zDa} : ∀ r, fX12_status F   D = some r → zMet l E (d + 0) YX12_status [zR 91] (F, D, n, sl) (zcI F n sl r) := by
  intro r hr
  refine zMet_of (plainFor_of_name (by decide)) (fun _ h => (nomatch h)) (Nat.le_of_ble_eq_true rfl) ?_
  have hz : zO l E (d + 0) YX12_status 0 [(0, zR 91)] [] (F, D, n, sl) (zcI F n sl) (fX12_status F   D) := by
    unfold fX12_status
    refine zO_aload_n dX12_status_0 rfl (zR_P _) ?_
    refine gt12 (k := 0) (v := zI (D 91 0)) dX12_status_1 wF_X12_3 (by decide) (gk_91 hG) rfl ?_
    exact zO_ret (rv := some (zI (D 91 0))) dX12_status_4 rfl rfl rfl
  exact hz r hr
